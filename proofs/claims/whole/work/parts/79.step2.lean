/-! A STEP HOLDS, whatever the method's end is to be: rows that neither return nor throw (written by wip/whole/gen79.py out of part 05) -/
set_option maxHeartbeats 4000000 in
set_option maxRecDepth 100000 in
theorem jj_sound2 {M : jj_M} {Z : jj_E} {T : jj_T} {RC RS : Nat} {x : jj_X} {post : Option Value → jj_H → Prop} {X : jj_H → String → Prop} (hC : jj_Cx M RC RS x) (hp : ∀ v η, ¬ post v η) (hX : ∀ η E, ¬ X η E) (hZ : jj_Zok (jj_nm M).cls Z) (hT : jj_Tok M Z T) {K : jj_K} (hK : ∀ η k n pc ls st, K η k n pc ls st → jj_J x η k n pc ls st)
    (η : jj_H) (k n pc : Nat) (ls : jj_L) (st : List Value) (h : jj_step Z T RC RS post X K η k n pc ls st) : jj_J x η k n pc ls st := by
  unfold jj_step at h
  cases hr : jj_lk T pc with
  | none => rw [hr] at h; exact hK _ _ _ _ _ _ h
  | some row =>
  obtain ⟨ins, nx, a, ci, cl⟩ := row
  rw [hr] at h
  dsimp only at h
  have ho := hT pc _ hr
  unfold jj_okr at ho
  simp only [Bool.and_eq_true] at ho
  obtain ⟨⟨hd, hnx⟩, ho⟩ := ho
  have hd := jj_dec_ok hd
  obtain rfl := Nat.eq_of_beq_eq_true hnx
  clear hr
  obtain ⟨p, l, e, R, s, m, args, below, meth, c, Q, D, tyc, A⟩ := x
  obtain ⟨hx, hb, hml, hown, hts, hlocks, hr, hin, hfr, hlo, hRC, hRS, hKK, hA, hWd, hst⟩ := hC
  have hK : ∀ (η : jj_H) (k n pc : Nat) (ls : jj_L) (st : List Value), K η k n pc ls st → ∀ (ws : va_W) (H : Heap) (locs : List Loc) (lsA : Array Slot), jj_is η ws → va_P D vwCl (jj_ws tyc ws) H → va_D A (jj_ws tyc ws) → va_S A s.heap H locs → lv_has lsA c.maxLocals ls → W p l e R s m args below meth c H locs k n Q (F0 m pc lsA st) := hK
  intro ws H locs lsA hi hP hD hS hl
  cases ins with
  | iconst z =>
    try dsimp only at h
    try dsimp only at ho
    exact lv_iconst hx hb hd (of_decide_eq_true ho) (hK _ _ _ _ _ _ h ws H locs lsA hi hP hD hS hl)
  | bipush z =>
    try dsimp only at h
    try dsimp only at ho
    exact lv_bipush hx hb hd (of_decide_eq_true ho) (hK _ _ _ _ _ _ h ws H locs lsA hi hP hD hS hl)
  | sipush z =>
    try dsimp only at h
    try dsimp only at ho
    exact lv_sipush hx hb hd (of_decide_eq_true ho) (hK _ _ _ _ _ _ h ws H locs lsA hi hP hD hS hl)
  | ldc z =>
    try dsimp only at h
    try dsimp only at ho
    exact lv_ldc hx hb hown (hts _ (of_decide_eq_true ho)) hd (hK _ _ _ _ _ _ h ws H locs lsA hi hP hD hS hl)
  | ldc_w z =>
    try dsimp only at h
    try dsimp only at ho
    exact lv_ldcw hx hb hown (hts _ (of_decide_eq_true ho)) hd (hK _ _ _ _ _ _ h ws H locs lsA hi hP hD hS hl)
  | ldc2_w z =>
    try dsimp only at h
    try dsimp only at ho
    exact lv_ldc2 hx hb hown (hts _ (of_decide_eq_true ho)) hd (hK _ _ _ _ _ _ h ws H locs lsA hi hP hD hS hl)
  | lconst z =>
    try dsimp only at h
    try dsimp only at ho
    exact lv_lconst hx hb hd (of_decide_eq_true ho) (hK _ _ _ _ _ _ h ws H locs lsA hi hP hD hS hl)
  | dconst z =>
    try dsimp only at h
    try dsimp only at ho
    obtain rfl := of_decide_eq_true ho
    exact lv_dconst0 hx hb hd (hK _ _ _ _ _ _ h ws H locs lsA hi hP hD hS hl)
  | aconst_null =>
    try dsimp only at h
    try dsimp only at ho
    exact lv_null hx hb hd (hK _ _ _ _ _ _ h ws H locs lsA hi hP hD hS hl)
  | iload z =>
    try dsimp only at h
    try dsimp only at ho
    obtain rfl := Nat.eq_of_beq_eq_true ho
    split at h
    next v hg => exact lv_iload hx hb hd (jj_rd hl hg) (hK _ _ _ _ _ _ h ws H locs lsA hi hP hD hS hl)
    next => exact h.elim
  | iload_n z =>
    try dsimp only at h
    try dsimp only at ho
    have ho := Nat.eq_of_beq_eq_true ho
    split at h
    next v hg => exact lv_iload_n hx hb hd ho (jj_rd hl hg) (hK _ _ _ _ _ _ h ws H locs lsA hi hP hD hS hl)
    next => exact h.elim
  | lload z =>
    try dsimp only at h
    try dsimp only at ho
    obtain rfl := Nat.eq_of_beq_eq_true ho
    split at h
    next v hg => exact lv_lload hx hb hd (jj_rd hl hg) (hK _ _ _ _ _ _ h ws H locs lsA hi hP hD hS hl)
    next => exact h.elim
  | lload_n z =>
    try dsimp only at h
    try dsimp only at ho
    have ho := Nat.eq_of_beq_eq_true ho
    split at h
    next v hg => exact lv_lload_n hx hb hd ho (jj_rd hl hg) (hK _ _ _ _ _ _ h ws H locs lsA hi hP hD hS hl)
    next => exact h.elim
  | dload z =>
    try dsimp only at h
    try dsimp only at ho
    obtain rfl := Nat.eq_of_beq_eq_true ho
    split at h
    next v hg => exact lv_dload hx hb hd (jj_rd hl hg) (hK _ _ _ _ _ _ h ws H locs lsA hi hP hD hS hl)
    next => exact h.elim
  | dload_n z =>
    try dsimp only at h
    try dsimp only at ho
    have ho := Nat.eq_of_beq_eq_true ho
    split at h
    next v hg => exact lv_dload_n hx hb hd ho (jj_rd hl hg) (hK _ _ _ _ _ _ h ws H locs lsA hi hP hD hS hl)
    next => exact h.elim
  | aload z =>
    try dsimp only at h
    try dsimp only at ho
    obtain rfl := Nat.eq_of_beq_eq_true ho
    split at h
    next v hg => exact lv_aload hx hb hd (jj_rd hl hg) (hK _ _ _ _ _ _ h ws H locs lsA hi hP hD hS hl)
    next hg => exact lv_aloadN hx hb hd (jj_rd hl hg) (hK _ _ _ _ _ _ h ws H locs lsA hi hP hD hS hl)
    next => exact h.elim
  | aload_n z =>
    try dsimp only at h
    try dsimp only at ho
    have ho := Nat.eq_of_beq_eq_true ho
    split at h
    next v hg => exact lv_aload_n hx hb hd ho (jj_rd hl hg) (hK _ _ _ _ _ _ h ws H locs lsA hi hP hD hS hl)
    next hg => exact lv_aload_nN hx hb hd ho (jj_rd hl hg) (hK _ _ _ _ _ _ h ws H locs lsA hi hP hD hS hl)
    next => exact h.elim
  | istore z =>
    try dsimp only at h
    try dsimp only at ho
    simp only [Bool.and_eq_true] at ho
    have ho1 := Nat.eq_of_beq_eq_true ho.1
    have ho2 := jj_blt ho.2
    split at h
    next v r =>
      rw [jj_fc_eq] at h
      subst ho1
      exact lv_istore hx hb hd hl (by rw [hml]; exact ho2) rfl (fun ls' hl' => hK _ _ _ _ _ _ h ws H locs ls' hi hP hD hS (jj_set1 hl'))
    next => exact h.elim
  | istore_n z =>
    try dsimp only at h
    try dsimp only at ho
    simp only [Bool.and_eq_true] at ho
    have ho1 := Nat.eq_of_beq_eq_true ho.1
    have ho2 := jj_blt ho.2
    split at h
    next v r =>
      rw [jj_fc_eq] at h
      exact lv_istore_n hx hb hd ho1 hl (by rw [hml]; exact ho2) rfl (fun ls' hl' => hK _ _ _ _ _ _ h ws H locs ls' hi hP hD hS (jj_set1 hl'))
    next => exact h.elim
  | lstore z =>
    try dsimp only at h
    try dsimp only at ho
    simp only [Bool.and_eq_true] at ho
    have ho1 := Nat.eq_of_beq_eq_true ho.1
    have ho2 := jj_blt ho.2
    split at h
    next v r =>
      rw [jj_fc_eq] at h
      subst ho1
      exact lv_lstore hx hb hd hl (by rw [hml]; exact ho2) rfl (fun ls' hl' => hK _ _ _ _ _ _ h ws H locs ls' hi hP hD hS (jj_set2 hl'))
    next => exact h.elim
  | lstore_n z =>
    try dsimp only at h
    try dsimp only at ho
    simp only [Bool.and_eq_true] at ho
    have ho1 := Nat.eq_of_beq_eq_true ho.1
    have ho2 := jj_blt ho.2
    split at h
    next v r =>
      rw [jj_fc_eq] at h
      exact lv_lstore_n hx hb hd ho1 hl (by rw [hml]; exact ho2) rfl (fun ls' hl' => hK _ _ _ _ _ _ h ws H locs ls' hi hP hD hS (jj_set2 hl'))
    next => exact h.elim
  | dstore z =>
    try dsimp only at h
    try dsimp only at ho
    simp only [Bool.and_eq_true] at ho
    have ho1 := Nat.eq_of_beq_eq_true ho.1
    have ho2 := jj_blt ho.2
    split at h
    next v r =>
      rw [jj_fc_eq] at h
      subst ho1
      exact lv_dstore hx hb hd hl (by rw [hml]; exact ho2) rfl (fun ls' hl' => hK _ _ _ _ _ _ h ws H locs ls' hi hP hD hS (jj_set2 hl'))
    next => exact h.elim
  | dstore_n z =>
    try dsimp only at h
    try dsimp only at ho
    simp only [Bool.and_eq_true] at ho
    have ho1 := Nat.eq_of_beq_eq_true ho.1
    have ho2 := jj_blt ho.2
    split at h
    next v r =>
      rw [jj_fc_eq] at h
      exact lv_dstore_n hx hb hd ho1 hl (by rw [hml]; exact ho2) rfl (fun ls' hl' => hK _ _ _ _ _ _ h ws H locs ls' hi hP hD hS (jj_set2 hl'))
    next => exact h.elim
  | astore z =>
    try dsimp only at h
    try dsimp only at ho
    simp only [Bool.and_eq_true] at ho
    have ho1 := Nat.eq_of_beq_eq_true ho.1
    have ho2 := jj_blt ho.2
    split at h
    next v r =>
      rw [jj_fc_eq] at h
      subst ho1
      exact lv_astore hx hb hd hl (by rw [hml]; exact ho2) rfl (fun ls' hl' => hK _ _ _ _ _ _ h ws H locs ls' hi hP hD hS (jj_set1 hl'))
    next r =>
      rw [jj_fc_eq] at h
      subst ho1
      exact lv_astoreN hx hb hd hl (by rw [hml]; exact ho2) rfl (fun ls' hl' => hK _ _ _ _ _ _ h ws H locs ls' hi hP hD hS (jj_set1 hl'))
    next => exact h.elim
  | astore_n z =>
    try dsimp only at h
    try dsimp only at ho
    simp only [Bool.and_eq_true] at ho
    have ho1 := Nat.eq_of_beq_eq_true ho.1
    have ho2 := jj_blt ho.2
    split at h
    next v r =>
      rw [jj_fc_eq] at h
      exact lv_astore_n hx hb hd ho1 hl (by rw [hml]; exact ho2) rfl (fun ls' hl' => hK _ _ _ _ _ _ h ws H locs ls' hi hP hD hS (jj_set1 hl'))
    next r =>
      rw [jj_fc_eq] at h
      exact lv_astore_nN hx hb hd ho1 hl (by rw [hml]; exact ho2) rfl (fun ls' hl' => hK _ _ _ _ _ _ h ws H locs ls' hi hP hD hS (jj_set1 hl'))
    next => exact h.elim
  | iinc z w =>
    try dsimp only at h
    try dsimp only at ho
    simp only [Bool.and_eq_true] at ho
    obtain rfl := Nat.eq_of_beq_eq_true ho.1.1
    have ho2 := jj_blt ho.1.2
    have ho3 := of_decide_eq_true ho.2
    split at h
    next v hg =>
      rw [jj_fc_eq] at h
      obtain ⟨i, hgi⟩ := List.getElem?_of_mem (jj_get_mem hg)
      exact lv_iinc hx hb hd hl hgi (by rw [ho3]) (by rw [hml]; exact ho2) rfl (fun ls' hl' => hK _ _ _ _ _ _ h ws H locs ls' hi hP hD hS (jj_set1 hl'))
    next => exact h.elim
  | dup =>
    try dsimp only at h
    try dsimp only at ho
    split at h
    next v r => exact lv_dup hx hb hd rfl (hK _ _ _ _ _ _ h ws H locs lsA hi hP hD hS hl)
    next v r => exact lv_dup hx hb hd rfl (hK _ _ _ _ _ _ h ws H locs lsA hi hP hD hS hl)
    next => exact h.elim
  | dup2 =>
    try dsimp only at h
    try dsimp only at ho
    split at h
    next v w r => exact lv_dup2_11 hx hb hd rfl rfl (hK _ _ _ _ _ _ h ws H locs lsA hi hP hD hS hl)
    next => exact h.elim
  | iadd =>
    try dsimp only at h
    try dsimp only at ho
    split at h
    next y x r => exact lv_iadd hx hb hd (hK _ _ _ _ _ _ h ws H locs lsA hi hP hD hS hl)
    next => exact h.elim
  | isub =>
    try dsimp only at h
    try dsimp only at ho
    split at h
    next y x r => exact lv_isub hx hb hd (hK _ _ _ _ _ _ h ws H locs lsA hi hP hD hS hl)
    next => exact h.elim
  | imul =>
    try dsimp only at h
    try dsimp only at ho
    split at h
    next y x r => exact lv_imul hx hb hd (hK _ _ _ _ _ _ h ws H locs lsA hi hP hD hS hl)
    next => exact h.elim
  | iand =>
    try dsimp only at h
    try dsimp only at ho
    split at h
    next y x r => exact lv_iand hx hb hd (hK _ _ _ _ _ _ h ws H locs lsA hi hP hD hS hl)
    next => exact h.elim
  | ior =>
    try dsimp only at h
    try dsimp only at ho
    split at h
    next y x r => exact lv_ior hx hb hd (hK _ _ _ _ _ _ h ws H locs lsA hi hP hD hS hl)
    next => exact h.elim
  | ishl =>
    try dsimp only at h
    try dsimp only at ho
    split at h
    next y x r => exact lv_ishl hx hb hd (hK _ _ _ _ _ _ h ws H locs lsA hi hP hD hS hl)
    next => exact h.elim
  | ladd =>
    try dsimp only at h
    try dsimp only at ho
    split at h
    next y x r => exact lv_ladd hx hb hd (hK _ _ _ _ _ _ h ws H locs lsA hi hP hD hS hl)
    next => exact h.elim
  | lsub =>
    try dsimp only at h
    try dsimp only at ho
    split at h
    next y x r => exact lv_lsub hx hb hd (hK _ _ _ _ _ _ h ws H locs lsA hi hP hD hS hl)
    next => exact h.elim
  | lmul =>
    try dsimp only at h
    try dsimp only at ho
    split at h
    next y x r => exact lv_lmul hx hb hd (hK _ _ _ _ _ _ h ws H locs lsA hi hP hD hS hl)
    next => exact h.elim
  | land =>
    try dsimp only at h
    try dsimp only at ho
    split at h
    next y x r => exact lv_land hx hb hd (hK _ _ _ _ _ _ h ws H locs lsA hi hP hD hS hl)
    next => exact h.elim
  | lor =>
    try dsimp only at h
    try dsimp only at ho
    split at h
    next y x r => exact lv_lor hx hb hd (hK _ _ _ _ _ _ h ws H locs lsA hi hP hD hS hl)
    next => exact h.elim
  | lxor =>
    try dsimp only at h
    try dsimp only at ho
    split at h
    next y x r => exact lv_lxor hx hb hd (hK _ _ _ _ _ _ h ws H locs lsA hi hP hD hS hl)
    next => exact h.elim
  | lcmp =>
    try dsimp only at h
    try dsimp only at ho
    split at h
    next y x r => exact W.lcmp hx hb hd (hK _ _ _ _ _ _ h ws H locs lsA hi hP hD hS hl)
    next => exact h.elim
  | idiv =>
    try dsimp only at h
    try dsimp only at ho
    split at h
    next y x r => exact lv_idiv hx hb hd h.1 (hK _ _ _ _ _ _ h.2 ws H locs lsA hi hP hD hS hl)
    next => exact h.elim
  | irem =>
    try dsimp only at h
    try dsimp only at ho
    split at h
    next y x r => exact lv_irem hx hb hd h.1 (hK _ _ _ _ _ _ h.2 ws H locs lsA hi hP hD hS hl)
    next => exact h.elim
  | iushr =>
    try dsimp only at h
    try dsimp only at ho
    split at h
    next y x r => exact lv_iushr hx hb hd rfl (hK _ _ _ _ _ _ h ws H locs lsA hi hP hD hS hl)
    next => exact h.elim
  | lshl =>
    try dsimp only at h
    try dsimp only at ho
    split at h
    next y x r => exact lv_lshl hx hb hd rfl (hK _ _ _ _ _ _ h ws H locs lsA hi hP hD hS hl)
    next => exact h.elim
  | lushr =>
    try dsimp only at h
    try dsimp only at ho
    split at h
    next y x r => exact lv_lushr hx hb hd rfl (hK _ _ _ _ _ _ h ws H locs lsA hi hP hD hS hl)
    next => exact h.elim
  | i2l =>
    try dsimp only at h
    try dsimp only at ho
    split at h
    next x r => exact lv_i2l hx hb hd rfl (hK _ _ _ _ _ _ h ws H locs lsA hi hP hD hS hl)
    next => exact h.elim
  | l2i =>
    try dsimp only at h
    try dsimp only at ho
    split at h
    next x r => exact lv_l2i hx hb hd rfl (hK _ _ _ _ _ _ h ws H locs lsA hi hP hD hS hl)
    next => exact h.elim
  | i2d =>
    try dsimp only at h
    try dsimp only at ho
    split at h
    next x r => exact lv_i2d hx hb hd (hK _ _ _ _ _ _ h ws H locs lsA hi hP hD hS hl)
    next => exact h.elim
  | dcmp op =>
    try dsimp only at h
    try dsimp only at ho
    split at h
    next y x r => exact lv_dcmp hx hb hd (hK _ _ _ _ _ _ h ws H locs lsA hi hP hD hS hl)
    next => exact h.elim
  | goto z =>
    try dsimp only at h
    try dsimp only at ho
    exact lv_goto hx hb hd (of_decide_eq_true ho) (hK _ _ _ _ _ _ h ws H locs lsA hi hP hD hS hl)
  | ifCond c0 z =>
    try dsimp only at h
    try dsimp only at ho
    have ho := of_decide_eq_true ho
    split at h
    next x r =>
      cases c0 with
      | eq => exact lv_if_eq hx hb hd ho (fun q => hK _ _ _ _ _ _ (h.1 q) ws H locs lsA hi hP hD hS hl) (fun q => hK _ _ _ _ _ _ (h.2 (by first | exact q | exact fun z => z q)) ws H locs lsA hi hP hD hS hl)
      | ne => exact lv_if_ne hx hb hd ho (fun q => hK _ _ _ _ _ _ (h.1 q) ws H locs lsA hi hP hD hS hl) (fun q => hK _ _ _ _ _ _ (h.2 (by first | exact q | exact fun z => z q)) ws H locs lsA hi hP hD hS hl)
      | lt => exact lv_if_lt hx hb hd ho (fun q => hK _ _ _ _ _ _ (h.1 q) ws H locs lsA hi hP hD hS hl) (fun q => hK _ _ _ _ _ _ (h.2 (by first | exact q | exact fun z => z q)) ws H locs lsA hi hP hD hS hl)
      | ge => exact lv_if_ge hx hb hd ho (fun q => hK _ _ _ _ _ _ (h.1 q) ws H locs lsA hi hP hD hS hl) (fun q => hK _ _ _ _ _ _ (h.2 (by first | exact q | exact fun z => z q)) ws H locs lsA hi hP hD hS hl)
      | gt => exact lv_if_gt hx hb hd ho (fun q => hK _ _ _ _ _ _ (h.1 q) ws H locs lsA hi hP hD hS hl) (fun q => hK _ _ _ _ _ _ (h.2 (by first | exact q | exact fun z => z q)) ws H locs lsA hi hP hD hS hl)
      | le => exact lv_if_le hx hb hd ho (fun q => hK _ _ _ _ _ _ (h.1 q) ws H locs lsA hi hP hD hS hl) (fun q => hK _ _ _ _ _ _ (h.2 (by first | exact q | exact fun z => z q)) ws H locs lsA hi hP hD hS hl)
    next => exact h.elim
  | if_icmp c0 z =>
    try dsimp only at h
    try dsimp only at ho
    have ho := of_decide_eq_true ho
    split at h
    next y x r =>
      cases c0 with
      | eq => exact lv_icmp_eq hx hb hd ho (fun q => hK _ _ _ _ _ _ (h.1 q) ws H locs lsA hi hP hD hS hl) (fun q => hK _ _ _ _ _ _ (h.2 (by first | exact q | exact fun z => z q)) ws H locs lsA hi hP hD hS hl)
      | ne => exact lv_icmp_ne hx hb hd ho (fun q => hK _ _ _ _ _ _ (h.1 q) ws H locs lsA hi hP hD hS hl) (fun q => hK _ _ _ _ _ _ (h.2 (by first | exact q | exact fun z => z q)) ws H locs lsA hi hP hD hS hl)
      | lt => exact lv_icmp_lt hx hb hd ho (fun q => hK _ _ _ _ _ _ (h.1 q) ws H locs lsA hi hP hD hS hl) (fun q => hK _ _ _ _ _ _ (h.2 (by first | exact q | exact fun z => z q)) ws H locs lsA hi hP hD hS hl)
      | ge => exact lv_icmp_ge hx hb hd ho (fun q => hK _ _ _ _ _ _ (h.1 q) ws H locs lsA hi hP hD hS hl) (fun q => hK _ _ _ _ _ _ (h.2 (by first | exact q | exact fun z => z q)) ws H locs lsA hi hP hD hS hl)
      | gt => exact lv_icmp_gt hx hb hd ho (fun q => hK _ _ _ _ _ _ (h.1 q) ws H locs lsA hi hP hD hS hl) (fun q => hK _ _ _ _ _ _ (h.2 (by first | exact q | exact fun z => z q)) ws H locs lsA hi hP hD hS hl)
      | le => exact lv_icmp_le hx hb hd ho (fun q => hK _ _ _ _ _ _ (h.1 q) ws H locs lsA hi hP hD hS hl) (fun q => hK _ _ _ _ _ _ (h.2 (by first | exact q | exact fun z => z q)) ws H locs lsA hi hP hD hS hl)
    next => exact h.elim
  | tableswitch d lo9 hi9 os =>
    try dsimp only at h
    try dsimp only at ho
    split at h
    next x r =>
      rcases h with ⟨i, o, t, h1, h2, h3, h4, h⟩ | ⟨h1, t, h4, h⟩
      · rw [jj_nth_get] at h3
        refine lv_tableIn hx hb hd (off := o) (by omega) (by omega) ?_ h4 (hK _ _ _ _ _ _ h ws H locs lsA hi hP hD hS hl)
        rw [show (x.toInt - lo9).toNat = i by omega, ← Array.getElem?_toList]
        exact h3
      · exact lv_tableOut hx hb hd h1 h4 (hK _ _ _ _ _ _ h ws H locs lsA hi hP hD hS hl)
    next => exact h.elim
  | ifnull z =>
    try dsimp only at h
    try dsimp only at ho
    split at h
    next r => exact lv_ifnullN hx hb hd (of_decide_eq_true ho) (hK _ _ _ _ _ _ h ws H locs lsA hi hP hD hS hl)
    next v r => exact lv_ifnull hx hb hd (hK _ _ _ _ _ _ h ws H locs lsA hi hP hD hS hl)
    next => exact h.elim
  | ifnonnull z =>
    try dsimp only at h
    try dsimp only at ho
    split at h
    next r => exact lv_ifnonnullN hx hb hd (hK _ _ _ _ _ _ h ws H locs lsA hi hP hD hS hl)
    next v r => exact lv_ifnonnull hx hb hd (of_decide_eq_true ho) (hK _ _ _ _ _ _ h ws H locs lsA hi hP hD hS hl)
    next => exact h.elim
  | getfield z =>
    try dsimp only at h
    try dsimp only at ho
    split at h
    next b r =>
      split at h
      next y ci j hz =>
        rw [hz] at ho
        obtain rfl := Nat.eq_of_beq_eq_true ho
        obtain ⟨fs, hη, h⟩ := h
        split at h
        next v hv =>
          rw [jj_nth_get] at hv
          obtain ⟨q, g1, g2, g3, g4⟩ := hZ.1 _ (jj_nth_mem hz)
          dsimp only at g1 g2 g3 g4
          obtain ⟨u1, -⟩ := jj_cl ci q g1
          obtain ⟨i, -, hat⟩ := jj_at (tyc := tyc) hi hη
          exact va_get hx hb hts u1 hown hKK hP i hat g1 j g2 (hts _ g4) (fun _ h9 => g3 ▸ h9) hv hd (hK _ _ _ _ _ _ h ws H locs lsA hi hP hD hS hl)
        next => exact h.elim
      next => exact h.elim
    next => exact h.elim
  | putfield z =>
    try dsimp only at h
    try dsimp only at ho
    split at h
    next v b r =>
      split at h
      next y ci j hz =>
        rw [hz] at ho
        simp only [Bool.and_eq_true] at ho
        obtain rfl := Nat.eq_of_beq_eq_true ho.1
        obtain ⟨fs, hη, h⟩ := h
        cases hc9 : (Nat.blt j fs.length && jj_fit (jj_ft ci j) v) with
        | false => rw [hc9] at h; exact h.elim
        | true =>
          rw [hc9] at h
          simp only [cond_true] at h
          rw [jj_fc_eq] at h
          simp only [Bool.and_eq_true] at hc9
          obtain ⟨f1, f2⟩ := jj_fit_ok hc9.2
          have hlt := jj_blt hc9.1
          obtain ⟨q, g1, g2, g3, g4⟩ := hZ.1 _ (jj_nth_mem hz)
          dsimp only at g1 g2 g3 g4
          obtain ⟨u1, u2, u3, -⟩ := jj_cl ci q g1
          obtain ⟨i, hat0, hat⟩ := jj_at (tyc := tyc) hi hη
          have ho2 := ho.2
          rw [g1] at ho2
          have kk : ∀ (H1 : Heap) (locs1 : List Loc), va_P D vwCl ((jj_ws tyc ws).set i (b, .inr (ci, fs.set j v))) H1 → va_D A ((jj_ws tyc ws).set i (b, .inr (ci, fs.set j v))) → va_S A s.heap H1 locs1 → W p l e R s m args below meth c H1 locs1 k n Q (F0 m (pc + 3) lsA r) := by
            intro H1 locs1 w1 w2 w3
            rw [show (jj_ws tyc ws).set i (b, .inr (ci, fs.set j v)) = jj_ws tyc (ws.set i (b, .inr (ci, fs.set j v))) from (jj_ws_set (e := .inr (ci, fs.set j v))).symm] at w1 w2
            exact hK _ _ _ _ _ _ h _ H1 locs1 lsA (hi.set hD hat0) w1 w2 w3 hl
          cases hf9 : (q.2.1 j).2.2.2 with
          | false => exact va_put hx hb hts u1 (jj_ft ci) u2 u3 hown hKK hP hD hS i hat g1 j g2 (hts _ g4) (fun _ h9 => g3 ▸ h9) hf9 (u2 j g2) f1 f2 hlt hd kk
          | true =>
            simp only [hf9, Bool.not_true, Bool.false_or, Bool.and_eq_true] at ho2
            exact va_putF hx hb hts u1 (jj_ft ci) u2 u3 hown hKK hP hD hS i hat g1 j g2 (hts _ g4) (fun _ h9 => g3 ▸ h9) hf9 (hin.trans (of_decide_eq_true ho2.1)) (of_decide_eq_true ho2.2) (u2 j g2) f1 f2 hlt hd kk
      next => exact h.elim
    next => exact h.elim
  | getstatic z =>
    try dsimp only at h
    try dsimp only at ho
    split at h
    next z2 nx2 a2 c2 l2 hr2 =>
      split at h
      next nx3 a3 c3 l3 hr3 =>
        split at h
        next v hg =>
          obtain ⟨q, rfl, hq, h⟩ := h
          have hd2 := jj_rowd hT hr2
          have hd3 := jj_rowd hT hr3
          obtain ⟨hd2, e2, ho2⟩ := hd2
          obtain ⟨hd3, e3, -⟩ := hd3
          dsimp only at hd2 e2 ho2 hd3 e3
          subst e2
          subst e3
          have ho2 := Nat.eq_of_beq_eq_true ho2
          have hq31 : q < 2 ^ 31 := by omega
          obtain ⟨-, -, -, -, ⟨t5, h5, g5⟩, ⟨t6, h6, g6⟩, -⟩ := hWd
          match a, ho, h with
          | 0, ho, h =>
            refine va_gets hx hb h5 hS hown (hts _ (of_decide_eq_true ho)) (fun _ h9 => h9) hd ?_
            refine lv_iload_n hx hb hd2 ho2 (jj_rd hl hg) ?_
            exact va_ti hx hb g5 hS (vp_in_nI hq (by decide)) (by rw [nI_clamp hq31]) hd3 (hK _ _ _ _ _ _ h ws H locs lsA hi hP hD hS hl)
          | 1, ho, h =>
            refine va_gets hx hb h6 hS hown (hts _ (of_decide_eq_true ho)) (fun _ h9 => h9) hd ?_
            refine lv_iload_n hx hb hd2 ho2 (jj_rd hl hg) ?_
            exact va_ti hx hb g6 hS (vp_in_nI hq (by decide)) (by rw [nI_clamp hq31]) hd3 (hK _ _ _ _ _ _ h ws H locs lsA hi hP hD hS hl)
          | a + 2, ho, h => cases ho
        next => exact h.elim
      next => exact h.elim
    next z2 nx2 a2 c2 l2 hr2 =>
      split at h
      next nx3 a3 c3 l3 hr3 =>
        split at h
        next v hg =>
          obtain ⟨q, rfl, hq, h⟩ := h
          have hd2 := jj_rowd hT hr2
          have hd3 := jj_rowd hT hr3
          obtain ⟨hd2, e2, ho2⟩ := hd2
          obtain ⟨hd3, e3, -⟩ := hd3
          dsimp only at hd2 e2 ho2 hd3 e3
          subst e2
          subst e3
          obtain rfl := Nat.eq_of_beq_eq_true ho2
          have hq31 : q < 2 ^ 31 := by omega
          obtain ⟨-, -, -, -, ⟨t5, h5, g5⟩, ⟨t6, h6, g6⟩, -⟩ := hWd
          match a, ho, h with
          | 0, ho, h =>
            refine va_gets hx hb h5 hS hown (hts _ (of_decide_eq_true ho)) (fun _ h9 => h9) hd ?_
            refine lv_iload hx hb hd2 (jj_rd hl hg) ?_
            exact va_ti hx hb g5 hS (vp_in_nI hq (by decide)) (by rw [nI_clamp hq31]) hd3 (hK _ _ _ _ _ _ h ws H locs lsA hi hP hD hS hl)
          | 1, ho, h =>
            refine va_gets hx hb h6 hS hown (hts _ (of_decide_eq_true ho)) (fun _ h9 => h9) hd ?_
            refine lv_iload hx hb hd2 (jj_rd hl hg) ?_
            exact va_ti hx hb g6 hS (vp_in_nI hq (by decide)) (by rw [nI_clamp hq31]) hd3 (hK _ _ _ _ _ _ h ws H locs lsA hi hP hD hS hl)
          | a + 2, ho, h => cases ho
        next => exact h.elim
      next => exact h.elim
    next => exact h.elim
  | iaload =>
    try dsimp only at h
    try dsimp only at ho
    split at h
    next i b r =>
      obtain ⟨mm, f, j, hη, rfl, hj, h⟩ := h
      cases hc9 : Nat.blt mm 2147483648 with
      | false => rw [hc9] at h; exact h.elim
      | true =>
        rw [hc9] at h
        have h31 : mm < 2 ^ 31 := jj_blt hc9
        have hj31 : j < 2 ^ 31 := Nat.lt_trans hj h31
        obtain ⟨i0, -, hat⟩ := jj_at (tyc := tyc) hi hη
        have kk := hK _ _ _ _ _ _ h ws H locs lsA hi hP hD hS hl
        refine va_iald hx hb hKK hP i0 0 hat rfl (vp_in_nI hj h31) hd ?_
        rw [nI_clamp hj31]
        exact kk
    next => exact h.elim
  | baload =>
    try dsimp only at h
    try dsimp only at ho
    split at h
    next i b r =>
      obtain ⟨mm, f, j, hη, rfl, hj, h⟩ := h
      cases hc9 : Nat.blt mm 2147483648 with
      | false => rw [hc9] at h; exact h.elim
      | true =>
        rw [hc9] at h
        have h31 : mm < 2 ^ 31 := jj_blt hc9
        have hj31 : j < 2 ^ 31 := Nat.lt_trans hj h31
        obtain ⟨i0, -, hat⟩ := jj_at (tyc := tyc) hi hη
        have kk := hK _ _ _ _ _ _ h ws H locs lsA hi hP hD hS hl
        refine va_zald hx hb hKK hP i0 2 hat rfl (vp_in_nI hj h31) hd ?_
        rw [nI_clamp hj31]
        exact kk
    next => exact h.elim
  | laload =>
    try dsimp only at h
    try dsimp only at ho
    split at h
    next i b r =>
      obtain ⟨mm, f, j, hη, rfl, hj, h⟩ := h
      cases hc9 : Nat.blt mm 2147483648 with
      | false => rw [hc9] at h; exact h.elim
      | true =>
        rw [hc9] at h
        have h31 : mm < 2 ^ 31 := jj_blt hc9
        have hj31 : j < 2 ^ 31 := Nat.lt_trans hj h31
        obtain ⟨i0, -, hat⟩ := jj_at (tyc := tyc) hi hη
        have kk := hK _ _ _ _ _ _ h ws H locs lsA hi hP hD hS hl
        refine va_lald hx hb hKK hP i0 1 hat rfl (vp_in_nI hj h31) hd ?_
        rw [nI_clamp hj31]
        exact kk
    next => exact h.elim
  | aaload =>
    try dsimp only at h
    try dsimp only at ho
    split at h
    next i b r =>
      obtain ⟨t, mm, f, j, o, hη, rfl, hj, hfo, h⟩ := h
      cases hc9 : (Nat.blt mm 2147483648 && Nat.ble 3 t && Nat.blt t 8) with
      | false => rw [hc9] at h; exact h.elim
      | true =>
        rw [hc9] at h
        simp only [Bool.and_eq_true] at hc9
        have h31 : mm < 2 ^ 31 := jj_blt hc9.1.1
        have hj31 : j < 2 ^ 31 := Nat.lt_trans hj h31
        have t3 := Nat.le_of_ble_eq_true hc9.1.2
        have t8 := jj_blt hc9.2
        obtain ⟨i0, -, hat⟩ := jj_at (tyc := tyc) hi hη
        have kk := hK _ _ _ _ _ _ h ws H locs lsA hi hP hD hS hl
        refine va_aldq hx hb hKK hP i0 t hat (by rw [jj_tys_at tyc t t8, (jj_ty_obj t t3 t8).1]) (vp_in_nI hj h31) hd ?_
        rw [nI_clamp hj31, hfo]
        exact kk
    next => exact h.elim
  | iastore =>
    try dsimp only at h
    try dsimp only at ho
    split at h
    next v i b r =>
      obtain ⟨mm, f, j, hη, rfl, hj, h⟩ := h
      cases hc9 : Nat.blt mm 2147483648 with
      | false => rw [hc9] at h; exact h.elim
      | true =>
        rw [hc9] at h
        have h31 : mm < 2 ^ 31 := jj_blt hc9
        have hj31 : j < 2 ^ 31 := Nat.lt_trans hj h31
        obtain ⟨i0, hat0, hat⟩ := jj_at (tyc := tyc) hi hη
        refine va_iast hx hb hKK hP hD hS i0 0 hat rfl (vp_in_nI hj h31) hd (fun H1 locs1 w1 w2 w3 => ?_)
        rw [nI_clamp hj31] at w1 w2
        rw [show (jj_ws tyc ws).set i0 (b, .inl (tyc 0, mm, .inl (upd f j v))) = jj_ws tyc (ws.set i0 (b, .inl (0, mm, .inl (upd f j v)))) from (jj_ws_set (e := .inl (0, mm, .inl (upd f j v)))).symm] at w1 w2
        exact hK _ _ _ _ _ _ h _ H1 locs1 lsA (hi.set hD hat0) w1 w2 w3 hl
    next => exact h.elim
  | bastore =>
    try dsimp only at h
    try dsimp only at ho
    split at h
    next v i b r =>
      obtain ⟨mm, f, j, hη, rfl, hj, h⟩ := h
      cases hc9 : Nat.blt mm 2147483648 with
      | false => rw [hc9] at h; exact h.elim
      | true =>
        rw [hc9] at h
        have h31 : mm < 2 ^ 31 := jj_blt hc9
        have hj31 : j < 2 ^ 31 := Nat.lt_trans hj h31
        obtain ⟨i0, hat0, hat⟩ := jj_at (tyc := tyc) hi hη
        refine va_zast hx hb hKK hP hD hS i0 2 hat rfl (vp_in_nI hj h31) hd (fun H1 locs1 w1 w2 w3 => ?_)
        rw [nI_clamp hj31] at w1 w2
        rw [show (jj_ws tyc ws).set i0 (b, .inl (tyc 2, mm, .inl (upd f j (vp_nar .boolean v)))) = jj_ws tyc (ws.set i0 (b, .inl (2, mm, .inl (upd f j (vp_nar .boolean v))))) from (jj_ws_set (e := .inl (2, mm, .inl (upd f j (vp_nar .boolean v))))).symm] at w1 w2
        exact hK _ _ _ _ _ _ h _ H1 locs1 lsA (hi.set hD hat0) w1 w2 w3 hl
    next => exact h.elim
  | lastore =>
    try dsimp only at h
    try dsimp only at ho
    split at h
    next v i b r =>
      obtain ⟨mm, f, j, hη, rfl, hj, h⟩ := h
      cases hc9 : Nat.blt mm 2147483648 with
      | false => rw [hc9] at h; exact h.elim
      | true =>
        rw [hc9] at h
        have h31 : mm < 2 ^ 31 := jj_blt hc9
        have hj31 : j < 2 ^ 31 := Nat.lt_trans hj h31
        obtain ⟨i0, hat0, hat⟩ := jj_at (tyc := tyc) hi hη
        refine va_last hx hb hKK hP hD hS i0 1 hat rfl (vp_in_nI hj h31) hd (fun H1 locs1 w1 w2 w3 => ?_)
        rw [nI_clamp hj31] at w1 w2
        rw [show (jj_ws tyc ws).set i0 (b, .inl (tyc 1, mm, .inr (.inl (vp_updL f j v)))) = jj_ws tyc (ws.set i0 (b, .inl (1, mm, .inr (.inl (vp_updL f j v))))) from (jj_ws_set (e := .inl (1, mm, .inr (.inl (vp_updL f j v))))).symm] at w1 w2
        exact hK _ _ _ _ _ _ h _ H1 locs1 lsA (hi.set hD hat0) w1 w2 w3 hl
    next => exact h.elim
  | aastore =>
    try dsimp only at h
    try dsimp only at ho
    split at h
    next v i b r =>
      obtain ⟨t, mm, f, j, vs, hη, hηv, rfl, hj, h⟩ := h
      cases hc9 : (Nat.blt mm 2147483648 && Nat.ble 3 t && Nat.blt t 8) with
      | false => rw [hc9] at h; exact h.elim
      | true =>
        rw [hc9] at h
        simp only [Bool.and_eq_true] at hc9
        have h31 : mm < 2 ^ 31 := jj_blt hc9.1.1
        have hj31 : j < 2 ^ 31 := Nat.lt_trans hj h31
        have t3 := Nat.le_of_ble_eq_true hc9.1.2
        have t8 := jj_blt hc9.2
        obtain ⟨i0, hat0, hat⟩ := jj_at (tyc := tyc) hi hη
        obtain ⟨i1, -, hat1⟩ := jj_at (tyc := tyc) hi hηv
        obtain ⟨e1, rq, e2, e3⟩ := jj_ty_obj t t3 t8
        refine va_astq hx hb hKK hP hD hS i0 t i1 (jj_tc t) hat (by rw [jj_tys_at tyc t t8, e1, e3]) hat1 e2 (vp_in_nI hj h31) hd (fun H1 locs1 w1 w2 w3 => ?_)
        rw [nI_clamp hj31] at w1 w2
        rw [show (jj_ws tyc ws).set i0 (b, .inl (tyc t, mm, .inr (.inr (.inr (.inr (va_up f j (some v))))))) = jj_ws tyc (ws.set i0 (b, .inl (t, mm, .inr (.inr (.inr (.inr (va_up f j (some v)))))))) from (jj_ws_set (e := .inl (t, mm, .inr (.inr (.inr (.inr (va_up f j (some v)))))))).symm] at w1 w2
        exact hK _ _ _ _ _ _ h _ H1 locs1 lsA (hi.set hD hat0) w1 w2 w3 hl
    next i b r =>
      obtain ⟨t, mm, f, j, hη, rfl, hj, h⟩ := h
      cases hc9 : (Nat.blt mm 2147483648 && Nat.ble 3 t && Nat.blt t 8) with
      | false => rw [hc9] at h; exact h.elim
      | true =>
        rw [hc9] at h
        simp only [Bool.and_eq_true] at hc9
        have h31 : mm < 2 ^ 31 := jj_blt hc9.1.1
        have hj31 : j < 2 ^ 31 := Nat.lt_trans hj h31
        have t3 := Nat.le_of_ble_eq_true hc9.1.2
        have t8 := jj_blt hc9.2
        obtain ⟨i0, hat0, hat⟩ := jj_at (tyc := tyc) hi hη
        refine va_astqN hx hb hKK hP hD hS i0 t hat (by rw [jj_tys_at tyc t t8, (jj_ty_obj t t3 t8).1]) (vp_in_nI hj h31) hd (fun H1 locs1 w1 w2 w3 => ?_)
        rw [nI_clamp hj31] at w1 w2
        rw [show (jj_ws tyc ws).set i0 (b, .inl (tyc t, mm, .inr (.inr (.inr (.inr (va_up f j none)))))) = jj_ws tyc (ws.set i0 (b, .inl (t, mm, .inr (.inr (.inr (.inr (va_up f j none))))))) from (jj_ws_set (e := .inl (t, mm, .inr (.inr (.inr (.inr (va_up f j none))))))).symm] at w1 w2
        exact hK _ _ _ _ _ _ h _ H1 locs1 lsA (hi.set hD hat0) w1 w2 w3 hl
    next => exact h.elim
  | arraylength =>
    try dsimp only at h
    try dsimp only at ho
    split at h
    next b r =>
      obtain ⟨t, mm, u, hη, h⟩ := h
      cases hc9 : Nat.blt t 8 with
      | false => rw [hc9] at h; exact h.elim
      | true =>
        rw [hc9] at h
        obtain ⟨i0, -, hat⟩ := jj_at (tyc := tyc) hi hη
        exact va_alen hx hb hKK hP i0 t hat (jj_tys_at tyc t (jj_blt hc9)) rfl hd (hK _ _ _ _ _ _ h ws H locs lsA hi hP hD hS hl)
    next => exact h.elim
  | newarray z =>
    try dsimp only at h
    try dsimp only at ho
    split at h
    next i r =>
      obtain ⟨mm, rfl, hm, h1, h2, h⟩ := h
      match a, ho, h with
      | 0, ho, h =>
        obtain rfl := of_decide_eq_true ho
        refine va_newa (atype := .int) hx hb (hts (.arrayClass .int) jj_ai) rfl hKK hP hD hS hA (a0 := (mm, .inl (fun _ => 0))) (fun cA => rfl) (nI_pos (by omega)) (nI_clamp (by omega)) (by show mm * _ ≤ _; simp only [newarray.typeOf, componentBytes]; omega) (by rw [hRC]; exact h1) (by rw [hRS]; exact h2) hd (fun q cA H1 w0 w1 w2 w3 => ?_)
        obtain rfl := jj_same (t := 0) (by omega) hKK w0
        rw [show jj_ws tyc ws ++ [(q, .inl (tyc 0, mm, .inl (fun _ => 0)))] = jj_ws tyc (ws ++ [(q, .inl (0, mm, .inl (fun _ => 0)))]) from (jj_ws_push (e := .inl (0, mm, .inl (fun _ => 0)))).symm] at w1 w2
        have hq := jj_fresh hi (jj_ws_push (tyc := tyc) (ws := ws) ▸ w2)
        exact hK _ _ _ _ _ _ (h q hq) _ H1 locs lsA (hi.push hq) w1 w2 w3 hl
      | 1, ho, h =>
        obtain rfl := of_decide_eq_true ho
        refine va_newa (atype := .long) hx hb (hts (.arrayClass .long) jj_al) rfl hKK hP hD hS hA (a0 := (mm, .inr (.inl (fun _ => 0)))) (fun cA => rfl) (nI_pos (by omega)) (nI_clamp (by omega)) (by show mm * _ ≤ _; simp only [newarray.typeOf, componentBytes]; omega) (by rw [hRC]; exact h1) (by rw [hRS]; exact h2) hd (fun q cA H1 w0 w1 w2 w3 => ?_)
        obtain rfl := jj_same (t := 1) (by omega) hKK w0
        rw [show jj_ws tyc ws ++ [(q, .inl (tyc 1, mm, .inr (.inl (fun _ => 0))))] = jj_ws tyc (ws ++ [(q, .inl (1, mm, .inr (.inl (fun _ => 0))))]) from (jj_ws_push (e := .inl (1, mm, .inr (.inl (fun _ => 0))))).symm] at w1 w2
        have hq := jj_fresh hi (jj_ws_push (tyc := tyc) (ws := ws) ▸ w2)
        exact hK _ _ _ _ _ _ (h q hq) _ H1 locs lsA (hi.push hq) w1 w2 w3 hl
      | 2, ho, h =>
        obtain rfl := of_decide_eq_true ho
        refine va_newa (atype := .boolean) hx hb (hts (.arrayClass .boolean) jj_az) rfl hKK hP hD hS hA (a0 := (mm, .inl (fun _ => 0))) (fun cA => rfl) (nI_pos (by omega)) (nI_clamp (by omega)) (by show mm * _ ≤ _; simp only [newarray.typeOf, componentBytes]; omega) (by rw [hRC]; exact h1) (by rw [hRS]; exact h2) hd (fun q cA H1 w0 w1 w2 w3 => ?_)
        obtain rfl := jj_same (t := 2) (by omega) hKK w0
        rw [show jj_ws tyc ws ++ [(q, .inl (tyc 2, mm, .inl (fun _ => 0)))] = jj_ws tyc (ws ++ [(q, .inl (2, mm, .inl (fun _ => 0)))]) from (jj_ws_push (e := .inl (2, mm, .inl (fun _ => 0)))).symm] at w1 w2
        have hq := jj_fresh hi (jj_ws_push (tyc := tyc) (ws := ws) ▸ w2)
        exact hK _ _ _ _ _ _ (h q hq) _ H1 locs lsA (hi.push hq) w1 w2 w3 hl
      | a + 3, ho, h => cases ho
    next => exact h.elim
  | anewarray z =>
    try dsimp only at h
    try dsimp only at ho
    split at h
    next i r =>
        obtain ⟨mm, rfl, hm, h1, h2, h⟩ := h
        simp only [Bool.and_eq_true] at ho
        have t3 := Nat.le_of_ble_eq_true ho.1.1
        have t8 := jj_blt ho.1.2
        have e1 := (jj_ty_obj a t3 t8).1
        refine va_newq (C := jj_tn a) hx hb hown (hts _ (of_decide_eq_true ho.2)) (hWd.2.1 a t3 t8 _ e1) hKK hP hD hS hA (nI_pos (by omega)) (nI_clamp (by omega)) (by omega) (by rw [hRC]; exact h1) (by rw [hRS]; exact h2) hd (fun q cA H1 w0 w1 w2 w3 => ?_)
        rw [← e1] at w0
        obtain rfl := jj_same (t := a) t8 hKK w0
        rw [show jj_ws tyc ws ++ [(q, .inl (tyc a, mm, .inr (.inr (.inr (.inr (fun _ => none))))))] = jj_ws tyc (ws ++ [(q, .inl (a, mm, .inr (.inr (.inr (.inr (fun _ => none))))))]) from (jj_ws_push (e := .inl (a, mm, .inr (.inr (.inr (.inr (fun _ => none))))))).symm] at w1 w2
        have hq := jj_fresh hi (jj_ws_push (tyc := tyc) (ws := ws) ▸ w2)
        exact hK _ _ _ _ _ _ (h q hq) _ H1 locs lsA (hi.push hq) w1 w2 w3 hl
    next => exact h.elim
  | new z =>
    try dsimp only at h
    try dsimp only at ho
    cases hc9 : Nat.ble 100 a with
    | true =>
      rw [hc9] at h ho
      simp only [cond_true] at h ho
      simp only [Bool.and_eq_true] at ho
      have ha := Nat.le_of_ble_eq_true hc9
      obtain ⟨⟨⟨⟨⟨h61, hc6⟩, hfr6⟩, hlo9⟩, hd3⟩, hs⟩ := ho
      have hc6 := of_decide_eq_true hc6
      have hfr6 := Nat.le_of_ble_eq_true hfr6
      have hlo9 := Nat.le_of_ble_eq_true hlo9
      split at h
      next =>
        have h : X η (jj_ex3 a).2.2 ∧ k + 1 ≤ RC ∧ n + 6 ≤ RS := by
          rw [jj_ex3s a]
          exact h
        exact (hX _ _ h.1).elim
      next => exact h.elim
    | false =>
      rw [hc9] at h ho
      simp only [cond_false] at h ho
      split at ho
      next q g1 =>
        obtain ⟨h1, h2, h⟩ := h
        simp only [Bool.and_eq_true] at ho
        obtain ⟨u1, u2, -, u4, u5⟩ := jj_cl a q g1
        refine va_new (c0 := c) hx hb hts u1 (jj_ft a) u2 hown (hts _ (of_decide_eq_true ho.1.1)) (hts _ (of_decide_eq_true ho.1.2)) (hts _ (of_decide_eq_true ho.2)) hKK hP hD hS hA g1 (fs := jj_def a) u4 (by rw [hRC]; exact h1) (by rw [hRS, ← u5]; exact h2) hd (fun q9 H1 w1 w2 w3 => ?_)
        rw [show jj_ws tyc ws ++ [(q9, .inr (a, jj_def a))] = jj_ws tyc (ws ++ [(q9, .inr (a, jj_def a))]) from (jj_ws_push (e := .inr (a, jj_def a))).symm] at w1 w2
        have hq := jj_fresh hi (jj_ws_push (tyc := tyc) (ws := ws) ▸ w2)
        have kk := hK _ _ _ _ _ _ (h q9 hq) _ H1 locs lsA (hi.push hq) w1 w2 w3 hl
        rw [u5] at kk
        exact kk
      next => cases ho
  | invokevirtual z =>
    try dsimp only at h
    try dsimp only at ho
    split at ho
    next y c9 M' hz =>
      simp only [hz] at h
      simp only [Bool.and_eq_true] at ho
      obtain rfl := Nat.eq_of_beq_eq_true ho.1
      obtain ⟨q1, q2⟩ := jj_room_ok ho.2
      obtain ⟨as, r, rfl, hlen, hq⟩ := jj_tk_ok h
      clear h
      have h := hq
      clear hq
      split at h
      next b r =>
        obtain ⟨hsum, h⟩ := jj_cond h
        obtain ⟨vs, hη, mc, ms, post', hM9, h1, h2, h⟩ := h
        obtain ⟨hMok, g1, g2, g3, q, g4, g5⟩ := hZ.2 _ (jj_nth_mem hz)
        dsimp only at hMok g1 g2 g3 g4 g5
        obtain ⟨i0, -, hat⟩ := jj_at (tyc := tyc) hi hη
        have hM := hM9 l D tyc H.size ws hst hi
        have hp := jj_pre (as := .ref b :: as) hP hD hS hA hKK hWd
        refine jj_back (D := D) (mc := mc) (ms := ms) hD hS hA hl ?_ (fun v η' q9 => hK _ _ _ _ _ _ (h v η' q9))
        exact va_runV (As := as) (rest := r) ⟨hx, hb, rfl, hown, hts⟩ hM ⟨callB_of (jj_np M') hts (jj_wd_good hMok) rfl rfl rfl (hts _ hMok.2.1) (hts _ g1) hMok.2.2 ⟨by rw [hfr]; exact q1, by rw [hlo]; exact q2⟩, hts _ g2, hts _ g3⟩ ⟨hp.1, by rw [← g5]; exact va_recv hKK hP g4 hat, hp.2⟩ rfl hlen hl.1 rfl (lv_room hsum) hd ⟨by rw [hRC]; exact h1, by rw [hRS]; exact h2⟩
      next => exact h.elim
    next => cases ho
  | invokespecial z =>
    try dsimp only at h
    try dsimp only at ho
    split at ho
    next y c9 M' hz =>
      simp only [hz] at h
      simp only [Bool.and_eq_true] at ho
      obtain rfl := Nat.eq_of_beq_eq_true ho.1
      obtain ⟨q1, q2⟩ := jj_room_ok ho.2
      obtain ⟨as, r, rfl, hlen, hq⟩ := jj_tk_ok h
      clear h
      have h := hq
      clear hq
      split at h
      next b r =>
        obtain ⟨hsum, h⟩ := jj_cond h
        obtain ⟨mc, ms, post', hM9, h1, h2, h⟩ := h
        obtain ⟨hMok, g1, g2, g3, g4⟩ := hZ.2 _ (jj_nth_mem hz)
        dsimp only at hMok g1 g2 g3 g4
        have hM := hM9 l D tyc H.size ws hst hi
        have hp := jj_pre (as := .ref b :: as) hP hD hS hA hKK hWd
        have hGd := jj_wd_good hMok
        refine jj_back (D := D) (mc := mc) (ms := ms) hD hS hA hl ?_ (fun v η' q9 => hK _ _ _ _ _ _ (h v η' q9))
        exact va_runI (bytes := jj_code M') (maxL := jj_mx M') (As := as) (rest := r) ⟨hx, hb, rfl, hown, hts⟩ hM (by rw [← g4]; exact ⟨callB_of (jj_np M') hts hGd rfl rfl rfl (hts _ hMok.2.1) (hts _ g1) hMok.2.2 ⟨by rw [hfr]; exact q1, by rw [hlo]; exact q2⟩, g3, hts _ g2⟩) hp rfl hlen hl.1 rfl (lv_room hsum) hd ⟨by rw [hRC]; exact h1, by rw [hRS]; exact h2⟩
      next => exact h.elim
    next y c9 M' hz =>
      simp only [hz] at h
      simp only [Bool.and_eq_true] at ho
      obtain rfl := Nat.eq_of_beq_eq_true ho.1
      obtain ⟨q1, q2⟩ := jj_room_ok ho.2
      obtain ⟨as, r, rfl, hlen, hq⟩ := jj_tk_ok h
      clear h
      have h := hq
      clear hq
      split at h
      next b r =>
        obtain ⟨hsum, h⟩ := jj_cond h
        obtain ⟨mc, ms, post', hM9, h1, h2, h⟩ := h
        obtain ⟨hMok, ⟨host, g1⟩, g2, g3, g4⟩ := hZ.2 _ (jj_nth_mem hz)
        dsimp only at hMok g1 g2 g3 g4
        have hM := hM9 l D tyc H.size ws hst hi
        have hp := jj_pre (as := .ref b :: as) hP hD hS hA hKK hWd
        have hGd := jj_wd_good hMok
        refine jj_back (D := D) (mc := mc) (ms := ms) hD hS hA hl ?_ (fun v η' q9 => hK _ _ _ _ _ _ (h v η' q9))
        exact va_runIN (bytes := jj_code M') (maxL := jj_mx M') (As := as) (rest := r) ⟨hx, hb, rfl, hown, hts⟩ hM (by rw [← g4]; exact ⟨va_cnB (host := host) (jj_np M') hts hGd rfl rfl rfl (hWd.1.1 _ g1) (hts _ hMok.2.1) hMok.2.2 ⟨by rw [hfr]; exact q1, by rw [hlo]; exact q2⟩, g3, hts _ g2⟩) hp rfl hlen hl.1 rfl (lv_room hsum) hd ⟨by rw [hRC]; exact h1, by rw [hRS]; exact h2⟩
      next => exact h.elim
    next y c9 M' hz =>
      simp only [hz] at h
      simp only [Bool.and_eq_true] at ho
      obtain rfl := Nat.eq_of_beq_eq_true ho.1.1
      have q1 := Nat.le_of_ble_eq_true ho.1.2
      have q2 := Nat.le_of_ble_eq_true ho.2
      split at h
      next b r =>
        obtain ⟨hsum, h⟩ := jj_cond h
        have g1 := hZ.2 _ (jj_nth_mem hz)
        refine W.objInit hx hb hown (hts _ g1) (hts _ jj_oi1) (hts _ jj_oi2) rfl hl.1 rfl hd (by rw [hfr]; exact q1) (by rw [hlo]; show 2 * 0 + _ + 12 ≤ _; omega) ?_
        exact hK _ _ _ _ _ _ h ws H locs lsA hi hP hD hS hl
      next => exact h.elim
    next => cases ho
  | invokestatic z =>
    try dsimp only at h
    try dsimp only at ho
    split at ho
    next y c9 M' hz =>
      simp only [hz] at h
      simp only [Bool.and_eq_true] at ho
      obtain rfl := Nat.eq_of_beq_eq_true ho.1
      obtain ⟨q1, q2⟩ := jj_room_ok ho.2
      obtain ⟨as, r, rfl, hlen, hq⟩ := jj_tk_ok h
      clear h
      have h := hq
      clear hq
      obtain ⟨hsum, h⟩ := jj_cond h
      obtain ⟨mc, ms, post', hM9, h1, h2, h⟩ := h
      obtain ⟨hMok, g1, g2⟩ := hZ.2 _ (jj_nth_mem hz)
      dsimp only at hMok g1 g2
      have hM := hM9 l D tyc H.size ws hst hi
      have hp := jj_pre (as := as) hP hD hS hA hKK hWd
      refine jj_back (D := D) (mc := mc) (ms := ms) hD hS hA hl ?_ (fun v η' q9 => hK _ _ _ _ _ _ (h v η' q9))
      exact va_runS (As := as) (rest := r) ⟨hx, hb, rfl, hown, hts⟩ hM ⟨callB_of (jj_np M') hts (jj_wd_good hMok) rfl rfl rfl (hts _ hMok.2.1) (hts _ g1) hMok.2.2 ⟨by rw [hfr]; exact q1, by rw [hlo]; exact q2⟩, hts _ g2⟩ hp rfl hlen hl.1 rfl (lv_room hsum) hd ⟨by rw [hRC]; exact h1, by rw [hRS]; exact h2⟩
    next y c9 M' hz =>
      simp only [hz] at h
      simp only [Bool.and_eq_true] at ho
      obtain rfl := Nat.eq_of_beq_eq_true ho.1
      obtain ⟨q1, q2⟩ := jj_room_ok ho.2
      obtain ⟨as, r, rfl, hlen, hq⟩ := jj_tk_ok h
      clear h
      have h := hq
      clear hq
      obtain ⟨hsum, h⟩ := jj_cond h
      obtain ⟨mc, ms, post', hM9, h1, h2, h⟩ := h
      obtain ⟨hMok, ⟨host, g1⟩, g2⟩ := hZ.2 _ (jj_nth_mem hz)
      dsimp only at hMok g1 g2
      have hM := hM9 l D tyc H.size ws hst hi
      have hp := jj_pre (as := as) hP hD hS hA hKK hWd
      refine jj_back (D := D) (mc := mc) (ms := ms) hD hS hA hl ?_ (fun v η' q9 => hK _ _ _ _ _ _ (h v η' q9))
      exact va_runSN (As := as) (rest := r) ⟨hx, hb, rfl, hown, hts⟩ hM ⟨va_cnB (host := host) (jj_np M') hts (jj_wd_good hMok) rfl rfl rfl (hWd.1.1 _ g1) (hts _ hMok.2.1) hMok.2.2 ⟨by rw [hfr]; exact q1, by rw [hlo]; exact q2⟩, hts _ g2, trivial⟩ hp rfl hlen hl.1 rfl (lv_room hsum) hd ⟨by rw [hRC]; exact h1, by rw [hRS]; exact h2⟩
    next y c9 M' hz =>
      simp only [hz] at h
      simp only [Bool.and_eq_true] at ho
      obtain rfl := Nat.eq_of_beq_eq_true ho.1.1
      have q1 := Nat.le_of_ble_eq_true ho.1.2
      have q2 := Nat.le_of_ble_eq_true ho.2
      split at h
      next y x r =>
        obtain ⟨hsum, hk1, hk2, h⟩ := jj_cond h
        have g1 := hZ.2 _ (jj_nth_mem hz)
        exact va_mmax hx hb hl.1.symm hown (hts _ g1) (hts _ jj_mm1) (hts _ jj_mm2) (hts _ jj_mm3) (by rw [hfr]; exact q1) (by rw [hlo]; omega) (by rw [hRC]; exact hk1) (by rw [hRS]; exact hk2) hd (hK _ _ _ _ _ _ h ws H locs lsA hi hP hD hS hl)
      next => exact h.elim
    next y c9 M' hz =>
      simp only [hz] at h
      simp only [Bool.and_eq_true] at ho
      obtain rfl := Nat.eq_of_beq_eq_true ho.1.1
      have q1 := Nat.le_of_ble_eq_true ho.1.2
      have q2 := Nat.le_of_ble_eq_true ho.2
      split at h
      next ll dd b ss b0 r =>
        obtain ⟨hsum, h⟩ := jj_cond h
        obtain ⟨m0, f, m1, g, s', d', l', hη0, hη1, rfl, rfl, rfl, hb0, hb1, h⟩ := h
        obtain ⟨hc8, h⟩ := jj_cond2 h
        obtain ⟨i0, -, hat0⟩ := jj_at (tyc := tyc) hi hη0
        obtain ⟨i1, hat1', hat1⟩ := jj_at (tyc := tyc) hi hη1
        have g1 := hZ.2 _ (jj_nth_mem hz)
        have z1 : s' < 2 ^ 31 := by omega
        have z2 : d' < 2 ^ 31 := by omega
        have z3 : l' < 2 ^ 31 := by omega
        refine va_copyi hx hb hl.1.symm hown (hts _ g1) (hts _ jj_ac1) (hts _ jj_ac2) (hts _ jj_ac3) hKK hP hD hS i0 i1 0 0 hat0 hat1 rfl rfl rfl (nI_pos z1) (nI_pos z2) (nI_pos z3) (by rw [nI_clamp z1, nI_clamp z3]; exact hb0) (by rw [nI_clamp z2, nI_clamp z3]; exact hb1) (fun _ _ => rfl) (by rw [hfr]; exact q1) (by rw [hlo]; omega) hd (fun H1 locs1 w1 w2 w3 => ?_)
        rw [nI_clamp z1, nI_clamp z2, nI_clamp z3] at w1 w2
        rw [show (jj_ws tyc ws).set i1 (b, .inl (tyc 0, m1, .inl (va_cpy f g s' d' l'))) = jj_ws tyc (ws.set i1 (b, .inl (0, m1, .inl (va_cpy f g s' d' l')))) from (jj_ws_set (e := .inl (0, m1, .inl (va_cpy f g s' d' l')))).symm] at w1 w2
        exact hK _ _ _ _ _ _ h _ H1 locs1 lsA (hi.set hD hat1') w1 w2 w3 hl
      next => exact h.elim
    next => cases ho
  | ireturn =>
    try dsimp only at h
    try dsimp only at ho
    split at h
    next v =>
      exact (hp _ _ h.2.1).elim
    next => exact h.elim
  | lreturn =>
    try dsimp only at h
    try dsimp only at ho
    split at h
    next v =>
      exact (hp _ _ h.1).elim
    next => exact h.elim
  | dreturn =>
    try dsimp only at h
    try dsimp only at ho
    split at h
    next v =>
      exact (hp _ _ h.1).elim
    next => exact h.elim
  | areturn =>
    try dsimp only at h
    try dsimp only at ho
    have hrt : ∃ rt, meth.sig.returnType = some rt ∧ ((∃ n, rt = .object n) ∨ ∃ t, rt = .array t) := by
      rw [hr]
      split at ho
      next n9 e9 => exact ⟨_, e9, Or.inl ⟨_, rfl⟩⟩
      next n9 e9 => exact ⟨_, e9, Or.inr ⟨_, rfl⟩⟩
      next => cases ho
    obtain ⟨rt, hr9, hrt⟩ := hrt
    split at h
    next v =>
      exact (hp _ _ h.1).elim
    next =>
      exact (hp _ _ h.1).elim
    next => exact h.elim
  | return_ =>
    try dsimp only at h
    try dsimp only at ho
    split at h
    next =>
      exact (hp _ _ h.1).elim
    next => exact h.elim
  | _ => exact hK _ _ _ _ _ _ h ws H locs lsA hi hP hD hS hl
