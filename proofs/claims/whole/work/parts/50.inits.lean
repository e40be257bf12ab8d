/-! THE START -/
theorem c_album_init (η : jj_H) (a : Nat) (h : η a = some (x_o 0 [.null])) : jj_Ht mX0_init [.ref a] η 1 64 (fun v η' => v = none ∧ ∃ t, η t = none ∧ η' a = some (x_o 0 [.ref t]) ∧ η' t = some (x_r 6 64 (fun _ => none)) ∧ ∀ b, b ≠ a → b ≠ t → η' b = η b) := by
  refine jj_go tok_X0_init zok_X0 py_0 rfl 40 fun J => ?_
  refine ⟨64, rfl, by decide, by decide, by decide, fun t nt => ?_⟩
  have nta : a ≠ t := fun z => by rw [z, nt] at h; cases h
  exact ⟨_, (up_n nta).trans h, ⟨rfl, t, nt, up_s, (up_n (Ne.symm nta)).trans up_s, fun b b1 b2 => (up_n b1).trans (up_n b2)⟩, by decide, by decide⟩
/-- an empty bureau -/
def s_0 : jj_S := fun g _ => bif Nat.beq g 11 then 1 else 0
theorem s_0_live (f i : Nat) : ¬ s_live s_0 f i := by
  intro h
  unfold s_live at h
  split at h
  case h_4 => exact Nat.not_lt_zero _ h.1
  all_goals first | exact Nat.not_lt_zero _ h | exact h
theorem s_0_ok : s_ok s_0 := by
  refine ⟨⟨by decide, by decide, by decide, by decide⟩, fun p hp => absurd hp (Nat.not_lt_zero _), fun p hp => absurd hp (Nat.not_lt_zero _), fun p hp => absurd hp (Nat.not_lt_zero _), fun p hp => absurd hp (Nat.not_lt_zero _), fun p _ hp => absurd hp (Nat.not_lt_zero _), fun p _ hp => absurd hp (Nat.not_lt_zero _)⟩
def x_X (a p w s k l g m : Nat) : Nat → Nat := fun j => match j with
  | 0 => a
  | 1 => p
  | 2 => w
  | 3 => s
  | 4 => k
  | 5 => l
  | 6 => g
  | _ => m
theorem x_rep.new {η : jj_H} {a p w s k l g m : Nat} {τ : Nat → Nat} (t : ∀ j, j < 8 → τ (x_X a p w s k l g m j) = j)
    (h0 : η a = some (x_o 6 [.ref p, .ref w, .ref s, .ref k, .ref l, .ref g, .int (nI 0), .int (nI 0), .int (nI 0), .int (nI 0)]))
    (h1 : η p = some (x_r 3 6 (fun _ => none))) (h2 : η w = some (x_r 4 4 (fun _ => none))) (h3 : η s = some (x_r 5 10 (fun _ => none))) (h4 : η k = some (x_r 6 40 (fun _ => none)))
    (h5 : η l = some (x_o 0 [.ref m])) (h6 : ∃ f, η g = some (x_i 40 f)) (h7 : η m = some (x_r 6 64 (fun _ => none))) : x_rep (x_X a p w s k l g m) (fun _ _ => 0) τ s_0 η := by
  refine ⟨s_0_ok, ⟨t, fun f i hl => absurd hl (s_0_live f i)⟩, h0, ⟨_, h1, fun i _ => ?_⟩, ⟨_, h2, fun i _ => ?_⟩, ⟨_, h3, fun i _ => ?_⟩, ⟨_, h4, fun i _ => ?_⟩, ⟨h5, _, h7, fun q _ => ⟨fun k hk => absurd hk (Nat.not_lt_zero _), fun _ => rfl⟩⟩, h6, fun p hp => absurd hp (Nat.not_lt_zero _), fun p hp => absurd hp (Nat.not_lt_zero _), fun p hp => absurd hp (Nat.not_lt_zero _), fun p hp => absurd hp (Nat.not_lt_zero _)⟩
  · exact (if_neg (Nat.not_lt_zero _)).symm
  · exact (if_neg (Nat.not_lt_zero _)).symm
  · exact (if_neg (Nat.not_lt_zero _)).symm
  · exact (if_neg (Nat.not_lt_zero _)).symm
theorem c_bureau_init (η : jj_H) (a : Nat) (h : η a = some (x_o 6 (jj_def 6))) : jj_Ht mX6_init [.ref a] η 7 165 (fun v η' => v = none ∧ ∃ p w s k l g m τ, x_rep (x_X a p w s k l g m) (fun _ _ => 0) τ s_0 η' ∧ ∀ b, b ≠ a → η b ≠ none → η' b = η b ∧ 1000 ≤ τ b) := by
  refine jj_go tok_X6_init zok_X6 py_6 rfl 80 fun J => ?_
  refine ⟨6, rfl, by decide, by decide, by decide, fun p np => ?_⟩
  have ap : a ≠ p := fun z => by rw [z, np] at h; cases h
  refine ⟨_, (up_n ap).trans h, 4, rfl, by decide, by decide, by decide, fun w nw => ?_⟩
  obtain ⟨wa, nw⟩ := up_none nw
  obtain ⟨wp, nw⟩ := up_none nw
  refine ⟨_, (up_n (Ne.symm wa)).trans up_s, 10, rfl, by decide, by decide, by decide, fun s ns => ?_⟩
  obtain ⟨sa, ns⟩ := up_none ns
  obtain ⟨sw, ns⟩ := up_none ns
  obtain ⟨-, ns⟩ := up_none ns
  obtain ⟨sp, ns⟩ := up_none ns
  refine ⟨_, (up_n (Ne.symm sa)).trans up_s, 40, rfl, by decide, by decide, by decide, fun k nk => ?_⟩
  obtain ⟨ka, nk⟩ := up_none nk
  obtain ⟨ks, nk⟩ := up_none nk
  obtain ⟨-, nk⟩ := up_none nk
  obtain ⟨kw, nk⟩ := up_none nk
  obtain ⟨-, nk⟩ := up_none nk
  obtain ⟨kp, nk⟩ := up_none nk
  refine ⟨_, (up_n (Ne.symm ka)).trans up_s, by decide, by decide, fun l nl => ?_⟩
  obtain ⟨la, nl⟩ := up_none nl
  obtain ⟨lk, nl⟩ := up_none nl
  obtain ⟨-, nl⟩ := up_none nl
  obtain ⟨ls, nl⟩ := up_none nl
  obtain ⟨-, nl⟩ := up_none nl
  obtain ⟨lw, nl⟩ := up_none nl
  obtain ⟨-, nl⟩ := up_none nl
  obtain ⟨lp, nl⟩ := up_none nl
  refine ⟨1, 64, _, c_album_init _ l up_s, by decide, by decide, fun v η1 hv => ?_⟩
  obtain ⟨rfl, m, nm, g1, g2, g3⟩ := hv
  obtain ⟨ml, nm⟩ := up_none nm
  obtain ⟨ma, nm⟩ := up_none nm
  obtain ⟨mk, nm⟩ := up_none nm
  obtain ⟨-, nm⟩ := up_none nm
  obtain ⟨ms, nm⟩ := up_none nm
  obtain ⟨-, nm⟩ := up_none nm
  obtain ⟨mw, nm⟩ := up_none nm
  obtain ⟨-, nm⟩ := up_none nm
  obtain ⟨mp, nm⟩ := up_none nm
  have Wa : η1 a = _ := (g3 a (Ne.symm la) (Ne.symm ma)).trans ((up_n (Ne.symm la)).trans up_s)
  have Wk : η1 k = _ := (g3 k (Ne.symm lk) (Ne.symm mk)).trans ((up_n (Ne.symm lk)).trans ((up_n ka).trans up_s))
  have Ws : η1 s = _ := (g3 s (Ne.symm ls) (Ne.symm ms)).trans ((up_n (Ne.symm ls)).trans ((up_n sa).trans ((up_n (Ne.symm ks)).trans ((up_n sa).trans up_s))))
  have Ww : η1 w = _ := (g3 w (Ne.symm lw) (Ne.symm mw)).trans ((up_n (Ne.symm lw)).trans ((up_n wa).trans ((up_n (Ne.symm kw)).trans ((up_n wa).trans ((up_n (Ne.symm sw)).trans ((up_n wa).trans up_s))))))
  have Wp : η1 p = _ := (g3 p (Ne.symm lp) (Ne.symm mp)).trans ((up_n (Ne.symm lp)).trans ((up_n (Ne.symm ap)).trans ((up_n (Ne.symm kp)).trans ((up_n (Ne.symm ap)).trans ((up_n (Ne.symm sp)).trans ((up_n (Ne.symm ap)).trans ((up_n (Ne.symm wp)).trans ((up_n (Ne.symm ap)).trans up_s))))))))
  have Wo : ∀ b, b ≠ a → η b ≠ none → η1 b = η b := fun b ba bn => by
    have bm : b ≠ m := fun z => bn (by rw [z]; exact nm)
    have bl : b ≠ l := fun z => bn (by rw [z]; exact nl)
    have bk : b ≠ k := fun z => bn (by rw [z]; exact nk)
    have bs : b ≠ s := fun z => bn (by rw [z]; exact ns)
    have bw : b ≠ w := fun z => bn (by rw [z]; exact nw)
    have bp : b ≠ p := fun z => bn (by rw [z]; exact np)
    exact (g3 b bl bm).trans ((up_n bl).trans ((up_n ba).trans ((up_n bk).trans ((up_n ba).trans ((up_n bs).trans ((up_n ba).trans ((up_n bw).trans ((up_n ba).trans (up_n bp)))))))))
  refine ⟨_, Wa, 40, rfl, by decide, by decide, by decide, fun g ng => ?_⟩
  obtain ⟨ga, ng⟩ := up_none ng
  have gl : g ≠ l := fun z => by rw [z, g1] at ng; cases ng
  have gm : g ≠ m := fun z => by rw [z, g2] at ng; cases ng
  have gk : g ≠ k := fun z => by rw [z, Wk] at ng; cases ng
  have gs : g ≠ s := fun z => by rw [z, Ws] at ng; cases ng
  have gw : g ≠ w := fun z => by rw [z, Ww] at ng; cases ng
  have gp : g ≠ p := fun z => by rw [z, Wp] at ng; cases ng
  refine ⟨_, (up_n (Ne.symm ga)).trans up_s, _, up_s, _, up_s, _, up_s, _, up_s, ⟨rfl, p, w, s, k, l, g, m, fun b => if b = a then 0 else if b = p then 1 else if b = w then 2 else if b = s then 3 else if b = k then 4 else if b = l then 5 else if b = g then 6 else if b = m then 7 else 1000, x_rep.new ?_ up_s ?_ ?_ ?_ ?_ ?_ ⟨fun _ => 0, ?_⟩ ?_, fun b ba bn => ⟨?_, ?_⟩⟩, by decide, by decide⟩
  · intro j hj
    rcases (show j = 0 ∨ j = 1 ∨ j = 2 ∨ j = 3 ∨ j = 4 ∨ j = 5 ∨ j = 6 ∨ j = 7 by omega) with rfl | rfl | rfl | rfl | rfl | rfl | rfl | rfl <;> simp [x_X, ap, Ne.symm ap, wa, Ne.symm wa, wp, Ne.symm wp, sa, Ne.symm sa, sw, Ne.symm sw, sp, Ne.symm sp, ka, Ne.symm ka, ks, Ne.symm ks, kw, Ne.symm kw, kp, Ne.symm kp, la, Ne.symm la, lk, Ne.symm lk, ls, Ne.symm ls, lw, Ne.symm lw, lp, Ne.symm lp, ma, Ne.symm ma, ml, Ne.symm ml, mk, Ne.symm mk, ms, Ne.symm ms, mw, Ne.symm mw, mp, Ne.symm mp, ga, Ne.symm ga, gl, Ne.symm gl, gm, Ne.symm gm, gk, Ne.symm gk, gs, Ne.symm gs, gw, Ne.symm gw, gp, Ne.symm gp]
  · exact (up_n (Ne.symm ap)).trans ((up_n (Ne.symm ap)).trans ((up_n (Ne.symm ap)).trans ((up_n (Ne.symm ap)).trans ((up_n (Ne.symm ap)).trans ((up_n (Ne.symm gp)).trans ((up_n (Ne.symm ap)).trans Wp))))))
  · exact (up_n wa).trans ((up_n wa).trans ((up_n wa).trans ((up_n wa).trans ((up_n wa).trans ((up_n (Ne.symm gw)).trans ((up_n wa).trans Ww))))))
  · exact (up_n sa).trans ((up_n sa).trans ((up_n sa).trans ((up_n sa).trans ((up_n sa).trans ((up_n (Ne.symm gs)).trans ((up_n sa).trans Ws))))))
  · exact (up_n ka).trans ((up_n ka).trans ((up_n ka).trans ((up_n ka).trans ((up_n ka).trans ((up_n (Ne.symm gk)).trans ((up_n ka).trans Wk))))))
  · exact (up_n la).trans ((up_n la).trans ((up_n la).trans ((up_n la).trans ((up_n la).trans ((up_n (Ne.symm gl)).trans ((up_n la).trans g1))))))
  · exact (up_n ga).trans ((up_n ga).trans ((up_n ga).trans ((up_n ga).trans ((up_n ga).trans up_s))))
  · exact (up_n ma).trans ((up_n ma).trans ((up_n ma).trans ((up_n ma).trans ((up_n ma).trans ((up_n (Ne.symm gm)).trans ((up_n ma).trans g2))))))
  · have bg : b ≠ g := fun z => by
      have := Wo b ba bn
      rw [z, ng] at this
      rw [z] at bn
      exact bn this.symm
    exact (up_n ba).trans ((up_n ba).trans ((up_n ba).trans ((up_n ba).trans ((up_n ba).trans ((up_n bg).trans ((up_n ba).trans (Wo b ba bn)))))))
  · have bm : b ≠ m := fun z => bn (by rw [z]; exact nm)
    have bl : b ≠ l := fun z => bn (by rw [z]; exact nl)
    have bk : b ≠ k := fun z => bn (by rw [z]; exact nk)
    have bs : b ≠ s := fun z => bn (by rw [z]; exact ns)
    have bw : b ≠ w := fun z => bn (by rw [z]; exact nw)
    have bp : b ≠ p := fun z => bn (by rw [z]; exact np)
    have bg : b ≠ g := fun z => by
      have := Wo b ba bn
      rw [z, ng] at this
      rw [z] at bn
      exact bn this.symm
    show 1000 ≤ if b = a then 0 else _
    rw [if_neg ba, if_neg bp, if_neg bw, if_neg bs, if_neg bk, if_neg bl, if_neg bg, if_neg bm]
    exact Nat.le_refl _
