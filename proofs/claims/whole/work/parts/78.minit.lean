/-! THE START OF THE CHECK's BUREAU -/
def y_Y (a p1 p2 p3 p4 p5 p6 p7 p8 p9 p10 p11 p12 : Nat) : Nat → Nat := fun j => match j with
  | 0 => a
  | 1 => p1
  | 2 => p2
  | 3 => p3
  | 4 => p4
  | 5 => p5
  | 6 => p6
  | 7 => p7
  | 8 => p8
  | 9 => p9
  | 10 => p10
  | 11 => p11
  | _ => p12
theorem lt13 {i : Nat} (h : i < 13) : i = 0 ∨ i = 1 ∨ i = 2 ∨ i = 3 ∨ i = 4 ∨ i = 5 ∨ i = 6 ∨ i = 7 ∨ i = 8 ∨ i = 9 ∨ i = 10 ∨ i = 11 ∨ i = 12 := by omega
theorem c_model_init (η : jj_H) (a : Nat) (h : η a = some (x_o 7 (jj_def 7))) : jj_Ht mX7_init [.ref a] η 12 726 (fun v η' => v = none ∧ ∃ Y : Nat → Nat, Y 0 = a ∧ m_rep Y s_0 0 η' ∧ (∀ i, 0 < i → i < 13 → η (Y i) = none) ∧ ∀ b, b ≠ a → η b ≠ none → η' b = η b) := by
  refine jj_go tok_X7_init zok_X7 py_7 rfl 120 fun J => ?_
  refine ⟨6, rfl, by decide, by decide, by decide, fun p1 n1 => ?_⟩
  have ap1 : a ≠ p1 := fun z => by rw [z, n1] at h; cases h
  refine ⟨_, (up_n ap1).trans h, 6, rfl, by decide, by decide, by decide, fun p2 n2 => ?_⟩
  obtain ⟨pa2, n2⟩ := up_none n2
  obtain ⟨d2_1, n2⟩ := up_none n2
  refine ⟨_, (up_n (Ne.symm pa2)).trans up_s, 6, rfl, by decide, by decide, by decide, fun p3 n3 => ?_⟩
  obtain ⟨pa3, n3⟩ := up_none n3
  obtain ⟨d3_2, n3⟩ := up_none n3
  obtain ⟨-, n3⟩ := up_none n3
  obtain ⟨d3_1, n3⟩ := up_none n3
  refine ⟨_, (up_n (Ne.symm pa3)).trans up_s, 300, rfl, by decide, by decide, by decide, fun p4 n4 => ?_⟩
  obtain ⟨pa4, n4⟩ := up_none n4
  obtain ⟨d4_3, n4⟩ := up_none n4
  obtain ⟨-, n4⟩ := up_none n4
  obtain ⟨d4_2, n4⟩ := up_none n4
  obtain ⟨-, n4⟩ := up_none n4
  obtain ⟨d4_1, n4⟩ := up_none n4
  refine ⟨_, (up_n (Ne.symm pa4)).trans up_s, 4, rfl, by decide, by decide, by decide, fun p5 n5 => ?_⟩
  obtain ⟨pa5, n5⟩ := up_none n5
  obtain ⟨d5_4, n5⟩ := up_none n5
  obtain ⟨-, n5⟩ := up_none n5
  obtain ⟨d5_3, n5⟩ := up_none n5
  obtain ⟨-, n5⟩ := up_none n5
  obtain ⟨d5_2, n5⟩ := up_none n5
  obtain ⟨-, n5⟩ := up_none n5
  obtain ⟨d5_1, n5⟩ := up_none n5
  refine ⟨_, (up_n (Ne.symm pa5)).trans up_s, 4, rfl, by decide, by decide, by decide, fun p6 n6 => ?_⟩
  obtain ⟨pa6, n6⟩ := up_none n6
  obtain ⟨d6_5, n6⟩ := up_none n6
  obtain ⟨-, n6⟩ := up_none n6
  obtain ⟨d6_4, n6⟩ := up_none n6
  obtain ⟨-, n6⟩ := up_none n6
  obtain ⟨d6_3, n6⟩ := up_none n6
  obtain ⟨-, n6⟩ := up_none n6
  obtain ⟨d6_2, n6⟩ := up_none n6
  obtain ⟨-, n6⟩ := up_none n6
  obtain ⟨d6_1, n6⟩ := up_none n6
  refine ⟨_, (up_n (Ne.symm pa6)).trans up_s, 80, rfl, by decide, by decide, by decide, fun p7 n7 => ?_⟩
  obtain ⟨pa7, n7⟩ := up_none n7
  obtain ⟨d7_6, n7⟩ := up_none n7
  obtain ⟨-, n7⟩ := up_none n7
  obtain ⟨d7_5, n7⟩ := up_none n7
  obtain ⟨-, n7⟩ := up_none n7
  obtain ⟨d7_4, n7⟩ := up_none n7
  obtain ⟨-, n7⟩ := up_none n7
  obtain ⟨d7_3, n7⟩ := up_none n7
  obtain ⟨-, n7⟩ := up_none n7
  obtain ⟨d7_2, n7⟩ := up_none n7
  obtain ⟨-, n7⟩ := up_none n7
  obtain ⟨d7_1, n7⟩ := up_none n7
  refine ⟨_, (up_n (Ne.symm pa7)).trans up_s, 40, rfl, by decide, by decide, by decide, fun p8 n8 => ?_⟩
  obtain ⟨pa8, n8⟩ := up_none n8
  obtain ⟨d8_7, n8⟩ := up_none n8
  obtain ⟨-, n8⟩ := up_none n8
  obtain ⟨d8_6, n8⟩ := up_none n8
  obtain ⟨-, n8⟩ := up_none n8
  obtain ⟨d8_5, n8⟩ := up_none n8
  obtain ⟨-, n8⟩ := up_none n8
  obtain ⟨d8_4, n8⟩ := up_none n8
  obtain ⟨-, n8⟩ := up_none n8
  obtain ⟨d8_3, n8⟩ := up_none n8
  obtain ⟨-, n8⟩ := up_none n8
  obtain ⟨d8_2, n8⟩ := up_none n8
  obtain ⟨-, n8⟩ := up_none n8
  obtain ⟨d8_1, n8⟩ := up_none n8
  refine ⟨_, (up_n (Ne.symm pa8)).trans up_s, 40, rfl, by decide, by decide, by decide, fun p9 n9 => ?_⟩
  obtain ⟨pa9, n9⟩ := up_none n9
  obtain ⟨d9_8, n9⟩ := up_none n9
  obtain ⟨-, n9⟩ := up_none n9
  obtain ⟨d9_7, n9⟩ := up_none n9
  obtain ⟨-, n9⟩ := up_none n9
  obtain ⟨d9_6, n9⟩ := up_none n9
  obtain ⟨-, n9⟩ := up_none n9
  obtain ⟨d9_5, n9⟩ := up_none n9
  obtain ⟨-, n9⟩ := up_none n9
  obtain ⟨d9_4, n9⟩ := up_none n9
  obtain ⟨-, n9⟩ := up_none n9
  obtain ⟨d9_3, n9⟩ := up_none n9
  obtain ⟨-, n9⟩ := up_none n9
  obtain ⟨d9_2, n9⟩ := up_none n9
  obtain ⟨-, n9⟩ := up_none n9
  obtain ⟨d9_1, n9⟩ := up_none n9
  refine ⟨_, (up_n (Ne.symm pa9)).trans up_s, 40, rfl, by decide, by decide, by decide, fun p10 n10 => ?_⟩
  obtain ⟨pa10, n10⟩ := up_none n10
  obtain ⟨d10_9, n10⟩ := up_none n10
  obtain ⟨-, n10⟩ := up_none n10
  obtain ⟨d10_8, n10⟩ := up_none n10
  obtain ⟨-, n10⟩ := up_none n10
  obtain ⟨d10_7, n10⟩ := up_none n10
  obtain ⟨-, n10⟩ := up_none n10
  obtain ⟨d10_6, n10⟩ := up_none n10
  obtain ⟨-, n10⟩ := up_none n10
  obtain ⟨d10_5, n10⟩ := up_none n10
  obtain ⟨-, n10⟩ := up_none n10
  obtain ⟨d10_4, n10⟩ := up_none n10
  obtain ⟨-, n10⟩ := up_none n10
  obtain ⟨d10_3, n10⟩ := up_none n10
  obtain ⟨-, n10⟩ := up_none n10
  obtain ⟨d10_2, n10⟩ := up_none n10
  obtain ⟨-, n10⟩ := up_none n10
  obtain ⟨d10_1, n10⟩ := up_none n10
  refine ⟨_, (up_n (Ne.symm pa10)).trans up_s, 160, rfl, by decide, by decide, by decide, fun p11 n11 => ?_⟩
  obtain ⟨pa11, n11⟩ := up_none n11
  obtain ⟨d11_10, n11⟩ := up_none n11
  obtain ⟨-, n11⟩ := up_none n11
  obtain ⟨d11_9, n11⟩ := up_none n11
  obtain ⟨-, n11⟩ := up_none n11
  obtain ⟨d11_8, n11⟩ := up_none n11
  obtain ⟨-, n11⟩ := up_none n11
  obtain ⟨d11_7, n11⟩ := up_none n11
  obtain ⟨-, n11⟩ := up_none n11
  obtain ⟨d11_6, n11⟩ := up_none n11
  obtain ⟨-, n11⟩ := up_none n11
  obtain ⟨d11_5, n11⟩ := up_none n11
  obtain ⟨-, n11⟩ := up_none n11
  obtain ⟨d11_4, n11⟩ := up_none n11
  obtain ⟨-, n11⟩ := up_none n11
  obtain ⟨d11_3, n11⟩ := up_none n11
  obtain ⟨-, n11⟩ := up_none n11
  obtain ⟨d11_2, n11⟩ := up_none n11
  obtain ⟨-, n11⟩ := up_none n11
  obtain ⟨d11_1, n11⟩ := up_none n11
  refine ⟨_, (up_n (Ne.symm pa11)).trans up_s, 40, rfl, by decide, by decide, by decide, fun p12 n12 => ?_⟩
  obtain ⟨pa12, n12⟩ := up_none n12
  obtain ⟨d12_11, n12⟩ := up_none n12
  obtain ⟨-, n12⟩ := up_none n12
  obtain ⟨d12_10, n12⟩ := up_none n12
  obtain ⟨-, n12⟩ := up_none n12
  obtain ⟨d12_9, n12⟩ := up_none n12
  obtain ⟨-, n12⟩ := up_none n12
  obtain ⟨d12_8, n12⟩ := up_none n12
  obtain ⟨-, n12⟩ := up_none n12
  obtain ⟨d12_7, n12⟩ := up_none n12
  obtain ⟨-, n12⟩ := up_none n12
  obtain ⟨d12_6, n12⟩ := up_none n12
  obtain ⟨-, n12⟩ := up_none n12
  obtain ⟨d12_5, n12⟩ := up_none n12
  obtain ⟨-, n12⟩ := up_none n12
  obtain ⟨d12_4, n12⟩ := up_none n12
  obtain ⟨-, n12⟩ := up_none n12
  obtain ⟨d12_3, n12⟩ := up_none n12
  obtain ⟨-, n12⟩ := up_none n12
  obtain ⟨d12_2, n12⟩ := up_none n12
  obtain ⟨-, n12⟩ := up_none n12
  obtain ⟨d12_1, n12⟩ := up_none n12
  have pa1 : p1 ≠ a := Ne.symm ap1
  refine ⟨_, (up_n (Ne.symm pa12)).trans up_s, ⟨rfl, y_Y a p1 p2 p3 p4 p5 p6 p7 p8 p9 p10 p11 p12, rfl, ⟨?_, fun _ _ => rfl, up_s, ?_, ?_, ?_, ?_, ?_, ?_, ?_, ?_, ?_, ?_, ?_, ?_⟩, ?_, fun b ba bn => ?_⟩, by decide, by decide⟩
  · intro i j hi hj hij
    rcases lt13 hi with rfl | rfl | rfl | rfl | rfl | rfl | rfl | rfl | rfl | rfl | rfl | rfl | rfl
    · rcases lt13 hj with rfl | rfl | rfl | rfl | rfl | rfl | rfl | rfl | rfl | rfl | rfl | rfl | rfl
      · exact absurd rfl hij
      · exact Ne.symm pa1
      · exact Ne.symm pa2
      · exact Ne.symm pa3
      · exact Ne.symm pa4
      · exact Ne.symm pa5
      · exact Ne.symm pa6
      · exact Ne.symm pa7
      · exact Ne.symm pa8
      · exact Ne.symm pa9
      · exact Ne.symm pa10
      · exact Ne.symm pa11
      · exact Ne.symm pa12
    · rcases lt13 hj with rfl | rfl | rfl | rfl | rfl | rfl | rfl | rfl | rfl | rfl | rfl | rfl | rfl
      · exact pa1
      · exact absurd rfl hij
      · exact Ne.symm d2_1
      · exact Ne.symm d3_1
      · exact Ne.symm d4_1
      · exact Ne.symm d5_1
      · exact Ne.symm d6_1
      · exact Ne.symm d7_1
      · exact Ne.symm d8_1
      · exact Ne.symm d9_1
      · exact Ne.symm d10_1
      · exact Ne.symm d11_1
      · exact Ne.symm d12_1
    · rcases lt13 hj with rfl | rfl | rfl | rfl | rfl | rfl | rfl | rfl | rfl | rfl | rfl | rfl | rfl
      · exact pa2
      · exact d2_1
      · exact absurd rfl hij
      · exact Ne.symm d3_2
      · exact Ne.symm d4_2
      · exact Ne.symm d5_2
      · exact Ne.symm d6_2
      · exact Ne.symm d7_2
      · exact Ne.symm d8_2
      · exact Ne.symm d9_2
      · exact Ne.symm d10_2
      · exact Ne.symm d11_2
      · exact Ne.symm d12_2
    · rcases lt13 hj with rfl | rfl | rfl | rfl | rfl | rfl | rfl | rfl | rfl | rfl | rfl | rfl | rfl
      · exact pa3
      · exact d3_1
      · exact d3_2
      · exact absurd rfl hij
      · exact Ne.symm d4_3
      · exact Ne.symm d5_3
      · exact Ne.symm d6_3
      · exact Ne.symm d7_3
      · exact Ne.symm d8_3
      · exact Ne.symm d9_3
      · exact Ne.symm d10_3
      · exact Ne.symm d11_3
      · exact Ne.symm d12_3
    · rcases lt13 hj with rfl | rfl | rfl | rfl | rfl | rfl | rfl | rfl | rfl | rfl | rfl | rfl | rfl
      · exact pa4
      · exact d4_1
      · exact d4_2
      · exact d4_3
      · exact absurd rfl hij
      · exact Ne.symm d5_4
      · exact Ne.symm d6_4
      · exact Ne.symm d7_4
      · exact Ne.symm d8_4
      · exact Ne.symm d9_4
      · exact Ne.symm d10_4
      · exact Ne.symm d11_4
      · exact Ne.symm d12_4
    · rcases lt13 hj with rfl | rfl | rfl | rfl | rfl | rfl | rfl | rfl | rfl | rfl | rfl | rfl | rfl
      · exact pa5
      · exact d5_1
      · exact d5_2
      · exact d5_3
      · exact d5_4
      · exact absurd rfl hij
      · exact Ne.symm d6_5
      · exact Ne.symm d7_5
      · exact Ne.symm d8_5
      · exact Ne.symm d9_5
      · exact Ne.symm d10_5
      · exact Ne.symm d11_5
      · exact Ne.symm d12_5
    · rcases lt13 hj with rfl | rfl | rfl | rfl | rfl | rfl | rfl | rfl | rfl | rfl | rfl | rfl | rfl
      · exact pa6
      · exact d6_1
      · exact d6_2
      · exact d6_3
      · exact d6_4
      · exact d6_5
      · exact absurd rfl hij
      · exact Ne.symm d7_6
      · exact Ne.symm d8_6
      · exact Ne.symm d9_6
      · exact Ne.symm d10_6
      · exact Ne.symm d11_6
      · exact Ne.symm d12_6
    · rcases lt13 hj with rfl | rfl | rfl | rfl | rfl | rfl | rfl | rfl | rfl | rfl | rfl | rfl | rfl
      · exact pa7
      · exact d7_1
      · exact d7_2
      · exact d7_3
      · exact d7_4
      · exact d7_5
      · exact d7_6
      · exact absurd rfl hij
      · exact Ne.symm d8_7
      · exact Ne.symm d9_7
      · exact Ne.symm d10_7
      · exact Ne.symm d11_7
      · exact Ne.symm d12_7
    · rcases lt13 hj with rfl | rfl | rfl | rfl | rfl | rfl | rfl | rfl | rfl | rfl | rfl | rfl | rfl
      · exact pa8
      · exact d8_1
      · exact d8_2
      · exact d8_3
      · exact d8_4
      · exact d8_5
      · exact d8_6
      · exact d8_7
      · exact absurd rfl hij
      · exact Ne.symm d9_8
      · exact Ne.symm d10_8
      · exact Ne.symm d11_8
      · exact Ne.symm d12_8
    · rcases lt13 hj with rfl | rfl | rfl | rfl | rfl | rfl | rfl | rfl | rfl | rfl | rfl | rfl | rfl
      · exact pa9
      · exact d9_1
      · exact d9_2
      · exact d9_3
      · exact d9_4
      · exact d9_5
      · exact d9_6
      · exact d9_7
      · exact d9_8
      · exact absurd rfl hij
      · exact Ne.symm d10_9
      · exact Ne.symm d11_9
      · exact Ne.symm d12_9
    · rcases lt13 hj with rfl | rfl | rfl | rfl | rfl | rfl | rfl | rfl | rfl | rfl | rfl | rfl | rfl
      · exact pa10
      · exact d10_1
      · exact d10_2
      · exact d10_3
      · exact d10_4
      · exact d10_5
      · exact d10_6
      · exact d10_7
      · exact d10_8
      · exact d10_9
      · exact absurd rfl hij
      · exact Ne.symm d11_10
      · exact Ne.symm d12_10
    · rcases lt13 hj with rfl | rfl | rfl | rfl | rfl | rfl | rfl | rfl | rfl | rfl | rfl | rfl | rfl
      · exact pa11
      · exact d11_1
      · exact d11_2
      · exact d11_3
      · exact d11_4
      · exact d11_5
      · exact d11_6
      · exact d11_7
      · exact d11_8
      · exact d11_9
      · exact d11_10
      · exact absurd rfl hij
      · exact Ne.symm d12_11
    · rcases lt13 hj with rfl | rfl | rfl | rfl | rfl | rfl | rfl | rfl | rfl | rfl | rfl | rfl | rfl
      · exact pa12
      · exact d12_1
      · exact d12_2
      · exact d12_3
      · exact d12_4
      · exact d12_5
      · exact d12_6
      · exact d12_7
      · exact d12_8
      · exact d12_9
      · exact d12_10
      · exact d12_11
      · exact absurd rfl hij
  · exact (up_n (pa1)).trans ((up_n (Ne.symm d12_1)).trans ((up_n (pa1)).trans ((up_n (Ne.symm d11_1)).trans ((up_n (pa1)).trans ((up_n (Ne.symm d10_1)).trans ((up_n (pa1)).trans ((up_n (Ne.symm d9_1)).trans ((up_n (pa1)).trans ((up_n (Ne.symm d8_1)).trans ((up_n (pa1)).trans ((up_n (Ne.symm d7_1)).trans ((up_n (pa1)).trans ((up_n (Ne.symm d6_1)).trans ((up_n (pa1)).trans ((up_n (Ne.symm d5_1)).trans ((up_n (pa1)).trans ((up_n (Ne.symm d4_1)).trans ((up_n (pa1)).trans ((up_n (Ne.symm d3_1)).trans ((up_n (pa1)).trans ((up_n (Ne.symm d2_1)).trans ((up_n (pa1)).trans (up_s)))))))))))))))))))))))
  · exact (up_n (pa2)).trans ((up_n (Ne.symm d12_2)).trans ((up_n (pa2)).trans ((up_n (Ne.symm d11_2)).trans ((up_n (pa2)).trans ((up_n (Ne.symm d10_2)).trans ((up_n (pa2)).trans ((up_n (Ne.symm d9_2)).trans ((up_n (pa2)).trans ((up_n (Ne.symm d8_2)).trans ((up_n (pa2)).trans ((up_n (Ne.symm d7_2)).trans ((up_n (pa2)).trans ((up_n (Ne.symm d6_2)).trans ((up_n (pa2)).trans ((up_n (Ne.symm d5_2)).trans ((up_n (pa2)).trans ((up_n (Ne.symm d4_2)).trans ((up_n (pa2)).trans ((up_n (Ne.symm d3_2)).trans ((up_n (pa2)).trans (up_s)))))))))))))))))))))
  · exact (up_n (pa3)).trans ((up_n (Ne.symm d12_3)).trans ((up_n (pa3)).trans ((up_n (Ne.symm d11_3)).trans ((up_n (pa3)).trans ((up_n (Ne.symm d10_3)).trans ((up_n (pa3)).trans ((up_n (Ne.symm d9_3)).trans ((up_n (pa3)).trans ((up_n (Ne.symm d8_3)).trans ((up_n (pa3)).trans ((up_n (Ne.symm d7_3)).trans ((up_n (pa3)).trans ((up_n (Ne.symm d6_3)).trans ((up_n (pa3)).trans ((up_n (Ne.symm d5_3)).trans ((up_n (pa3)).trans ((up_n (Ne.symm d4_3)).trans ((up_n (pa3)).trans (up_s)))))))))))))))))))
  · exact (up_n (pa4)).trans ((up_n (Ne.symm d12_4)).trans ((up_n (pa4)).trans ((up_n (Ne.symm d11_4)).trans ((up_n (pa4)).trans ((up_n (Ne.symm d10_4)).trans ((up_n (pa4)).trans ((up_n (Ne.symm d9_4)).trans ((up_n (pa4)).trans ((up_n (Ne.symm d8_4)).trans ((up_n (pa4)).trans ((up_n (Ne.symm d7_4)).trans ((up_n (pa4)).trans ((up_n (Ne.symm d6_4)).trans ((up_n (pa4)).trans ((up_n (Ne.symm d5_4)).trans ((up_n (pa4)).trans (up_s)))))))))))))))))
  · exact (up_n (pa5)).trans ((up_n (Ne.symm d12_5)).trans ((up_n (pa5)).trans ((up_n (Ne.symm d11_5)).trans ((up_n (pa5)).trans ((up_n (Ne.symm d10_5)).trans ((up_n (pa5)).trans ((up_n (Ne.symm d9_5)).trans ((up_n (pa5)).trans ((up_n (Ne.symm d8_5)).trans ((up_n (pa5)).trans ((up_n (Ne.symm d7_5)).trans ((up_n (pa5)).trans ((up_n (Ne.symm d6_5)).trans ((up_n (pa5)).trans (up_s)))))))))))))))
  · exact (up_n (pa6)).trans ((up_n (Ne.symm d12_6)).trans ((up_n (pa6)).trans ((up_n (Ne.symm d11_6)).trans ((up_n (pa6)).trans ((up_n (Ne.symm d10_6)).trans ((up_n (pa6)).trans ((up_n (Ne.symm d9_6)).trans ((up_n (pa6)).trans ((up_n (Ne.symm d8_6)).trans ((up_n (pa6)).trans ((up_n (Ne.symm d7_6)).trans ((up_n (pa6)).trans (up_s)))))))))))))
  · exact (up_n (pa7)).trans ((up_n (Ne.symm d12_7)).trans ((up_n (pa7)).trans ((up_n (Ne.symm d11_7)).trans ((up_n (pa7)).trans ((up_n (Ne.symm d10_7)).trans ((up_n (pa7)).trans ((up_n (Ne.symm d9_7)).trans ((up_n (pa7)).trans ((up_n (Ne.symm d8_7)).trans ((up_n (pa7)).trans (up_s)))))))))))
  · exact (up_n (pa8)).trans ((up_n (Ne.symm d12_8)).trans ((up_n (pa8)).trans ((up_n (Ne.symm d11_8)).trans ((up_n (pa8)).trans ((up_n (Ne.symm d10_8)).trans ((up_n (pa8)).trans ((up_n (Ne.symm d9_8)).trans ((up_n (pa8)).trans (up_s)))))))))
  · exact (up_n (pa9)).trans ((up_n (Ne.symm d12_9)).trans ((up_n (pa9)).trans ((up_n (Ne.symm d11_9)).trans ((up_n (pa9)).trans ((up_n (Ne.symm d10_9)).trans ((up_n (pa9)).trans (up_s)))))))
  · exact (up_n (pa10)).trans ((up_n (Ne.symm d12_10)).trans ((up_n (pa10)).trans ((up_n (Ne.symm d11_10)).trans ((up_n (pa10)).trans (up_s)))))
  · exact (up_n (pa11)).trans ((up_n (Ne.symm d12_11)).trans ((up_n (pa11)).trans (up_s)))
  · exact (up_n (pa12)).trans (up_s)
  · intro i h0 hi
    rcases lt13 hi with rfl | rfl | rfl | rfl | rfl | rfl | rfl | rfl | rfl | rfl | rfl | rfl | rfl
    · exact absurd h0 (Nat.lt_irrefl _)
    · exact n1
    · exact n2
    · exact n3
    · exact n4
    · exact n5
    · exact n6
    · exact n7
    · exact n8
    · exact n9
    · exact n10
    · exact n11
    · exact n12
  · have b1 : b ≠ p1 := fun z => bn (by rw [z]; exact n1)
    have b2 : b ≠ p2 := fun z => bn (by rw [z]; exact n2)
    have b3 : b ≠ p3 := fun z => bn (by rw [z]; exact n3)
    have b4 : b ≠ p4 := fun z => bn (by rw [z]; exact n4)
    have b5 : b ≠ p5 := fun z => bn (by rw [z]; exact n5)
    have b6 : b ≠ p6 := fun z => bn (by rw [z]; exact n6)
    have b7 : b ≠ p7 := fun z => bn (by rw [z]; exact n7)
    have b8 : b ≠ p8 := fun z => bn (by rw [z]; exact n8)
    have b9 : b ≠ p9 := fun z => bn (by rw [z]; exact n9)
    have b10 : b ≠ p10 := fun z => bn (by rw [z]; exact n10)
    have b11 : b ≠ p11 := fun z => bn (by rw [z]; exact n11)
    have b12 : b ≠ p12 := fun z => bn (by rw [z]; exact n12)
    exact (up_n ba).trans ((up_n b12).trans ((up_n ba).trans ((up_n b11).trans ((up_n ba).trans ((up_n b10).trans ((up_n ba).trans ((up_n b9).trans ((up_n ba).trans ((up_n b8).trans ((up_n ba).trans ((up_n b7).trans ((up_n ba).trans ((up_n b6).trans ((up_n ba).trans ((up_n b5).trans ((up_n ba).trans ((up_n b4).trans ((up_n ba).trans ((up_n b3).trans ((up_n ba).trans ((up_n b2).trans ((up_n ba).trans (up_n b1)))))))))))))))))))))))
