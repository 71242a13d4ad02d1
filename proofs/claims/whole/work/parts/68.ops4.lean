/-! pure: count, house, judge, sees, leastEye -/
theorem op_judge : E_judge Inv := by
  intro w v hI
  have hI' := hI
  obtain ⟨⟨N, T, n1, n2, I, n4, n5, K⟩, b, d, ⟨k, hk, e1, e2, e3⟩, e⟩ := hI
  show Eq2 Inv _ _
  unfold f_X5_judge f_X6_judge
  simp only [nm, e2]
  have j : Inv (w.1, w.2.1, w.2.2.1, w.2.2.2.1, w.2.2.2.2.1, w.2.2.2.2.2.1, w.2.2.2.2.2.2.1, (0 : Int32)) (v.1, v.2.1, v.2.2.1, v.2.2.2.1, v.2.2.2.2.1, v.2.2.2.2.2.1, v.2.2.2.2.2.2.1, v.2.2.2.2.2.2.2.1, v.2.2.2.2.2.2.2.2.1, v.2.2.2.2.2.2.2.2.2.1, v.2.2.2.2.2.2.2.2.2.2.1, (0 : Int32), v.2.2.2.2.2.2.2.2.2.2.2.2.1, v.2.2.2.2.2.2.2.2.2.2.2.2.2) :=
    ⟨⟨N, T, n1, n2, I, n4, n5, K⟩, b, d, ⟨0, by omega, rfl, rfl, fun i hi => absurd hi (Nat.not_lt_zero _)⟩, e⟩
  have key : ∀ (n i m : Nat), i + m = k → m + 1 < n → Eq2 Inv (f_X5_judge_5 w n (nI i) (-9 : Int32)) (f_X6_judge_12 (nI k) n (nI i) (v.1, v.2.1, v.2.2.1, v.2.2.2.1, v.2.2.2.2.1, v.2.2.2.2.2.1, v.2.2.2.2.2.2.1, v.2.2.2.2.2.2.2.1, v.2.2.2.2.2.2.2.2.1, v.2.2.2.2.2.2.2.2.2.1, v.2.2.2.2.2.2.2.2.2.2.1, (0 : Int32), v.2.2.2.2.2.2.2.2.2.2.2.2.1, v.2.2.2.2.2.2.2.2.2.2.2.2.2)) := by
    intro n
    induction n with
    | zero => intro i m _ h2; exact absurd h2 (Nat.not_lt_zero _)
    | succ n ih =>
      intro i m h1 h2
      rw [f_X5_judge_5, f_X6_judge_12, e1]
      by_cases q : i = k
      · subst q
        rw [if_pos (le_self i), if_pos (le_self i)]
        exact Eq2_some rfl j
      · have hi : i < k := by omega
        rw [if_neg (ge_N (by omega) hi), if_neg (ge_N (by omega) hi), if_pos rfl, if_pos (inR16 (show i < 16 by omega)), if_pos (inR20 (show i < 20 by omega)), if_pos (in3 (show i < 20 by omega)), if_pos (inR16 (show i < 16 by omega)), cl3 (show i < 20 by omega), nI_clamp (show i < 2 ^ 31 by omega)]
        have a1 := (e3 i hi).1
        have a2 : v.1 (3 + i) = w.1.1.1 i := K.2.2.2.1 i (by omega)
        by_cases z : w.2.2.2.2.1 i = w.1.1.1 i
        · rw [if_pos z, if_pos (show v.1 (3 + i) = v.2.2.2.2.2.1 i by rw [a2, ← a1, z]), nI_1]
          exact ih (i + 1) (m - 1) (by omega) (by omega)
        · rw [if_neg z, if_neg (show ¬ v.1 (3 + i) = v.2.2.2.2.2.1 i from fun y => z (by rw [a1, ← y, a2])), nI_1]
          cases n with
          | zero => omega
          | succ n =>
            rw [f_X5_judge_5, e1]
            have hne : ¬ nI i = (-9 : Int32) := fun y => absurd (nI_pos' (show i < 2 ^ 31 by omega)) (by rw [y]; decide)
            by_cases q2 : nI k ≤ nI (i + 1)
            · rw [if_pos q2]; exact Eq2_some rfl j
            · rw [if_neg q2, if_neg hne]; exact Eq2_some rfl j
  exact key 200 0 k (by omega) (by omega)
theorem op_house : E_house Inv := by
  intro w v hI x y
  have hI' := hI
  obtain ⟨⟨N, T, n1, n2, I, n4, n5, K⟩, b⟩ := hI
  show Eq2 Inv _ _
  unfold f_X5_house f_X6_house
  rcases hs6 I K x with ⟨h1, h2⟩ | ⟨h, hh, rfl, h1, h2⟩
  · rw [h1, h2, Option.bind_some, Option.bind_some, if_pos rfl, if_pos rfl]
    exact ref_no (x := (-1 : Int32)) hI' 1 (by decide) (by decide) rfl
  · have h8 : h < 8 := by omega
    have g := K.2.2.2.2 h hh
    have hi8 := inR8 hh I.2.1
    have hc8 : (nI h).toNatClampNeg = h := nI_clamp (by omega)
    rw [h1, h2, Option.bind_some, Option.bind_some, if_neg one_ne, if_neg one_ne]
    have c0 : ∀ k : Nat, k < 5 → f_X6_isIn (nI k) (0 : Int32) (4 : Int32) = some 1 := by decide +kernel
    by_cases y0 : y = 0
    · subst y0
      rw [if_pos rfl, if_pos hi8, hc8, show f_X6_isIn (0 : Int32) (0 : Int32) (4 : Int32) = some 1 from c0 0 (by decide), Option.bind_some, if_neg one_ne, of_0, Option.bind_some, if_pos (in71z h8), cl71z h8]
      exact Eq2_some g.1.symm hI'
    by_cases y1 : y = 1
    · subst y1
      rw [if_neg (by decide), if_pos rfl, if_pos hi8, hc8, show f_X6_isIn (1 : Int32) (0 : Int32) (4 : Int32) = some 1 from c0 1 (by decide), Option.bind_some, if_neg one_ne, of_1, Option.bind_some, if_pos (in71 h8 (show 1 < 6 by decide)), cl71 h8 (show 1 < 6 by decide)]
      exact Eq2_some g.2.1.symm hI'
    by_cases y2 : y = 2
    · subst y2
      rw [if_neg (by decide), if_neg (by decide), if_pos rfl, if_pos hi8, hc8, show f_X6_isIn (2 : Int32) (0 : Int32) (4 : Int32) = some 1 from c0 2 (by decide), Option.bind_some, if_neg one_ne, of_2, Option.bind_some, if_pos (in71 h8 (show 2 < 6 by decide)), cl71 h8 (show 2 < 6 by decide)]
      exact Eq2_some g.2.2.1.symm hI'
    by_cases y3 : y = 3
    · subst y3
      rw [if_neg (by decide), if_neg (by decide), if_neg (by decide), if_pos rfl, if_pos hi8, hc8, show f_X6_isIn (3 : Int32) (0 : Int32) (4 : Int32) = some 1 from c0 3 (by decide), Option.bind_some, if_neg one_ne, of_3, Option.bind_some, if_pos (in71 h8 (show 3 < 6 by decide)), cl71 h8 (show 3 < 6 by decide)]
      exact Eq2_some g.2.2.2.1.symm hI'
    by_cases y4 : y = 4
    · subst y4
      rw [if_neg (by decide), if_neg (by decide), if_neg (by decide), if_neg (by decide), if_pos rfl, show f_X6_isIn (4 : Int32) (0 : Int32) (4 : Int32) = some 1 from c0 4 (by decide), Option.bind_some, if_neg one_ne, of_4, Option.bind_some, if_pos (in71 h8 (show 4 < 6 by decide)), cl71 h8 (show 4 < 6 by decide), g.2.2.2.2.1]
      have hc : f_X1_isCalled w.1.1 (nI h) = some (b01 (calledB w.1.1 h)) := by
        unfold f_X1_isCalled
        rw [show f_X5_has w.1.1.2.2.2.2.2.2.1 (nI h) = _ from called5 I hh, Option.bind_some, if_pos (b01_or _)]
      rw [hc, Option.bind_some]
      cases calledB w.1.1 h with
      | false => rw [if_pos b01f]; exact Eq2_some rfl hI'
      | true => rw [if_neg b01t]; exact Eq2_some rfl hI'
    have hIn : f_X6_isIn y (0 : Int32) (4 : Int32) = some 0 := by
      rcases isIn_0 y 4 (by decide) with q | ⟨k, hk, rfl, q⟩
      · exact q.1
      · exfalso
        have : k = 0 ∨ k = 1 ∨ k = 2 ∨ k = 3 ∨ k = 4 := by omega
        rcases this with rfl | rfl | rfl | rfl | rfl
        · exact y0 rfl
        · exact y1 rfl
        · exact y2 rfl
        · exact y3 rfl
        · exact y4 rfl
    rw [if_neg y0, if_neg y1, if_neg y2, if_neg y3, if_neg y4, hIn, Option.bind_some, if_pos rfl]
    by_cases y5 : y = 5
    · rw [if_pos y5, if_pos y5, isLit5 I hh, isLit6 I (by omega) K hh, Option.bind_some, Option.bind_some]
      cases litB w.1.1 h with
      | false => rw [if_pos b01f, if_pos b01f]; exact Eq2_some rfl hI'
      | true => rw [if_neg b01t, if_neg b01t]; exact Eq2_some rfl hI'
    rw [if_neg y5, if_neg y5]
    by_cases y6 : y = 6
    · rw [if_pos y6, if_pos y6, pl_eye I hh, eye6 I K hh, eyeR_0, Option.bind_some, Option.bind_some]
      exact Eq2_some rfl hI'
    rw [if_neg y6, if_neg y6]
    by_cases y7 : y = 7
    · rw [if_pos y7, if_pos y7, of_0, Option.bind_some, if_pos (in71z h8), cl71z h8, g.1, burns6, Option.bind_some]
      unfold f_X1_burnsOf
      rw [if_pos hi8, hc8, burns5, Option.bind_some, Option.bind_some]
      exact Eq2_some rfl hI'
    rw [if_neg y7, if_neg y7]
    exact ref_no (x := (-2 : Int32)) hI' 2 (by decide) (by decide) rfl
theorem op_count : E_count Inv := by
  intro w v hI x
  have hI' := hI
  obtain ⟨⟨N, T, n1, n2, I, n4, n5, K⟩, b, ⟨kl, hkl, l1, l2, l3⟩, ⟨k, hk, e1, e2, e3⟩, e⟩ := hI
  unfold f_X5_count f_X6_count
  have c0 : ∀ k : Nat, k < 8 → f_X6_isIn (nI k) (11 : Int32) (16 : Int32) = some 0 := by decide +kernel
  by_cases y0 : x = 0
  · subst y0
    rw [show f_X6_isIn (0 : Int32) (11 : Int32) (16 : Int32) = some 0 from c0 0 (by decide), Option.bind_some, if_pos rfl, if_pos rfl, if_pos rfl, if_pos r71_0, z71_0]
    exact ⟨_, _, rfl, rfl, K.1.symm, hI'⟩
  by_cases y1 : x = 1
  · subst y1
    rw [show f_X6_isIn (1 : Int32) (11 : Int32) (16 : Int32) = some 0 from c0 1 (by decide), Option.bind_some, if_neg (by decide), if_pos rfl, if_pos rfl, if_neg (by decide), if_pos rfl, if_pos r71_1, z71_1]
    exact ⟨_, _, rfl, rfl, K.2.1.symm, hI'⟩
  by_cases y2 : x = 2
  · subst y2
    rw [show f_X6_isIn (2 : Int32) (11 : Int32) (16 : Int32) = some 0 from c0 2 (by decide), Option.bind_some, if_neg (by decide), if_neg (by decide), if_pos rfl, if_pos rfl, if_neg (by decide), if_neg (by decide), if_pos rfl, if_pos r71_2, z71_2]
    exact ⟨_, _, rfl, rfl, K.2.2.1.symm, hI'⟩
  by_cases y3 : x = 3
  · subst y3
    rw [show f_X6_isIn (3 : Int32) (11 : Int32) (16 : Int32) = some 0 from c0 3 (by decide), Option.bind_some, if_neg (by decide), if_neg (by decide), if_neg (by decide), if_pos rfl, if_pos rfl, if_neg (by decide), if_neg (by decide), if_neg (by decide), if_pos rfl, pl_lit I, lit6 I (by omega) K, Option.bind_some, Option.bind_some]
    exact ⟨_, _, rfl, rfl, rfl, hI'⟩
  by_cases y4 : x = 4
  · subst y4
    obtain ⟨t', q1, q2⟩ := th_behind (k := 0) I w.1 rfl (by decide)
    rw [show f_X6_isIn (4 : Int32) (11 : Int32) (16 : Int32) = some 0 from c0 4 (by decide), Option.bind_some, if_neg (by decide), if_neg (by decide), if_neg (by decide), if_neg (by decide), if_pos rfl, if_pos rfl, if_neg (by decide), if_neg (by decide), if_neg (by decide), if_neg (by decide), if_pos rfl, show f_X4_hangingBehind w.1 (0 : Int32) = _ from q1, hangIn_k (k := 0) I (by omega) K, Option.bind_some, Option.bind_some]
    exact ⟨_, _, rfl, rfl, rfl, Inv_w hI' t' q2.1⟩
  by_cases y5 : x = 5
  · subst y5
    rw [show f_X6_isIn (5 : Int32) (11 : Int32) (16 : Int32) = some 0 from c0 5 (by decide), Option.bind_some, if_neg (by decide), if_neg (by decide), if_neg (by decide), if_neg (by decide), if_neg (by decide), if_pos rfl, if_pos rfl, if_neg (by decide), if_neg (by decide), if_neg (by decide), if_neg (by decide), if_neg (by decide), if_pos rfl, pl_allWicks I, allWicks6 I K, Option.bind_some, Option.bind_some]
    exact ⟨_, _, rfl, rfl, rfl, hI'⟩
  by_cases y6 : x = 6
  · subst y6
    rw [show f_X6_isIn (6 : Int32) (11 : Int32) (16 : Int32) = some 0 from c0 6 (by decide), Option.bind_some, if_neg (by decide), if_neg (by decide), if_neg (by decide), if_neg (by decide), if_neg (by decide), if_neg (by decide), if_pos rfl, if_pos rfl, if_neg (by decide), if_neg (by decide), if_neg (by decide), if_neg (by decide), if_neg (by decide), if_neg (by decide), if_pos rfl]
    exact ⟨_, _, rfl, rfl, e1.trans e2.symm, hI'⟩
  by_cases y7 : x = 7
  · subst y7
    rw [show f_X6_isIn (7 : Int32) (11 : Int32) (16 : Int32) = some 0 from c0 7 (by decide), Option.bind_some, if_neg (by decide), if_neg (by decide), if_neg (by decide), if_neg (by decide), if_neg (by decide), if_neg (by decide), if_neg (by decide), if_pos rfl, if_pos rfl, if_neg (by decide), if_neg (by decide), if_neg (by decide), if_neg (by decide), if_neg (by decide), if_neg (by decide), if_neg (by decide), if_pos rfl]
    exact ⟨_, _, rfl, rfl, l1.trans l2.symm, hI'⟩
  rw [if_neg y0, if_neg y1, if_neg y2, if_neg y3, if_neg y4, if_neg y5, if_neg y6, if_neg y7, if_neg y0, if_neg y1, if_neg y2, if_neg y3, if_neg y4, if_neg y5, if_neg y6, if_neg y7]
  have key : (∃ c, 1 ≤ c ∧ c ≤ 6 ∧ x = nI (c + 10)) ∨ (f_X6_isIn x (11 : Int32) (16 : Int32) = some 0 ∧ f_X5_refusalsCounted w (x - (10 : Int32)) = some (-9)) := by
    unfold f_X6_isIn f_X5_refusalsCounted
    by_cases z1 : x - 10 < 1
    · rw [if_pos z1]
      by_cases z2 : x < 11
      · exact .inr ⟨if_pos z2, rfl⟩
      · rw [if_neg z2]
        by_cases z3 : (16 : Int32) < x
        · exact .inr ⟨if_pos z3, rfl⟩
        · exfalso
          have h0 : ¬ x < 0 := fun z => z2 (Int32.lt_trans z (by decide))
          obtain ⟨j, hj, rfl⟩ := nI_of h0
          have a1 : 11 ≤ j := Nat.not_lt.1 fun z => z2 (nI_lt (b := 11) z (by decide))
          rw [show nI j - (10 : Int32) = nI (j - 10) from pk_sub (b := 10) (by omega)] at z1
          exact absurd z1 (nI_nlt (b := 1) (by omega) (by omega))
    · rw [if_neg z1]
      by_cases z2 : (6 : Int32) < x - 10
      · rw [if_pos z2]
        refine .inr ⟨?_, rfl⟩
        by_cases z3 : x < 11
        · exact if_pos z3
        · rw [if_neg z3]
          by_cases z4 : (16 : Int32) < x
          · exact if_pos z4
          · exfalso
            have h0 : ¬ x < 0 := fun z => z3 (Int32.lt_trans z (by decide))
            obtain ⟨j, hj, rfl⟩ := nI_of h0
            have a1 : 11 ≤ j := Nat.not_lt.1 fun z => z3 (nI_lt (b := 11) z (by decide))
            have a2 : j ≤ 16 := Nat.not_lt.1 fun z => z4 (nI_lt (a := 16) z hj)
            rw [show nI j - (10 : Int32) = nI (j - 10) from pk_sub (b := 10) (by omega)] at z2
            exact absurd z2 (nI_nlt (a := 6) (by omega) (by decide))
      · refine .inl ?_
        have h0 : ¬ x - 10 < 0 := fun z => z1 (Int32.lt_trans z (by decide))
        obtain ⟨j, hj, ej⟩ := nI_of h0
        rw [ej] at z1 z2
        refine ⟨j, Nat.not_lt.1 fun z => z1 (nI_lt (b := 1) z (by decide)), Nat.not_lt.1 fun z => z2 (nI_lt (a := 6) z hj), ?_⟩
        rw [← nI_add, ← ej]
        exact (Int32.sub_add_cancel x 10).symm
  rcases key with ⟨c, c1, c6, rfl⟩ | ⟨q1, q2⟩
  · have es : nI (c + 10) - (10 : Int32) = nI c := pk_sub (a := c + 10) (b := 10) (by omega)
    have ei : f_X6_isIn (nI (c + 10)) (11 : Int32) (16 : Int32) = some 1 := by
      unfold f_X6_isIn
      rw [if_neg (show ¬ nI (c + 10) < (11 : Int32) from nI_nlt (b := 11) (by omega) (by omega)), if_neg (show ¬ (16 : Int32) < nI (c + 10) from nI_nlt (a := 16) (by omega) (by decide))]
    have i7 : inR (nI c) 7 = true := inR_nI (by omega) (by decide)
    unfold f_X5_refusalsCounted
    rw [ei, es, Option.bind_some, if_neg one_ne, if_pos i7, if_neg (show ¬ nI c < (1 : Int32) from nI_nlt (b := 1) c1 (by omega)), if_neg (show ¬ (6 : Int32) < nI c from nI_nlt (a := 6) c6 (by decide)), if_pos i7, nI_clamp (show c < 2 ^ 31 by omega), Option.bind_some]
    exact ⟨_, _, rfl, rfl, e c c1 c6, hI'⟩
  · rw [q1, q2, Option.bind_some, Option.bind_some, if_pos rfl]
    exact ⟨_, _, rfl, rfl, rfl, hI'⟩
