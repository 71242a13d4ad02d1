/-! pure: the operations on a house's places -/
theorem nz {k n : Nat} (hk : k < 2 ^ 31) (hn : n < 2 ^ 31) (h : ¬ k = n) : ¬ nI k = nI n := fun z => h ((nI_eq hk hn).1 z)
theorem LOK_n {L : LD} {r : Nat → Int32} {N T : Nat} (q : LOK L r N T) : N ≤ 8 ∧ T < 2 ^ 31 := ⟨by have := q.1; omega, by have := q.2.1; omega⟩
theorem inv_cs {L : LD} {N T h c : Nat} (I : InvL L N T) (hc : c < 20) : InvL (L.1, L.2.1, L.2.2.1, upd L.2.2.2.1 h (nI c), L.2.2.2.2) N T := by
  obtain ⟨i1, i2, i3, i4⟩ := I
  refine ⟨i1, i2, fun o ho => ⟨?_, (i3 o ho).2⟩, i4⟩
  show ∃ d, d < 20 ∧ upd L.2.2.2.1 h (nI c) o = nI d
  by_cases e : o = h
  · subst e; rw [pk_us]; exact ⟨c, hc, rfl⟩
  · rw [pk_un e]; exact (i3 o ho).1
theorem inv_fs {L : LD} {N T h f : Nat} (I : InvL L N T) (hf : f < 10) (k : Nat → Int32) : InvL (L.1, k, upd L.2.2.1 h (nI f), L.2.2.2) N T := by
  obtain ⟨i1, i2, i3, i4⟩ := I
  refine ⟨i1, i2, fun o ho => ⟨(i3 o ho).1, ?_⟩, i4⟩
  show ∃ d, d < 10 ∧ upd L.2.2.1 h (nI f) o = nI d
  by_cases e : o = h
  · subst e; rw [pk_us]; exact ⟨f, hf, rfl⟩
  · rw [pk_un e]; exact (i3 o ho).2
theorem op_moves : E_moves Inv := by
  intro w v hI x y
  have hI' := hI
  obtain ⟨⟨N, T, n1, n2, I, n4, n5, K⟩, b⟩ := hI
  show Eq2 Inv _ _
  unfold f_X5_moves f_X6_moves
  rcases hs6 I K x with ⟨h1, h2⟩ | ⟨h, hh, rfl, h1, h2⟩
  · rw [h1, h2, Option.bind_some, Option.bind_some, if_pos rfl, if_pos rfl]
    exact ref_no (x := (-1 : Int32)) hI' 1 (by decide) (by decide) rfl
  · rw [h1, h2, Option.bind_some, Option.bind_some, if_neg one_ne, if_neg one_ne]
    rcases cl6 y with ⟨g1, g2⟩ | ⟨c, hc, rfl, g1, g2⟩
    · rw [g1, g2, Option.bind_some, Option.bind_some, if_pos rfl, if_pos rfl]
      exact ref_no (x := (-1 : Int32)) hI' 1 (by decide) (by decide) rfl
    · have h8 : h < 8 := by omega
      rw [g1, g2, Option.bind_some, Option.bind_some, if_neg one_ne, if_neg one_ne, if_pos (inR8 hh I.2.1), of_2, Option.bind_some, if_pos (in71 h8 (show 2 < 6 by decide)), cl71 h8 (show 2 < 6 by decide), nI_clamp (show h < 2 ^ 31 by omega)]
      unfold f_X1_putHouse nm
      simp only [h1, g1, Option.bind_some, one_ne, inR8 hh I.2.1, in71 h8 (show 2 < 6 by decide), cl71 h8 (show 2 < 6 by decide), nI_clamp (show h < 2 ^ 31 by omega), ↓reduceIte]
      exact Eq2_some (K.2.2.2.2 h hh).2.2.1.symm ⟨⟨N, T, n1, n2, inv_cs I hc, n4, n5, Up_cs K⟩, b⟩
theorem op_turn : E_turn Inv := by
  intro w v hI x y z
  have hI' := hI
  obtain ⟨⟨N, T, n1, n2, I, n4, n5, K⟩, b⟩ := hI
  show Eq2 Inv _ _
  unfold f_X5_turn f_X6_turn f_X6_turn_33
  rcases hs6 I K x with ⟨h1, h2⟩ | ⟨h, hh, rfl, h1, h2⟩
  · rw [h1, h2, Option.bind_some, Option.bind_some, if_pos rfl, if_pos rfl]
    exact ref_no (x := (-1 : Int32)) hI' 1 (by decide) (by decide) rfl
  · rw [h1, h2, Option.bind_some, Option.bind_some, if_neg one_ne, if_neg one_ne]
    have two : ∀ c : Int32, c = -2 → Eq2 Inv (Option.bind (f_X5_refuse w (-2 : Int32)) fun p => some (p.1, p.2)) (Option.bind (f_X6_no v c) fun p => some (p.1, p.2)) := by
      intro c hc; subst hc
      exact ref_no (x := (-2 : Int32)) hI' 2 (by decide) (by decide) rfl
    unfold f_X6_isIn
    by_cases h0 : y < 0
    · rw [if_pos h0, if_pos h0, Option.bind_some, if_pos rfl, if_neg (by decide)]
      exact two _ rfl
    obtain ⟨j, hj, rfl⟩ := nI_of h0
    rw [if_neg h0, if_neg h0]
    by_cases h6 : j < 6
    · rw [if_pos (show nI j < (6 : Int32) from nI_lt (b := 6) h6 (by decide)), if_neg (show ¬ (5 : Int32) < nI j from nI_nlt (a := 5) (by omega) (by decide)), Option.bind_some, if_neg one_ne]
      rcases wb6 z 9 (by decide) with ⟨d, hd, g1, g2⟩ | ⟨H, hH, rfl, g1, g2⟩
      · rw [show f_X5_outside z (0 : Int32) (9 : Int32) = _ from g1, show f_X6_wrongBy z (0 : Int32) (9 : Int32) = _ from g2, Option.bind_some, Option.bind_some, if_neg (neg_ne hd), if_neg (neg_ne hd)]
        exact ref_no hI' d (by omega) (by omega) (neg_neg6 d)
      · rw [show f_X5_outside (nI H) (0 : Int32) (9 : Int32) = _ from g1, show f_X6_wrongBy (nI H) (0 : Int32) (9 : Int32) = _ from g2]
        have h8 : h < 8 := by omega
        simp only [nm, Option.bind_some, one_ne, of_0, of_1, in71z h8, cl71z h8, inR8 hh I.2.1, in71 h8 (show 1 < 6 by decide), cl71 h8 (show 1 < 6 by decide), nI_clamp (show h < 2 ^ 31 by omega), ↓reduceIte]
        have g := K.2.2.2.2 h hh
        refine Eq2_some ?_ ⟨⟨N, T, n1, n2, inv_fs I (by omega) _, n4, n5, Up_fs (Up_ks K)⟩, b⟩
        rw [g.1, g.2.1]
    · rw [if_neg (show ¬ nI j < (6 : Int32) from nI_nlt (b := 6) (by omega) hj), if_pos (show (5 : Int32) < nI j from nI_lt (a := 5) (by omega) hj), Option.bind_some, if_pos rfl, if_neg (by decide)]
      exact two _ rfl
theorem op_calls : E_calls Inv := by
  intro w v hI x
  have hI' := hI
  obtain ⟨⟨N, T, n1, n2, I, n4, n5, K⟩, b⟩ := hI
  show Eq2 Inv _ _
  unfold f_X5_calls f_X6_calls
  rcases hs6 I K x with ⟨h1, h2⟩ | ⟨h, hh, rfl, h1, h2⟩
  · rw [h1, h2, Option.bind_some, Option.bind_some, if_pos rfl, if_pos rfl]
    exact ref_no (x := (-1 : Int32)) hI' 1 (by decide) (by decide) rfl
  · have h8 : h < 8 := by omega
    rw [h1, h2, Option.bind_some, Option.bind_some, if_neg one_ne, if_neg one_ne]
    unfold f_X1_switchCall
    simp only [h1, Option.bind_some, one_ne, of_4, in71 h8 (show 4 < 6 by decide), cl71 h8 (show 4 < 6 by decide), ↓reduceIte]
    obtain ⟨C, hC, e, q⟩ := cl_at I hh
    have I2 : InvL (clL w.1.1 h) N T := by
      obtain ⟨i1, i2, i3, i4, i5, i6⟩ := I
      exact ⟨i1, i2, i3, ⟨C, hC, e⟩, i5, i6⟩
    have K2 := Up_cl I hh K
    have hc : f_X1_isCalled (clL w.1.1 h) (nI h) = some (b01 (calledB (clL w.1.1 h) h)) := by
      unfold f_X1_isCalled
      rw [show f_X5_has (clL w.1.1 h).2.2.2.2.2.2.1 (nI h) = _ from called5 I2 hh, Option.bind_some, if_pos (b01_or _)]
    rw [hc, Option.bind_some]
    have g := (K2.2.2.2.2 h hh).2.2.2.2.1
    rw [g]
    have j : Inv ((clL w.1.1 h, w.1.2), w.2) (upd v.1 (23 + 6 * h + 4) (v.1 (23 + 6 * h + 4) ^^^ 1), v.2) := ⟨⟨N, T, n1, n2, I2, n4, n5, K2⟩, b⟩
    cases hb : calledB (clL w.1.1 h) h with
    | false => rw [if_pos b01f]; exact Eq2_some rfl j
    | true => rw [if_neg b01t]; exact Eq2_some rfl j
theorem op_gives : E_gives Inv := by
  intro w v hI x y
  have hI' := hI
  obtain ⟨⟨N, T, n1, n2, I, n4, n5, K⟩, b⟩ := hI
  show Eq2 Inv _ _
  unfold f_X5_gives f_X6_gives f_X6_gives_19
  rcases hs6 I K x with ⟨h1, h2⟩ | ⟨h, hh, rfl, h1, h2⟩
  · rw [h1, h2, Option.bind_some, Option.bind_some, if_pos rfl, if_pos rfl]
    exact ref_no (x := (-1 : Int32)) hI' 1 (by decide) (by decide) rfl
  · rw [h1, h2, Option.bind_some, Option.bind_some, if_neg one_ne, if_neg one_ne]
    rcases wb6 y 99 (by decide) with ⟨d, hd, g1, g2⟩ | ⟨H, hH, rfl, g1, g2⟩
    · rw [show f_X5_outside y (0 : Int32) (99 : Int32) = _ from g1, show f_X6_wrongBy y (0 : Int32) (99 : Int32) = _ from g2, Option.bind_some, Option.bind_some, if_neg (neg_ne hd), if_neg (neg_ne hd)]
      exact ref_no hI' d (by omega) (by omega) (neg_neg6 d)
    · rw [show f_X5_outside (nI H) (0 : Int32) (99 : Int32) = _ from g1, show f_X6_wrongBy (nI H) (0 : Int32) (99 : Int32) = _ from g2]
      have h8 : h < 8 := by omega
      obtain ⟨W, hW, e⟩ := n5 h hh
      have g := K.2.2.2.2 h hh
      have m1 : minI (99 : Int32) (nI W + nI H) = nI (if W + H ≤ 99 then W + H else 99) := by
        rw [nI_add]
        unfold minI
        by_cases q : W + H ≤ 99
        · rw [if_pos q]
          by_cases q2 : W + H = 99
          · rw [q2]; rfl
          · rw [if_pos (show nI (W + H) < (99 : Int32) from nI_lt (b := 99) (by omega) (by decide))]
        · rw [if_neg q, if_neg (show ¬ nI (W + H) < (99 : Int32) from nI_nlt (b := 99) (by omega) (by omega))]; rfl
      have m2 : f_X6_least (99 : Int32) (nI W + nI H) = some (nI (if W + H ≤ 99 then W + H else 99)) := by
        rw [nI_add]
        unfold f_X6_least
        by_cases q : W + H ≤ 99
        · rw [if_pos q, if_pos (show nI (W + H) ≤ (99 : Int32) from nI_le (b := 99) q (by decide))]
        · rw [if_neg q, if_neg (show ¬ nI (W + H) ≤ (99 : Int32) from nI_ge (a := 99) (by omega) (by omega))]; rfl
      have e2 : w.1.1.2.2.2.2.1 h = nI W := e
      unfold f_X1_addWicks
      simp only [h1, g.2.2.2.1, e, e2, m1, m2, Option.bind_some, one_ne, of_3, inR8 hh I.2.1, in71 h8 (show 3 < 6 by decide), cl71 h8 (show 3 < 6 by decide), nI_clamp (show h < 2 ^ 31 by omega), ↓reduceIte, pk_us]
      refine Eq2_some rfl ⟨⟨N, T, n1, n2, inv_wk I rfl rfl rfl rfl rfl rfl, n4, fun o ho => ?_, Up_wk K⟩, b⟩
      show ∃ V, V ≤ 99 ∧ upd w.1.1.2.2.2.2.1 h _ o = nI V
      by_cases eo : o = h
      · subst eo; rw [pk_us]; exact ⟨_, by split <;> omega, rfl⟩
      · rw [pk_un eo]; exact n5 o ho
