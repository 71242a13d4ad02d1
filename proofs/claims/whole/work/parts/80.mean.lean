/-! pure: mean -/
theorem refL_no {w : EW} {v : MW} (hI : Inv w v) (c : Nat) (h1 : 1 ≤ c) (h6 : c ≤ 6) {x : Int32} (hx : -x = nI c) : Eq2 Inv ((f_X5_refuseLong w x).bind fun p => some (p.1, p.2)) ((f_X6_noWide v x).bind fun p => some (p.1, p.2)) := by
  obtain ⟨o, p, e1, e2, e3, e4⟩ := ref_no hI c h1 h6 hx
  have g1 : f_X5_refuse w x = some o := by
    cases h : f_X5_refuse w x with
    | none => rw [h] at e1; cases e1
    | some q => rw [h] at e1; exact e1
  have g2 : f_X6_no v x = some p := by
    cases h : f_X6_no v x with
    | none => rw [h] at e2; cases e2
    | some q => rw [h] at e2; exact e2
  unfold f_X5_refuseLong f_X6_noWide
  rw [g1, g2, Option.bind_some, Option.bind_some, Option.bind_some, Option.bind_some]
  exact Eq2_some (by rw [e3]) e4
theorem tab_mean : ∀ s, s < 200 → ∀ x, x < 2 → f_X5_inLeastTerms (lN s) (20 : Int64) (nI x) = f_X6_partOf (lN s) (20 : Int64) (nI x) ∧ (f_X6_partOf (lN s) (20 : Int64) (nI x)).isSome = true := by decide +kernel
theorem mean_k {w : EW} {v : MW} {N T : Nat} (n4 : ∀ c, c < 20 → ∃ H, H ≤ 9 ∧ Lhs w.1.1 c = nI H) (K : Rel v.1 w.1.1 N zr) {x : Nat} (hx : x < 2) : ∀ (n i m s : Nat), i + m = 20 → m < n → s ≤ 9 * i → ∃ z, f_X5_mean_21 (nI x) w n (nI i) (lN s) = some (z, w) ∧ f_X6_mean_21 (nI x) v n (nI i) (lN s) = some (z, v) := by
  intro n
  induction n with
  | zero => intro i m s _ h2; exact absurd h2 (Nat.not_lt_zero _)
  | succ n ih =>
    intro i m s hi hm hs
    rw [f_X5_mean_21, f_X6_mean_21]
    by_cases e : i = 20
    · subst e
      rw [if_pos (show (20 : Int32) ≤ nI 20 by decide), if_pos (show (20 : Int32) ≤ nI 20 by decide)]
      obtain ⟨t1, t2⟩ := tab_mean s (by omega) x hx
      obtain ⟨z, hz⟩ := Option.isSome_iff_exists.1 t2
      rw [t1, hz, Option.bind_some]
      exact ⟨z, rfl, rfl⟩
    · have hi2 : i < 20 := by omega
      obtain ⟨H, hH, eH⟩ := n4 i hi2
      rw [if_neg (ge20 hi2), if_neg (ge20 hi2), if_pos (inR20 hi2), if_pos (in3 hi2), cl3 hi2, nI_clamp (show i < 2 ^ 31 by omega), K.2.2.2.1 i hi2, show w.1.1.1 i = nI H from eH, eH, nI_l (by omega), nI_1]
      simp only [nm]
      rw [lN_add]
      exact ih (i + 1) (m - 1) (s + H) (by omega) (by omega) (by omega)
theorem op_mean : E_mean Inv := by
  intro w v hI x
  have hI' := hI
  obtain ⟨⟨N, T, n1, n2, I, n4, n5, K⟩, b⟩ := hI
  show Eq2 Inv _ _
  unfold f_X5_mean f_X6_mean f_X5_mean_16
  have isI : ∀ k : Nat, k < 2 → f_X6_isIn (nI k) (0 : Int32) (1 : Int32) = some 1 := by decide +kernel
  by_cases y0 : x = 0
  · subst y0
    obtain ⟨z, g1, g2⟩ := mean_k (N := N) (T := T) n4 K (show 0 < 2 by decide) 200 0 20 0 rfl (by decide) (by decide)
    rw [if_pos rfl, show f_X6_isIn (0 : Int32) (0 : Int32) (1 : Int32) = some 1 from isI 0 (by decide), Option.bind_some, if_neg one_ne]
    rw [show f_X5_mean_21 (0 : Int32) w 200 (0 : Int32) (0 : Int64) = _ from g1, show f_X6_mean_21 (0 : Int32) v 200 (0 : Int32) (0 : Int64) = _ from g2]
    exact Eq2_some rfl hI'
  by_cases y1 : x = 1
  · subst y1
    obtain ⟨z, g1, g2⟩ := mean_k (N := N) (T := T) n4 K (show 1 < 2 by decide) 200 0 20 0 rfl (by decide) (by decide)
    rw [if_neg one_ne, if_pos rfl, show f_X6_isIn (1 : Int32) (0 : Int32) (1 : Int32) = some 1 from isI 1 (by decide), Option.bind_some, if_neg one_ne]
    rw [show f_X5_mean_21 (1 : Int32) w 200 (0 : Int32) (0 : Int64) = _ from g1, show f_X6_mean_21 (1 : Int32) v 200 (0 : Int32) (0 : Int64) = _ from g2]
    exact Eq2_some rfl hI'
  have hIn : f_X6_isIn x (0 : Int32) (1 : Int32) = some 0 := by
    rcases isIn_0 x 1 (by decide) with q | ⟨k, hk, rfl, q⟩
    · exact q.1
    · exfalso
      have : k = 0 ∨ k = 1 := by omega
      rcases this with rfl | rfl
      · exact y0 rfl
      · exact y1 rfl
  rw [if_neg y0, if_neg y1, hIn, Option.bind_some, if_pos rfl]
  exact refL_no (x := (-2 : Int32)) hI' 2 (by decide) (by decide) rfl
