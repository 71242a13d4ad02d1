/-! pure: the operations that write one place -/
theorem inR96 {k : Nat} (h : k < 96) : inR (nI k) 96 = true := inR_nI h (by decide)
theorem inR16 {k : Nat} (h : k < 16) : inR (nI k) 16 = true := inR_nI h (by decide)
theorem inR20 {k : Nat} (h : k < 20) : inR (nI k) 20 = true := inR_nI h (by decide)
theorem in3 {c : Nat} (h : c < 20) : inR ((3 : Int32) + nI c) 71 = true := by
  rw [show (3 : Int32) + nI c = nI (3 + c) from nI_add 3 c]; exact inR_nI (by omega) (by decide)
theorem cl3 {c : Nat} (h : c < 20) : ((3 : Int32) + nI c).toNatClampNeg = 3 + c := by
  rw [show (3 : Int32) + nI c = nI (3 + c) from nI_add 3 c]; exact nI_clamp (by omega)
theorem letOK_add {w : LT} {a : Nat → Int32} {k b : Nat} {n : Int32} (hk : k < 96) (hb : b ≤ 255) (h1 : w.2.1 = nI k) (h2 : ∀ i, i < k → w.1 i = a i ∧ ∃ b, b ≤ 255 ∧ a i = nI b) (z : Int32) (hn : n = nI (k + 1)) : LetOK (upd w.1 k (nI b), n, z) (upd a k (nI b)) n := by
  refine ⟨k + 1, by omega, hn, hn, fun i hi => ?_⟩
  show upd w.1 k (nI b) i = _ ∧ _
  by_cases e : i = k
  · subst e; rw [pk_us, pk_us]; exact ⟨rfl, b, hb, rfl⟩
  · rw [pk_un e, pk_un e]; exact h2 i (by omega)
theorem le_of_0 {x : Int32} (h : ¬ x < 0) : (0 : Int32) ≤ x := Int32.not_lt.mp h
theorem nle_of_0 {x : Int32} (h : x < 0) : ¬ (0 : Int32) ≤ x := fun z => Int32.lt_irrefl (Int32.lt_of_lt_of_le h z)
theorem op_letter : E_letter Inv := by
  intro w v hI x
  show Eq2 Inv _ _
  unfold f_X5_letter f_X6_letter
  by_cases h0 : x < 0
  · rw [if_neg (nle_of_0 h0), if_neg (nle_of_0 h0)]
    exact ref_no (x := (-4 : Int32)) hI 4 (by decide) (by decide) rfl
  rw [if_pos (le_of_0 h0), if_pos (le_of_0 h0)]
  obtain ⟨j, hj, rfl⟩ := nI_of h0
  by_cases h1 : 255 < j
  · have : (255 : Int32) < nI j := nI_lt (a := 255) h1 hj
    rw [if_pos this, if_pos this]
    exact ref_no (x := (-6 : Int32)) hI 6 (by decide) (by decide) rfl
  have h1' : ¬ (255 : Int32) < nI j := nI_nlt (a := 255) (by omega) (by decide)
  rw [if_neg h1', if_neg h1']
  have hI' := hI
  obtain ⟨a, b, ⟨k, hk, e1, e2, e3⟩, d, e⟩ := hI
  unfold f_X2_add f_X2_isFull
  rw [e1, e2]
  by_cases hf : k = 96
  · subst hf
    rw [if_neg (show ¬ nI 96 < (96 : Int32) by decide), if_pos (show nI 96 = (96 : Int32) from rfl)]
    exact ref_no (x := (-6 : Int32)) hI' 6 (by decide) (by decide) rfl
  · have hk' : k < 96 := by omega
    have q : ¬ nI k = (96 : Int32) := fun z => hf ((nI_eq (b := 96) (by omega) (by decide)).1 z)
    rw [if_pos (show nI k < (96 : Int32) from nI_lt (b := 96) hk' (by decide)), if_neg q, if_pos (inR96 hk')]
    simp only [Option.bind_some, ↓reduceIte, inR96 hk', nI_clamp (show k < 2 ^ 31 by omega), nI_1]
    exact Eq2_some rfl ⟨a, b, letOK_add hk' (by omega) e1 e3 _ rfl, d, e⟩
theorem op_row : E_row Inv := by
  intro w v hI x
  show Eq2 Inv _ _
  unfold f_X5_row f_X6_row f_X6_wrongBy f_X6_row_24
  by_cases h0 : x < 0
  · rw [if_neg (nle_of_0 h0), if_neg (nle_of_0 h0)]
    exact ref_no (x := (-4 : Int32)) hI 4 (by decide) (by decide) rfl
  rw [if_pos (le_of_0 h0), if_pos (le_of_0 h0)]
  obtain ⟨j, hj, rfl⟩ := nI_of h0
  by_cases h1 : 99 < j
  · have : (99 : Int32) < nI j := nI_lt (a := 99) h1 hj
    rw [if_pos this, if_neg (show ¬ nI j ≤ (99 : Int32) from nI_ge (a := 99) h1 hj), Option.bind_some, if_neg (show ¬ (-6 : Int32) = 0 by decide), if_neg (show ¬ (-6 : Int32) = 0 by decide)]
    exact ref_no (x := (-6 : Int32)) hI 6 (by decide) (by decide) rfl
  have h1' : ¬ (99 : Int32) < nI j := nI_nlt (a := 99) (by omega) (by decide)
  rw [if_neg h1', if_pos (show nI j ≤ (99 : Int32) from nI_le (b := 99) (by omega) (by decide))]
  have hI' := hI
  obtain ⟨a, b, d, ⟨k, hk, e1, e2, e3⟩, e⟩ := hI
  simp only [Option.bind_some, ↓reduceIte, e1, e2]
  by_cases hf : k = 16
  · subst hf
    rw [if_neg (show ¬ nI 16 < (16 : Int32) by decide), if_pos (show nI 16 = (16 : Int32) from rfl)]
    exact ref_no (x := (-6 : Int32)) hI' 6 (by decide) (by decide) rfl
  · have hk' : k < 16 := by omega
    have q : ¬ nI k = (16 : Int32) := fun z => hf ((nI_eq (b := 16) (by omega) (by decide)).1 z)
    rw [if_pos (show nI k < (16 : Int32) from nI_lt (b := 16) hk' (by decide)), if_neg q, if_pos (inR16 hk'), if_pos (inR16 hk')]
    simp only [nI_clamp (show k < 2 ^ 31 by omega), nI_1]
    refine Eq2_some rfl ⟨a, b, d, ⟨k + 1, by omega, rfl, rfl, fun i hi => ?_⟩, e⟩
    show upd w.2.2.2.2.1 k (nI j) i = upd v.2.2.2.2.2.1 k (nI j) i ∧ ∃ b, b ≤ 99 ∧ upd v.2.2.2.2.2.1 k (nI j) i = nI b
    by_cases e : i = k
    · subst e; rw [pk_us, pk_us]; exact ⟨rfl, j, by omega, rfl⟩
    · rw [pk_un e, pk_un e]; exact e3 i (by omega)
theorem op_clear : E_clear Inv := by
  intro w v hI
  obtain ⟨a, b, d, ⟨k, hk, e1, e2, e3⟩, e⟩ := hI
  show Eq2 Inv _ _
  unfold f_X5_clear f_X6_clear nm
  exact Eq2_some (e1.trans e2.symm) ⟨a, b, d, ⟨0, by omega, rfl, rfl, fun i hi => absurd hi (Nat.not_lt_zero _)⟩, e⟩
theorem op_image : E_image Inv := by
  intro w v hI
  obtain ⟨⟨N, T, a⟩, b, d, e⟩ := hI
  show Eq2 Inv _ _
  unfold f_X5_image f_X6_image f_X1_become f_X6_copies
  rw [Option.bind_some, Option.bind_some, if_pos r71_1, z71_1]
  have K := a.2.2.2.2.2
  exact Eq2_some K.2.1.symm ⟨⟨N, T, a⟩, ⟨rfl, .inr ⟨N, T, a⟩⟩, d, e⟩
theorem op_on : E_on Inv := by
  intro w v hI
  have hI' := hI
  obtain ⟨a, ⟨b1, b2⟩, d, e⟩ := hI
  show Eq2 Inv _ _
  unfold f_X5_on f_X6_on f_X1_become f_X6_copies
  by_cases hz : w.2.2.2.2.2.2.1 = 0
  · rw [if_pos hz, if_pos (b1.symm.trans hz)]
    exact ref_no (x := (-3 : Int32)) hI' 3 (by decide) (by decide) rfl
  · rw [if_neg hz, if_neg (fun z => hz (b1.trans z)), Option.bind_some, Option.bind_some, if_pos r71_1, z71_1]
    obtain ⟨N, T, q⟩ := b2.resolve_left hz
    have K := q.2.2.2.2.2
    exact Eq2_some K.2.1.symm ⟨⟨N, T, q⟩, ⟨b1, .inr ⟨N, T, q⟩⟩, d, e⟩
theorem op_height : E_height Inv := by
  intro w v hI x
  have hI' := hI
  obtain ⟨⟨N, T, q⟩, b⟩ := hI
  show Eq2 Inv _ _
  unfold f_X5_height f_X6_height
  rcases cl6 x with ⟨h1, h2⟩ | ⟨c, hc, rfl, h1, h2⟩
  · rw [h1, h2, Option.bind_some, Option.bind_some, if_pos rfl, if_pos rfl]
    exact ref_no (x := (-1 : Int32)) hI' 1 (by decide) (by decide) rfl
  · rw [h1, h2, Option.bind_some, Option.bind_some, if_neg one_ne, if_neg one_ne, if_pos (inR20 hc), if_pos (in3 hc), cl3 hc, nI_clamp (by omega)]
    exact Eq2_some (q.2.2.2.2.2.2.2.2.1 c hc).symm hI'
theorem op_heaps : E_heaps Inv := by
  intro w v hI x y
  have hI' := hI
  obtain ⟨⟨N, T, n1, n2, I, n4, n5, K⟩, b⟩ := hI
  show Eq2 Inv _ _
  unfold f_X5_heaps f_X6_heaps f_X6_heaps_18
  rcases cl6 x with ⟨h1, h2⟩ | ⟨c, hc, rfl, h1, h2⟩
  · rw [h1, h2, Option.bind_some, Option.bind_some, if_pos rfl, if_pos rfl]
    exact ref_no (x := (-1 : Int32)) hI' 1 (by decide) (by decide) rfl
  · rw [h1, h2, Option.bind_some, Option.bind_some, if_neg one_ne, if_neg one_ne]
    rcases wb6 y 9 (by decide) with ⟨d, hd, g1, g2⟩ | ⟨H, hH, rfl, g1, g2⟩
    · rw [show f_X5_outside y (0 : Int32) (9 : Int32) = _ from g1, show f_X6_wrongBy y (0 : Int32) (9 : Int32) = _ from g2, Option.bind_some, Option.bind_some, if_neg (neg_ne hd), if_neg (neg_ne hd)]
      exact ref_no hI' d (by omega) (by omega) (neg_neg6 d)
    · rw [show f_X5_outside (nI H) (0 : Int32) (9 : Int32) = _ from g1, show f_X6_wrongBy (nI H) (0 : Int32) (9 : Int32) = _ from g2, Option.bind_some, Option.bind_some, if_pos rfl, if_pos rfl, if_pos (inR20 hc)]
      unfold f_X1_putHeight nm
      simp only [h1, Option.bind_some, one_ne, inR20 hc, in3 hc, cl3 hc, nI_clamp (show c < 2 ^ 31 by omega), ↓reduceIte]
      refine Eq2_some (K.2.2.2.1 c hc).symm ⟨⟨N, T, n1, n2, I, fun d hd => ?_, n5, Up_hs hc K⟩, b⟩
      show ∃ H', H' ≤ 9 ∧ upd w.1.1.1 c (nI H) d = nI H'
      by_cases e : d = c
      · subst e; rw [pk_us]; exact ⟨H, hH, rfl⟩
      · rw [pk_un e]; exact n4 d hd
theorem op_fog : E_fog Inv := by
  intro w v hI y
  have hI' := hI
  obtain ⟨⟨N, T, n1, n2, I, n4, n5, K⟩, b⟩ := hI
  show Eq2 Inv _ _
  unfold f_X5_fog f_X6_fog
  rcases wb6 y 9 (by decide) with ⟨d, hd, g1, g2⟩ | ⟨H, hH, rfl, g1, g2⟩
  · rw [show f_X5_outside y (0 : Int32) (9 : Int32) = _ from g1, show f_X6_wrongBy y (0 : Int32) (9 : Int32) = _ from g2, Option.bind_some, Option.bind_some, if_neg (neg_ne hd), if_neg (neg_ne hd)]
    exact ref_no hI' d (by omega) (by omega) (neg_neg6 d)
  · rw [show f_X5_outside (nI H) (0 : Int32) (9 : Int32) = _ from g1, show f_X6_wrongBy (nI H) (0 : Int32) (9 : Int32) = _ from g2, Option.bind_some, Option.bind_some, if_pos rfl, if_pos rfl, if_pos r71_2]
    simp only [nm, r71_2, ↓reduceIte, z71_2]
    obtain ⟨i1, i2, i3, i4, i5, i6⟩ := I
    exact Eq2_some K.2.2.1.symm ⟨⟨N, T, n1, n2, ⟨i1, i2, i3, i4, ⟨H, hH, rfl⟩, i6⟩, n4, n5, Up_fg K⟩, b⟩
