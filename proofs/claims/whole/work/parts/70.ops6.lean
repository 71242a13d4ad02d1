/-! pure: fell, raise, fogged -/
theorem become5 (a b : LD) : f_X1_become a b = some b := rfl
theorem isCell_n {c : Nat} (h : c < 20) : f_X1_isCell (nI c) = some 1 := by
  unfold f_X1_isCell
  rw [if_neg (nI_pos (by omega)), if_neg (ge20 h)]
theorem putHeight_n (L : LD) {c : Nat} (h : c < 20) (x : Int32) : f_X1_putHeight L (nI c) x = some (1, (upd L.1 c x, L.2)) := by
  unfold f_X1_putHeight
  rw [isCell_n h, Option.bind_some, if_neg one_ne, if_pos (inR20 h), nI_clamp (by omega)]
theorem bits5m {p : Nat → Bool} {N : Nat} (hN : N ≤ 8) : f_J6_bitCount_0f7a4 (nI (mask p N)) = some (nI (pop (mask p N))) := tab_bits5 _ (mask_256 p hN)
theorem bits6m {p : Nat → Bool} {N : Nat} (hN : N ≤ 8) : f_X6_bits (nI (mask p N)) = some (nI (pop (mask p N))) := tab_bits6 _ (mask_256 p hN)
section FR
variable {L : LD} {N T : Nat}
theorem fell_k (I : InvL L N T) (hT : T ≤ 999) (v : MW) (K : Rel v.1 L N zr) : ∀ (n i m : Nat) (best arg : Int32) (t : TW) (r : Nat → Int32), i + m = 20 → m < n → t.1 = L → Two L v (f_X4_cellToFell_17 n (nI i) best arg t) (f_X6_fell_16 n (nI i) arg best (v.1, r, v.2.2)) := by
  intro n
  induction n with
  | zero => intro i m best arg t r _ h2; exact absurd h2 (Nat.not_lt_zero _)
  | succ n ih =>
    intro i m best arg t r hi hm ht
    have hN := I.2.1
    rw [f_X4_cellToFell_17, f_X6_fell_16]
    by_cases e : i = 20
    · subst e
      rw [if_pos (show (20 : Int32) ≤ nI 20 by decide), if_pos (show (20 : Int32) ≤ nI 20 by decide)]
      exact ⟨_, _, _, rfl, ht, rfl⟩
    · have hi2 : i < 20 := by omega
      have I2 : InvL (upd L.1 i 0, L.2) N T := I
      have K2 : Rel (upd v.1 (3 + i) 0) (upd L.1 i 0, L.2) N zr := Up_hs hi2 K
      obtain ⟨S', q1, q2⟩ := pl_lookOver I2 t.2.2.1
      rw [if_neg (ge20 hi2), if_neg (ge20 hi2), become5, Option.bind_some, ht, putHeight_n L hi2, Option.bind_some, q1, Option.bind_some]
      unfold f_X6_copies
      rw [Option.bind_some, if_pos (in3 hi2), cl3 hi2, hangIn_at I2 (by omega) K2, Option.bind_some, bits6m hN, Option.bind_some]
      rw [show f_X4_hangers (L, ((1 : Int32), (upd L.1 i 0, L.2)).2, S', t.2.2.2.1, t.2.2.2.2.1, t.2.2.2.2.2.1, t.2.2.2.2.2.2) = _ from hangers_at (t := (L, (upd L.1 i 0, L.2), S', t.2.2.2)) I2 rfl q2, Option.bind_some, eyeR_0, bits5m hN, Option.bind_some, Option.bind_some, bits6m hN, Option.bind_some, nI_1]
      by_cases g : nI (pop (mask (hangS (upd L.1 i 0, L.2) (eyeL (upd L.1 i 0, L.2)) N (litB (upd L.1 i 0, L.2))) N)) ≤ best
      · rw [if_pos g, if_neg (Int32.not_lt.mpr g)]
        exact ih (i + 1) (m - 1) _ _ _ _ (by omega) (by omega) rfl
      · rw [if_neg g, if_pos (Int32.not_le.mp g)]
        exact ih (i + 1) (m - 1) _ _ _ _ (by omega) (by omega) rfl
theorem raise_k (I : InvL L N T) (hT : T ≤ 999) (v : MW) (K : Rel v.1 L N zr) : ∀ (n i m : Nat) (best arg : Int32) (t : TW) (r : Nat → Int32), i + m = N → m < n → t.1 = L → t.2.1 = L → Two L v (f_X4_houseToRaise_17 n (nI i) best arg t) (f_X6_raise_16 n (nI i) arg best (v.1, r, v.2.2)) := by
  intro n
  induction n with
  | zero => intro i m best arg t r _ h2; exact absurd h2 (Nat.not_lt_zero _)
  | succ n ih =>
    intro i m best arg t r hi hm ht ht2
    have hN := I.2.1
    have hn : v.1 0 = nI N := K.1.trans I.1
    rw [f_X4_houseToRaise_17, f_X6_raise_16, ht2, ht, show L.2.2.2.2.2.1 = nI N from I.1, if_pos r71_0, z71_0, show (v.1, r, v.2.2).1 0 = nI N from hn]
    by_cases e : i = N
    · subst e
      rw [if_pos (le_self i), if_pos (le_self i)]
      exact ⟨_, _, _, rfl, ht, rfl⟩
    · have hi2 : i < N := by omega
      have h8 : i < 8 := by omega
      have K2 : Rel (upd v.1 (23 + 6 * i + 5) 3) L N (upd zr i 3) := Up_ra K
      obtain ⟨S1, q1, qn, q2⟩ := pl_measure I t.2.2.1
      obtain ⟨S2, q3, q4⟩ := pl_look (e := eyeR L (upd zr i 3)) I (upd S1.1 i (S1.1 i + 3), S1.2.1, S1.2.2.1, S1.2.2.2) qn (fun o ho => by
        show upd S1.1 i (S1.1 i + 3) o = eyeL L o + upd zr i 3 o
        by_cases eo : o = i
        · subst eo; rw [pk_us, pk_us, show S1.1 o = _ from q2 o ho]
        · rw [pk_un eo, pk_un eo, show S1.1 o = _ from q2 o ho]; exact (Int32.add_zero _).symm)
      rw [if_neg (ge_N (by omega) hi2), if_neg (ge_N (by omega) hi2), q1, Option.bind_some, if_pos (inR8 hi2 hN), if_pos (inR8 hi2 hN), nI_clamp (by omega), q3, Option.bind_some]
      unfold f_X6_copies
      rw [Option.bind_some, of_5, Option.bind_some, if_pos (in71 h8 (show 5 < 6 by decide)), cl71 h8 (show 5 < 6 by decide), hangIn_at I (by omega) K2, Option.bind_some, bits6m hN, Option.bind_some]
      rw [show f_X4_hangers (L, L, S2, t.2.2.2.1, t.2.2.2.2.1, t.2.2.2.2.2.1, t.2.2.2.2.2.2) = _ from hangers_at (t := (L, L, S2, t.2.2.2)) I rfl q4, Option.bind_some, bits5m hN, Option.bind_some, Option.bind_some, bits6m hN, Option.bind_some, nI_1]
      by_cases g : nI (pop (mask (hangS L (eyeR L (upd zr i 3)) N (litB L)) N)) ≤ best
      · rw [if_pos g, if_neg (Int32.not_lt.mpr g)]
        exact ih (i + 1) (m - 1) _ _ _ _ (by omega) (by omega) rfl rfl
      · rw [if_neg g, if_pos (Int32.not_le.mp g)]
        exact ih (i + 1) (m - 1) _ _ _ _ (by omega) (by omega) rfl rfl
abbrev fgL (L : LD) (x : Int32) : LD := (L.1, L.2.1, L.2.2.1, L.2.2.2.1, L.2.2.2.2.1, L.2.2.2.2.2.1, L.2.2.2.2.2.2.1, x, L.2.2.2.2.2.2.2.2)
theorem fog_k (I : InvL L N T) (hT : T ≤ 999) (v : MW) (K : Rel v.1 L N zr) : ∀ (n i m : Nat) (t : TW) (r : Nat → Int32) (x : Int32), i + m = 10 → m < n → t.1 = L → t.2.1 = fgL L x → Two L v (f_X4_leastFogOfNobody_13 n (nI i) t) (f_X6_fogged_2 n (nI i) (v.1, r, v.2.2)) := by
  intro n
  induction n with
  | zero => intro i m t r x _ h2; exact absurd h2 (Nat.not_lt_zero _)
  | succ n ih =>
    intro i m t r x hi hm ht ht2
    have hN := I.2.1
    rw [f_X4_leastFogOfNobody_13, f_X6_fogged_2, ht2, ht]
    by_cases e : i = 10
    · subst e
      rw [if_pos (show (9 : Int32) < nI 10 by decide), if_pos (show (10 : Int32) ≤ nI 10 by decide)]
      exact ⟨_, _, _, rfl, ht, rfl⟩
    · have hi2 : i < 10 := by omega
      have I2 : InvL (fgL L (nI i)) N T := by
        obtain ⟨i1, i2, i3, i4, i5, i6⟩ := I
        exact ⟨i1, i2, i3, i4, ⟨i, by omega, rfl⟩, i6⟩
      have K2 : Rel (upd v.1 2 (nI i)) (fgL L (nI i)) N zr := Up_fg K
      obtain ⟨S', q1, q2⟩ := pl_lookOver I2 t.2.2.1
      rw [if_neg (show ¬ (9 : Int32) < nI i from nI_nlt (a := 9) (by omega) (by decide)), if_neg (show ¬ (10 : Int32) ≤ nI i from nI_ge (b := 10) hi2 (by decide))]
      rw [show f_X3_lookOver t.2.2.1 (fgL L (nI i)) = _ from q1, Option.bind_some]
      unfold f_X6_copies
      rw [Option.bind_some, if_pos r71_2, z71_2, hangIn_at I2 (by omega) K2, Option.bind_some, eyeR_0]
      rw [show f_X4_hangers (L, fgL L (nI i), S', t.2.2.2.1, t.2.2.2.2.1, t.2.2.2.2.2.1, t.2.2.2.2.2.2) = _ from hangers_at (t := (L, fgL L (nI i), S', t.2.2.2)) I2 rfl q2, Option.bind_some]
      by_cases g : nI (mask (hangS (fgL L (nI i)) (eyeL (fgL L (nI i))) N (litB (fgL L (nI i)))) N) = 0
      · rw [if_pos g, if_pos g]
        exact ⟨_, _, _, rfl, rfl, rfl⟩
      · rw [if_neg g, if_neg g, nI_1]
        exact ih (i + 1) (m - 1) _ _ (nI i) (by omega) (by omega) rfl rfl
end FR
theorem op_fell : E_fell Inv := by
  intro w v hI
  have hI' := hI
  obtain ⟨⟨N, T, n1, n2, I, n4, n5, K⟩, b⟩ := hI
  show Eq2 Inv _ _
  obtain ⟨t1, e1, q1⟩ := th_begin I w.1 rfl
  unfold f_X5_fell f_X6_fell f_X4_cellToFell
  rw [e1, Option.bind_some, th_hangers I q1, Option.bind_some, bits5m I.2.1, Option.bind_some, hangIn_k (k := 0) I (by omega) K, Option.bind_some, bits6m I.2.1, Option.bind_some]
  obtain ⟨x, t', r', g1, g2, g3⟩ := fell_k I n2 v K 200 0 20 (nI (pop (mask (hg w.1.1 N 0) N))) (-9) t1 v.2.1 rfl (by decide) q1.1
  rw [show f_X4_cellToFell_17 200 (0 : Int32) (nI (pop (mask (hg w.1.1 N 0) N))) (-9 : Int32) t1 = _ from g1, show f_X6_fell_16 200 (0 : Int32) (-9 : Int32) (nI (pop (mask (hg w.1.1 N 0) N))) v = _ from g3, Option.bind_some]
  exact Eq2_some rfl (Inv_t hI' t' g2 r')
theorem op_raise : E_raise Inv := by
  intro w v hI
  have hI' := hI
  obtain ⟨⟨N, T, n1, n2, I, n4, n5, K⟩, b⟩ := hI
  show Eq2 Inv _ _
  obtain ⟨t1, e1, q1⟩ := th_begin I w.1 rfl
  unfold f_X5_raise f_X6_raise f_X4_houseToRaise
  rw [e1, Option.bind_some, th_hangers I q1, Option.bind_some, bits5m I.2.1, Option.bind_some, hangIn_k (k := 0) I (by omega) K, Option.bind_some, bits6m I.2.1, Option.bind_some]
  obtain ⟨x, t', r', g1, g2, g3⟩ := raise_k I n2 v K 200 0 N (nI (pop (mask (hg w.1.1 N 0) N))) (-9) t1 v.2.1 (by omega) (by omega) q1.1 q1.2.1
  rw [show f_X4_houseToRaise_17 200 (0 : Int32) (nI (pop (mask (hg w.1.1 N 0) N))) (-9 : Int32) t1 = _ from g1, show f_X6_raise_16 200 (0 : Int32) (-9 : Int32) (nI (pop (mask (hg w.1.1 N 0) N))) v = _ from g3, Option.bind_some]
  exact Eq2_some rfl (Inv_t hI' t' g2 r')
theorem op_fogged : E_fogged Inv := by
  intro w v hI
  have hI' := hI
  obtain ⟨⟨N, T, n1, n2, I, n4, n5, K⟩, b⟩ := hI
  show Eq2 Inv _ _
  unfold f_X5_fogged f_X6_fogged f_X4_leastFogOfNobody
  rw [become5, Option.bind_some]
  obtain ⟨x, t', r', g1, g2, g3⟩ := fog_k I n2 v K 200 0 10 (w.1.1, w.1.1, w.1.2.2) v.2.1 (Lfg w.1.1) rfl (by decide) rfl rfl
  rw [show f_X4_leastFogOfNobody_13 200 (0 : Int32) (w.1.1, w.1.1, w.1.2.2.1, w.1.2.2.2.1, w.1.2.2.2.2.1, w.1.2.2.2.2.2.1, w.1.2.2.2.2.2.2) = _ from g1, show f_X6_fogged_2 200 (0 : Int32) v = _ from g3, Option.bind_some]
  exact Eq2_some rfl (Inv_t hI' t' g2 r')
