/-! pure: sees, leastEye, fell, raise, fogged, highest -/
def Two (L : LD) (v : MW) (a : Option (Int32 × TW)) (b : Option (Int32 × MW)) : Prop := ∃ x t' r', a = some (x, t') ∧ t'.1 = L ∧ b = some (x, (v.1, r', v.2.2))
theorem hangers_at {L : LD} {N T : Nat} {e : Nat → Int32} (I : InvL L N T) {t : TW} (h1 : t.2.1 = L) (h2 : LookOK t.2.2.1 L e N) : f_X4_hangers t = some (nI (mask (hangS L e N (litB L)) N)) := by
  unfold f_X4_hangers
  rw [h1, pl_lit I, Option.bind_some, litM, pl_hanging I.2.1 h2, Option.bind_some]
theorem hangIn_at {r : Nat → Int32} {L : LD} {N T : Nat} {ra : Nat → Int32} (I : InvL L N T) (hT : T < 2 ^ 31) (K : Rel r L N ra) : f_X6_hangIn r = some (nI (mask (hangS L (eyeR L ra) N (litB L)) N)) := hangIn6 I hT K
theorem ge20 {i : Nat} (h : i < 20) : ¬ (20 : Int32) ≤ nI i := nI_ge (b := 20) h (by decide)
theorem op_sees : E_sees Inv := by
  intro w v hI x
  have hI' := hI
  obtain ⟨⟨N, T, n1, n2, I, n4, n5, K⟩, b⟩ := hI
  show Eq2 Inv _ _
  unfold f_X5_sees f_X6_sees f_X6_sees_34
  rcases hs6 I K x with ⟨h1, h2⟩ | ⟨h, hh, rfl, h1, h2⟩
  · rw [h1, h2, Option.bind_some, Option.bind_some, if_pos rfl, if_pos rfl]
    exact ref_no (x := (-1 : Int32)) hI' 1 (by decide) (by decide) rfl
  · obtain ⟨t1, e1, q1⟩ := th_begin I w.1 rfl
    rw [h1, h2, Option.bind_some, Option.bind_some, if_neg one_ne, if_neg one_ne]
    unfold f_X4_seenBy
    rw [e1, Option.bind_some, if_pos (inR8 hh I.2.1), nI_clamp (by omega), show t1.2.2.1.2.2.1 = _ from q1.2.2.2.2.2, has5m I.2.1 hh, show t1.2.2.1.2.1 h = _ from q1.2.2.2.2.1 h hh, sea6 I K hh, eyeR_0, Option.bind_some, Option.bind_some]
    have key : ∀ (bb : Nat) (n i m : Nat), i + m = N → m < n → f_X6_sees_37 v (nI h) n (nI i) (nI bb ||| nI (mask (adjB w.1.1 (eyeL w.1.1) h) i)) = some (nI bb ||| nI (mask (adjB w.1.1 (eyeL w.1.1) h) N), v) := by
      intro bb n
      induction n with
      | zero => intro i m _ h2; exact absurd h2 (Nat.not_lt_zero _)
      | succ n ih =>
        intro i m hi hm
        rw [f_X6_sees_37, if_pos r71_0, z71_0, K.1, show Ln w.1.1 = nI N from I.1]
        by_cases e : i = N
        · subst e; rw [if_pos (le_self i)]
        · have hlt : i < N := by omega
          rw [if_neg (ge_N (by omega) hlt)]
          have st := ih (i + 1) (m - 1) (by omega) (by omega)
          by_cases eh : i = h
          · subst eh
            rw [if_pos rfl]
            simp only [nm, nI_1]
            rw [fa_or, or_0, ← fa_or]
            have : mask (adjB w.1.1 (eyeL w.1.1) i) (i + 1) = mask (adjB w.1.1 (eyeL w.1.1) i) i := by
              show (if adjB w.1.1 (eyeL w.1.1) i i = true then _ else _) = _
              rw [if_neg (by rw [adjB_self]; decide)]
            rw [this] at st
            exact st
          · rw [if_neg (nz (by omega) (by omega) eh), sees6 I K hh hlt, eyeR_0, Option.bind_some]
            have ha : adjB w.1.1 (eyeL w.1.1) h i = seesB w.1.1 (eyeL w.1.1) h i := by
              unfold adjB
              rw [decide_eq_false eh]; rfl
            have hs : mask (adjB w.1.1 (eyeL w.1.1) h) (i + 1) = if adjB w.1.1 (eyeL w.1.1) h i = true then mask (adjB w.1.1 (eyeL w.1.1) h) i + 2 ^ i else mask (adjB w.1.1 (eyeL w.1.1) h) i := rfl
            cases g : seesB w.1.1 (eyeL w.1.1) h i with
            | false =>
              rw [if_pos b01f]
              simp only [nm, nI_1]
              rw [fa_or, or_0, ← fa_or]
              rw [hs, if_neg (by rw [ha, g]; decide)] at st
              exact st
            | true =>
              rw [if_neg b01t]
              simp only [nm, nI_1]
              rw [one_shl i (by omega), fa_or, fa_or, Nat.or_assoc, mask_or _ _ (by rw [ha, g])]
              rw [fa_or] at st
              exact st
    cases g : seaB w.1.1 (eyeL w.1.1) h with
    | false =>
      rw [if_pos b01f, if_pos b01f]
      have z := key 0 200 0 N (by omega) (by omega)
      rw [show mask (adjB w.1.1 (eyeL w.1.1) h) 0 = 0 from rfl, show nI 0 ||| nI 0 = (0 : Int32) by decide] at z
      rw [show f_X6_sees_37 v (nI h) 200 (0 : Int32) (0 : Int32) = _ from z]
      refine Eq2_some ?_ (Inv_w hI' t1 q1.1)
      rw [or_0, fa_or, Nat.zero_or]
    | true =>
      rw [if_neg b01t, if_neg b01t]
      have z := key 128 200 0 N (by omega) (by omega)
      rw [show mask (adjB w.1.1 (eyeL w.1.1) h) 0 = 0 from rfl, show nI 128 ||| nI 0 = (128 : Int32) by decide] at z
      rw [show f_X6_sees_37 v (nI h) 200 (0 : Int32) (128 : Int32) = _ from z]
      refine Eq2_some ?_ (Inv_w hI' t1 q1.1)
      rw [fa_or, show (128 : Int32) = nI 128 from rfl, fa_or, Nat.or_comm]
theorem op_leastEye : E_leastEye Inv := by
  intro w v hI x
  have hI' := hI
  obtain ⟨⟨N, T, n1, n2, I, n4, n5, K⟩, b⟩ := hI
  show Eq2 Inv _ _
  unfold f_X5_leastEye f_X6_leastEye
  rcases hs6 I K x with ⟨h1, h2⟩ | ⟨h, hh, rfl, h1, h2⟩
  · rw [h1, h2, Option.bind_some, Option.bind_some, if_pos rfl, if_pos rfl]
    exact ref_no (x := (-1 : Int32)) hI' 1 (by decide) (by decide) rfl
  · have h8 : h < 8 := by omega
    have g := K.2.2.2.2 h hh
    obtain ⟨hc, ec⟩ := cellN_of I hh
    rw [h1, h2, Option.bind_some, Option.bind_some, if_neg one_ne, if_neg one_ne, of_0, Option.bind_some, if_pos (in71z h8), cl71z h8, of_1, Option.bind_some, if_pos (in71 h8 (show 1 < 6 by decide)), cl71 h8 (show 1 < 6 by decide), g.1, g.2.1, candle6, Option.bind_some]
    unfold f_X4_leastCandle
    rw [if_pos (inR8 hh I.2.1), nI_clamp (by omega), show w.1.1.2.2.2.1 h = _ from ec]
    simp only [nm]
    have key : ∀ (n i m : Nat) (r : Nat → Int32), i + m = 31 → m < n → ∃ x r', f_X4_leastCandle_12 (nI (cellN w.1.1 h)) w.1 n (nI i) = some x ∧ f_X6_leastEye_40 (nI h) (candle (Lks w.1.1 h) (Lfs w.1.1 h)) n (nI i) (v.1, r, v.2.2) = some (x, (v.1, r', v.2.2)) := by
      intro n
      induction n with
      | zero => intro i m r _ h2; exact absurd h2 (Nat.not_lt_zero _)
      | succ n ih =>
        intro i m r hi hm
        rw [f_X4_leastCandle_12, f_X6_leastEye_40]
        by_cases e : i = 31
        · subst e
          rw [if_pos (show (30 : Int32) < nI 31 by decide), if_pos (show (30 : Int32) < nI 31 by decide)]
          exact ⟨_, r, rfl, rfl⟩
        · have hn : ¬ (30 : Int32) < nI i := nI_nlt (a := 30) (by omega) (by decide)
          rw [if_neg hn, if_neg hn, if_pos (inR20 hc), nI_clamp (show cellN w.1.1 h < 2 ^ 31 by omega)]
          have K2 : Rel (upd v.1 (23 + 6 * h + 5) (nI i - candle (Lks w.1.1 h) (Lfs w.1.1 h))) w.1.1 N (upd zr h (nI i - candle (Lks w.1.1 h) (Lfs w.1.1 h))) := Up_ra K
          have hey : eyeR w.1.1 (upd zr h (nI i - candle (Lks w.1.1 h) (Lfs w.1.1 h))) h = w.1.1.1 (cellN w.1.1 h) + nI i := by
            unfold eyeR eyeL
            rw [pk_us, Int32.add_assoc, Int32.add_comm (candle _ _), Int32.sub_add_cancel]
            rfl
          rw [show f_X3_isOpen w.1.1 (nI (cellN w.1.1 h)) (w.1.1.1 (cellN w.1.1 h) + nI i) (20 : Int32) (0 : Int32) = _ from pl_open (b := 20) w.1.1 (by omega) (by decide) _ _]
          unfold f_X6_copies
          rw [Option.bind_some, Option.bind_some, of_5, Option.bind_some, if_pos (in71 h8 (show 5 < 6 by decide)), cl71 h8 (show 5 < 6 by decide), sea6 I K2 hh, Option.bind_some]
          have hq : seaB w.1.1 (eyeR w.1.1 (upd zr h (nI i - candle (Lks w.1.1 h) (Lfs w.1.1 h)))) h = seeB w.1.1 (cellN w.1.1 h) (w.1.1.1 (cellN w.1.1 h) + nI i) 20 0 := by
            unfold seaB
            rw [hey]
          rw [hq]
          cases seeB w.1.1 (cellN w.1.1 h) (w.1.1.1 (cellN w.1.1 h) + nI i) 20 0 with
          | false =>
            rw [if_pos b01f, if_pos b01f, nI_1]
            exact ih (i + 1) (m - 1) _ (by omega) (by omega)
          | true =>
            rw [if_neg b01t, if_neg b01t]
            exact ⟨_, _, rfl, rfl⟩
    obtain ⟨x, r', q1, q2⟩ := key 200 0 31 v.2.1 (by omega) (by decide)
    rw [show f_X4_leastCandle_12 (nI (cellN w.1.1 h)) w.1 200 (0 : Int32) = _ from q1, show f_X6_leastEye_40 (nI h) (candle (Lks w.1.1 h) (Lfs w.1.1 h)) 200 (0 : Int32) v = _ from q2, Option.bind_some]
    exact Eq2_some rfl (Inv_t hI' w.1 rfl r')
theorem op_highest : E_highest Inv := by
  intro w v hI
  have hI' := hI
  obtain ⟨⟨N, T, n1, n2, I, n4, n5, K⟩, b⟩ := hI
  have key : ∀ (n i m a : Nat), i + m = 20 → m < n → a < 20 → ∃ x, f_X5_highest_4 w n (nI i) (nI a) = some x ∧ f_X6_highest_4 v n (nI i) (nI a) = some x := by
    intro n
    induction n with
    | zero => intro i m a _ h2; exact absurd h2 (Nat.not_lt_zero _)
    | succ n ih =>
      intro i m a hi hm ha
      rw [f_X5_highest_4, f_X6_highest_4]
      by_cases e : i = 20
      · subst e
        rw [if_pos (show (20 : Int32) ≤ nI 20 by decide), if_pos (show (20 : Int32) ≤ nI 20 by decide)]
        exact ⟨_, rfl, rfl⟩
      · have hi2 : i < 20 := by omega
        rw [if_neg (ge20 hi2), if_neg (ge20 hi2), if_pos (inR20 hi2), if_pos (inR20 ha), if_pos (in3 hi2), if_pos (in3 ha), cl3 hi2, cl3 ha, nI_clamp (show i < 2 ^ 31 by omega), nI_clamp (show a < 2 ^ 31 by omega), K.2.2.2.1 i hi2, K.2.2.2.1 a ha, nI_1]
        by_cases q : w.1.1.1 i ≤ w.1.1.1 a
        · rw [if_pos q, if_pos (show Lhs w.1.1 i ≤ Lhs w.1.1 a from q)]
          exact ih (i + 1) (m - 1) a (by omega) (by omega) ha
        · rw [if_neg q, if_neg (show ¬ Lhs w.1.1 i ≤ Lhs w.1.1 a from q)]
          exact ih (i + 1) (m - 1) i (by omega) (by omega) hi2
  have st : f_X6_highest_4 v 200 (0 : Int32) (0 : Int32) = f_X6_highest_4 v 199 (1 : Int32) (0 : Int32) := by
    rw [f_X6_highest_4, if_neg (show ¬ (20 : Int32) ≤ 0 by decide), if_pos (show inR ((3 : Int32) + 0) 71 = true by decide), if_pos (show inR ((3 : Int32) + 0) 71 = true by decide), if_pos (Int32.le_refl _)]
    rfl
  have st2 : ∀ n i m a : Nat, i + m = 20 → m < n → a < 20 → f_X6_highest_4 v n (nI i) (nI a) = f_X6_highest_4 v (n + 1) (nI i) (nI a) := by
    intro n
    induction n with
    | zero => intro i m a _ h2; exact absurd h2 (Nat.not_lt_zero _)
    | succ n ih =>
      intro i m a hi hm ha
      rw [f_X6_highest_4, f_X6_highest_4]
      by_cases e : i = 20
      · subst e
        rw [if_pos (show (20 : Int32) ≤ nI 20 by decide), if_pos (show (20 : Int32) ≤ nI 20 by decide)]
      · have hi2 : i < 20 := by omega
        simp only [ge20 hi2, in3 hi2, in3 ha, cl3 hi2, cl3 ha, nI_1, ↓reduceIte]
        by_cases q : v.1 (3 + i) ≤ v.1 (3 + a)
        · rw [if_pos q, if_pos q]
          exact ih (i + 1) (m - 1) a (by omega) (by omega) ha
        · rw [if_neg q, if_neg q]
          exact ih (i + 1) (m - 1) i (by omega) (by omega) hi2
  unfold f_X5_highest f_X6_highest
  obtain ⟨x, q1, q2⟩ := key 200 1 19 0 rfl (by decide) (by decide)
  exact ⟨x, x, q1, by rw [st, show f_X6_highest_4 v 199 (1 : Int32) (0 : Int32) = _ from st2 199 1 19 0 rfl (by decide) (by decide)]; exact q2, rfl, hI'⟩
