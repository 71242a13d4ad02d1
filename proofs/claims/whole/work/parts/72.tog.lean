/-! pure: nights summed: share, longest, spend -/
section TG
variable {M : LD} {N T : Nat}
def hpop (M : LD) (N j : Nat) : Int32 := nI (pop (mask (hg M N j) N))
def togF (M : LD) (N : Nat) : Nat → Int32
  | 0 => 0
  | j + 1 => togF M N j + hpop M N j
def mxF (M : LD) (N : Nat) : Nat → Int32
  | 0 => 0
  | j + 1 => if hpop M N j ≤ mxF M N j then mxF M N j else hpop M N j
/-- a mind M being k nights on, with a sight that fits -/
def MiOK (t : TW) (M : LD) (N k : Nat) : Prop := t.2.1 = nightsL M N k ∧ LookOK t.2.2.1 M (eyeL M) N
theorem mi_hangers (I : InvL M N T) {t : TW} {k : Nat} (h : MiOK t M N k) : f_X4_hangers t = some (nI (mask (hg M N k) N)) := by
  unfold f_X4_hangers
  rw [h.1, pl_lit (inv_nights I k), Option.bind_some, litM, pl_hanging I.2.1 h.2, Option.bind_some]
  rfl
theorem tog5 (I : InvL M N T) {k : Nat} (hk : k < 100) (o : LD) : ∀ (n j m : Nat) (t : TW), j + m = k + 1 → m < n → MiOK t M N j → t.1 = o → ∃ t', f_X4_hangTogether_4 (nI k) n (nI j) (togF M N j) t = some (togF M N (k + 1), t') ∧ t'.1 = o ∧ MiOK t' M N (k + 1) := by
  intro n
  induction n with
  | zero => intro j m t _ h2; exact absurd h2 (Nat.not_lt_zero _)
  | succ n ih =>
    intro j m t hj hm q ho
    have hN := I.2.1
    rw [f_X4_hangTogether_4]
    by_cases e : j = k + 1
    · subst e
      rw [if_pos (show nI k < nI (k + 1) from nI_lt (by omega) (by omega))]
      exact ⟨t, rfl, ho, q⟩
    · rw [if_neg (show ¬ nI k < nI j from nI_nlt (by omega) (by omega)), q.1, pl_lit (inv_nights I j), Option.bind_some, litM, pl_hanging hN q.2, Option.bind_some, bits5m hN, Option.bind_some]
      simp only [nm]
      rw [pl_night (inv_nights I j), Option.bind_some, nI_1]
      exact ih (j + 1) (m - 1) _ (by omega) (by omega) ⟨rfl, q.2⟩ ho
theorem tog6 (I : InvL M N T) (hT : T ≤ 999) {k : Nat} (hk : k < 100) (v : MW) : ∀ (n j m : Nat) (r : Nat → Int32), j + m = k → m < n → Rel r (nightsL M N j) N zr → ∃ r', f_X6_hangsIn_13 (nI k) n (nI j) (togF M N (j + 1)) (v.1, r, v.2.2) = some (togF M N (k + 1), (v.1, r', v.2.2)) := by
  intro n
  induction n with
  | zero => intro j m r _ h2; exact absurd h2 (Nat.not_lt_zero _)
  | succ n ih =>
    intro j m r hj hm q
    have hN := I.2.1
    rw [f_X6_hangsIn_13]
    by_cases e : j = k
    · subst e
      rw [if_pos (le_self j)]
      exact ⟨r, rfl⟩
    · obtain ⟨r1, e1, K1⟩ := night_k I (show T + j < 2 ^ 31 by omega) q
      rw [if_neg (ge_N (by omega) (by omega))]
      simp only [e1, Option.bind_some, nm]
      rw [hangIn_k I (show T + (j + 1) < 2 ^ 31 by omega) K1, Option.bind_some, bits6m hN, Option.bind_some, nI_1]
      exact ih (j + 1) (m - 1) r1 (by omega) (by omega) K1
theorem together5 (I : InvL M N T) {k : Nat} (hk : k < 100) {t : TW} (q : MiOK t M N 0) : ∃ t', f_X4_hangTogether t (nI k) = some (togF M N (k + 1), t') ∧ t'.1 = t.1 ∧ MiOK t' M N (k + 1) := tog5 I hk t.1 200 0 (k + 1) t (by omega) (by omega) q rfl
theorem together6 (I : InvL M N T) (hT : T ≤ 999) {k : Nat} (hk : k < 100) (v : MW) {r : Nat → Int32} (q : Rel r M N zr) : ∃ r', f_X6_hangsIn (v.1, r, v.2.2) (nI k) = some (togF M N (k + 1), (v.1, r', v.2.2)) := by
  unfold f_X6_hangsIn
  rw [hangIn_k (k := 0) I (show T + 0 < 2 ^ 31 by omega) q, Option.bind_some, bits6m I.2.1, Option.bind_some]
  obtain ⟨r', e⟩ := tog6 I hT hk v 200 0 k r (by omega) (by omega) q
  refine ⟨r', ?_⟩
  rw [← e, show togF M N (0 + 1) = hpop M N 0 from Int32.zero_add _]
  rfl
theorem mx5 (I : InvL M N T) {k : Nat} (hk : k < 100) (o : LD) : ∀ (n j m : Nat) (t : TW), j + m = k + 1 → m < n → MiOK t M N j → t.1 = o → ∃ t', f_X4_mostHanging_8 (nI k) n (nI j) (mxF M N j) t = some (mxF M N (k + 1), t') ∧ t'.1 = o := by
  intro n
  induction n with
  | zero => intro j m t _ h2; exact absurd h2 (Nat.not_lt_zero _)
  | succ n ih =>
    intro j m t hj hm q ho
    have hN := I.2.1
    rw [f_X4_mostHanging_8]
    by_cases e : j = k + 1
    · subst e
      rw [if_pos (show nI k < nI (k + 1) from nI_lt (by omega) (by omega))]
      exact ⟨t, rfl, ho⟩
    · rw [if_neg (show ¬ nI k < nI j from nI_nlt (by omega) (by omega)), mi_hangers I q, Option.bind_some, bits5m hN, Option.bind_some]
      simp only [nm]
      rw [q.1, pl_night (inv_nights I j), Option.bind_some, nI_1]
      have hx : maxI (mxF M N j) (nI (pop (mask (hg M N j) N))) = mxF M N (j + 1) := by
        rw [mxF]
        unfold maxI hpop
        by_cases z : nI (pop (mask (hg M N j) N)) ≤ mxF M N j
        · rw [if_pos z]
          split
          · rename_i y; exact absurd z (Int32.not_le.mpr y)
          · rfl
        · rw [if_neg z, if_pos (Int32.not_le.mp z)]
      rw [hx]
      exact ih (j + 1) (m - 1) _ (by omega) (by omega) ⟨rfl, q.2⟩ ho
theorem mx6 (I : InvL M N T) (hT : T ≤ 999) {k : Nat} (hk : k < 100) (v : MW) : ∀ (n j m : Nat) (r : Nat → Int32), j + m = k → m < n → Rel r (nightsL M N j) N zr → ∃ r', f_X6_longest_43 (nI k) n (nI j) (mxF M N (j + 1)) (v.1, r, v.2.2) = some (mxF M N (k + 1), (v.1, r', v.2.2)) := by
  intro n
  induction n with
  | zero => intro j m r _ h2; exact absurd h2 (Nat.not_lt_zero _)
  | succ n ih =>
    intro j m r hj hm q
    have hN := I.2.1
    rw [f_X6_longest_43]
    by_cases e : j = k
    · subst e
      rw [if_pos (le_self j)]
      exact ⟨r, rfl⟩
    · obtain ⟨r1, e1, K1⟩ := night_k I (show T + j < 2 ^ 31 by omega) q
      rw [if_neg (ge_N (by omega) (by omega))]
      simp only [e1, Option.bind_some, nm]
      rw [hangIn_k I (show T + (j + 1) < 2 ^ 31 by omega) K1, Option.bind_some, bits6m hN, Option.bind_some, Option.bind_some, bits6m hN, Option.bind_some, nI_1]
      have st := ih (j + 1) (m - 1) r1 (by omega) (by omega) K1
      rw [mxF] at st
      by_cases z : hpop M N (j + 1) ≤ mxF M N (j + 1)
      · rw [if_pos z] at st
        rw [if_pos (show nI (pop (mask (hg M N (j + 1)) N)) ≤ mxF M N (j + 1) from z)]
        exact st
      · rw [if_neg z] at st
        rw [if_neg (show ¬ nI (pop (mask (hg M N (j + 1)) N)) ≤ mxF M N (j + 1) from z)]
        exact st
end TG
theorem op_longest : E_longest Inv := by
  intro w v hI y
  have hI' := hI
  obtain ⟨⟨N, T, n1, n2, I, n4, n5, K⟩, b⟩ := hI
  show Eq2 Inv _ _
  unfold f_X5_longest f_X6_longest
  rcases wb6 y 60 (by decide) with ⟨d, hd, g1, g2⟩ | ⟨k, hk, rfl, g1, g2⟩
  · rw [show f_X5_outside y (0 : Int32) (60 : Int32) = _ from g1, show f_X6_wrongBy y (0 : Int32) (60 : Int32) = _ from g2, Option.bind_some, Option.bind_some, if_neg (neg_ne hd), if_neg (neg_ne hd)]
    exact ref_no hI' d (by omega) (by omega) (neg_neg6 d)
  · rw [show f_X5_outside (nI k) (0 : Int32) (60 : Int32) = _ from g1, show f_X6_wrongBy (nI k) (0 : Int32) (60 : Int32) = _ from g2, Option.bind_some, Option.bind_some, if_pos rfl, if_pos rfl]
    obtain ⟨t1, e1, q1⟩ := th_begin I w.1 rfl
    obtain ⟨t', e2, q2⟩ := mx5 I (show k < 100 by omega) w.1.1 200 0 (k + 1) t1 (by omega) (by omega) ⟨q1.2.1, q1.2.2⟩ q1.1
    obtain ⟨r', e3⟩ := mx6 I n2 (show k < 100 by omega) v 200 0 k v.1 (by omega) (by omega) K
    unfold f_X4_mostHanging f_X6_copies
    rw [e1, Option.bind_some, show f_X4_mostHanging_8 (nI k) 200 (0 : Int32) (0 : Int32) t1 = _ from e2, Option.bind_some, Option.bind_some, hangIn_k (k := 0) I (by omega) K, Option.bind_some, bits6m I.2.1, Option.bind_some]
    have hx : nI (pop (mask (hg w.1.1 N 0) N)) = mxF w.1.1 N (0 + 1) := by
      rw [mxF]
      show hpop w.1.1 N 0 = if hpop w.1.1 N 0 ≤ 0 then 0 else hpop w.1.1 N 0
      by_cases z : hpop w.1.1 N 0 ≤ 0
      · rw [if_pos z]
        exact Int32.le_antisymm z (nI_pos' (by have := pop_le (mask (hg w.1.1 N 0) N); omega))
      · rw [if_neg z]
    rw [hx, show f_X6_longest_43 (nI k) 200 (0 : Int32) (mxF w.1.1 N (0 + 1)) (v.1, v.1, v.2.2.1, v.2.2.2.1, v.2.2.2.2.1, v.2.2.2.2.2.1, v.2.2.2.2.2.2.1, v.2.2.2.2.2.2.2.1, v.2.2.2.2.2.2.2.2.1, v.2.2.2.2.2.2.2.2.2.1, v.2.2.2.2.2.2.2.2.2.2.1, v.2.2.2.2.2.2.2.2.2.2.2.1, v.2.2.2.2.2.2.2.2.2.2.2.2.1, v.2.2.2.2.2.2.2.2.2.2.2.2.2) = _ from e3]
    exact Eq2_some rfl (Inv_t hI' t' q2 r')
theorem op_spend : E_spend Inv := by
  intro w v hI y
  have hI' := hI
  obtain ⟨⟨N, T, n1, n2, I, n4, n5, K⟩, b⟩ := hI
  show Eq2 Inv _ _
  unfold f_X5_spend f_X6_spend
  rcases wb6 y 60 (by decide) with ⟨d, hd, g1, g2⟩ | ⟨k, hk, rfl, g1, g2⟩
  · rw [show f_X5_outside y (0 : Int32) (60 : Int32) = _ from g1, show f_X6_wrongBy y (0 : Int32) (60 : Int32) = _ from g2, Option.bind_some, Option.bind_some, if_neg (neg_ne hd), if_neg (neg_ne hd)]
    exact ref_no hI' d (by omega) (by omega) (neg_neg6 d)
  · rw [show f_X5_outside (nI k) (0 : Int32) (60 : Int32) = _ from g1, show f_X6_wrongBy (nI k) (0 : Int32) (60 : Int32) = _ from g2, Option.bind_some, Option.bind_some, if_pos rfl, if_pos rfl]
    obtain ⟨r', e2, K2⟩ := takes_k I v K (show T + k < 2 ^ 31 by omega) (show k < 200 by omega)
    unfold f_X4_burntIn
    rw [become5, Option.bind_some, pl_nights I (show k < 200 by omega), Option.bind_some, pl_allWicks I, Option.bind_some, pl_allWicks (inv_nights I k), Option.bind_some, Option.bind_some, e2, Option.bind_some]
    refine Eq2_some ?_ (Inv_t hI' _ rfl r')
    show sumI (Lwk w.1.1) N - sumI (Lwk (nightsL w.1.1 N k)) N = burntsL w.1.1 N k
    rw [burnts_wicks w.1.1 N k, Int32.add_comm, Int32.add_sub_cancel]
