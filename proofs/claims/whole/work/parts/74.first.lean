/-! pure: first -/
theorem darkF_or (L : LD) (N h : Nat) : ∀ m k, (darkF L N h m k = -9 ∧ ∀ j, k ≤ j → j < k + m → hg L N j h = true) ∨ ∃ j, k ≤ j ∧ j < k + m ∧ hg L N j h = false ∧ (∀ i, k ≤ i → i < j → hg L N i h = true) ∧ darkF L N h m k = nI j
  | 0, k => .inl ⟨rfl, fun j h1 h2 => by omega⟩
  | m + 1, k => by
    rw [darkF]
    cases g : hg L N k h with
    | false =>
      rw [if_neg (by decide)]
      exact .inr ⟨k, by omega, by omega, g, fun i h1 h2 => by omega, rfl⟩
    | true =>
      rw [if_pos rfl]
      rcases darkF_or L N h m (k + 1) with ⟨h1, h2⟩ | ⟨j, j1, j2, j3, j4, j5⟩
      · refine .inl ⟨h1, fun j a b => ?_⟩
        by_cases e : j = k
        · subst e; exact g
        · exact h2 j (by omega) (by omega)
      · refine .inr ⟨j, by omega, by omega, j3, fun i a b => ?_, j5⟩
        by_cases e : i = k
        · subst e; exact g
        · exact j4 i (by omega) b
def tz (m : Nat) : Nat := if m.testBit 0 then 0 else if m.testBit 1 then 1 else if m.testBit 2 then 2 else if m.testBit 3 then 3 else if m.testBit 4 then 4 else if m.testBit 5 then 5 else if m.testBit 6 then 6 else 7
theorem tab_tz : ∀ m, m < 256 → m ≠ 0 → f_J6_numberOfTrailingZeros_0f7a4 (nI m) = some (nI (tz m)) ∧ tz m < 8 ∧ m.testBit (tz m) = true ∧ ∀ j, j < tz m → m.testBit j = false := by decide +kernel
section FD
variable {L : LD} {N T : Nat}
/-- where the search of the model stands after i houses -/
def FdOK (L : LD) (N i : Nat) (best arg : Int32) : Prop := (best = 1000000000 ∧ arg = -9 ∧ ∀ h, h < i → hg L N 0 h = true → ∀ j, j < 61 → hg L N j h = true) ∨ ∃ a K, a < i ∧ K < 61 ∧ hg L N 0 a = true ∧ hg L N K a = false ∧ best = nI K ∧ arg = nI a ∧ (∀ h j, h < i → hg L N 0 h = true → j < 61 → hg L N j h = false → K ≤ j) ∧ (∀ h j, h < a → hg L N 0 h = true → j < 61 → hg L N j h = false → K < j)
theorem fd_step (i : Nat) (best arg : Int32) (q : FdOK L N i best arg) (n : hg L N 0 i = false ∨ darkF L N i 61 0 = -9) : FdOK L N (i + 1) best arg := by
  have no : hg L N 0 i = true → ∀ j, j < 61 → hg L N j i = true := by
    intro z
    rcases n with n | n
    · rw [n] at z; exact absurd z (by decide)
    · rcases darkF_or L N i 61 0 with ⟨_, h2⟩ | ⟨j, j1, j2, j3, j4, j5⟩
      · exact fun j hj => h2 j (by omega) (by omega)
      · rw [n] at j5; exact absurd j5.symm (nI_ne9 (by omega))
  rcases q with ⟨q1, q2, q3⟩ | ⟨a, K, a1, a2, a3, a4, a5, a6, a7, a8⟩
  · refine .inl ⟨q1, q2, fun h hh z => ?_⟩
    by_cases e : h = i
    · subst e; exact no z
    · exact q3 h (by omega) z
  · refine .inr ⟨a, K, by omega, a2, a3, a4, a5, a6, fun h j hh z hj y => ?_, a8⟩
    by_cases e : h = i
    · subst e; rw [no z j hj] at y; exact absurd y (by decide)
    · exact a7 h j (by omega) z hj y
theorem fd6 (I : InvL L N T) (hT : T ≤ 999) (v : MW) (K : Rel v.1 L N zr) : ∀ (n i m : Nat) (best arg : Int32) (r : Nat → Int32), i + m = N → m < n → FdOK L N i best arg → ∃ r' best' arg', f_X6_firstDark_17 (nI (mask (hg L N 0) N)) n (nI i) best arg (v.1, r, v.2.2) = some (arg', (v.1, r', v.2.2)) ∧ FdOK L N N best' arg' := by
  intro n
  induction n with
  | zero => intro i m best arg r _ h2; exact absurd h2 (Nat.not_lt_zero _)
  | succ n ih =>
    intro i m best arg r hi hm q
    have hN := I.2.1
    rw [f_X6_firstDark_17, if_pos r71_0, z71_0, show (v.1, r, v.2.2).1 0 = nI N from K.1.trans I.1]
    by_cases e : i = N
    · subst e
      rw [if_pos (le_self i)]
      exact ⟨r, best, arg, rfl, q⟩
    · have hi2 : i < N := by omega
      rw [if_neg (ge_N (by omega) hi2), has6m hN hi2, Option.bind_some]
      cases g : hg L N 0 i with
      | false =>
        rw [if_pos b01f]
        unfold f_X6_firstDark_48
        rw [if_pos (show (-9 : Int32) < 0 by decide), nI_1]
        exact ih (i + 1) (m - 1) best arg r (by omega) (by omega) (fd_step i best arg q (.inl g))
      | true =>
        rw [if_neg b01t]
        obtain ⟨r1, e1⟩ := darkOf_k I hT hi2 (v.1, r, v.2.2) K
        rw [e1, Option.bind_some]
        unfold f_X6_firstDark_48
        rcases darkF_or L N i 61 0 with ⟨h1, h2⟩ | ⟨j, j1, j2, j3, j4, j5⟩
        · rw [h1, if_pos (show (-9 : Int32) < 0 by decide), nI_1]
          exact ih (i + 1) (m - 1) best arg r1 (by omega) (by omega) (fd_step i best arg q (.inr h1))
        · rw [j5, if_neg (nI_pos (by omega)), nI_1]
          have mineJ : ∀ j', j' < 61 → hg L N j' i = false → j ≤ j' := fun j' _ y => Nat.not_lt.1 fun z => by rw [j4 j' (by omega) z] at y; exact absurd y (by decide)
          rcases q with ⟨q1, q2, q3⟩ | ⟨a, K', a1, a2, a3, a4, a5, a6, a7, a8⟩
          · rw [if_pos (show nI j < best by rw [q1]; exact nI_lt (b := 1000000000) (by omega) (by decide))]
            refine ih (i + 1) (m - 1) _ _ r1 (by omega) (by omega) (.inr ⟨i, j, by omega, by omega, g, j3, rfl, rfl, fun h j' hh z hj y => ?_, fun h j' hh z hj y => ?_⟩)
            · by_cases eh : h = i
              · subst eh; exact mineJ j' hj y
              · rw [q3 h (by omega) z j' hj] at y; exact absurd y (by decide)
            · rw [q3 h hh z j' hj] at y; exact absurd y (by decide)
          · by_cases lt : j < K'
            · rw [if_pos (show nI j < best by rw [a5]; exact nI_lt lt (by omega))]
              refine ih (i + 1) (m - 1) _ _ r1 (by omega) (by omega) (.inr ⟨i, j, by omega, by omega, g, j3, rfl, rfl, fun h j' hh z hj y => ?_, fun h j' hh z hj y => ?_⟩)
              · by_cases eh : h = i
                · subst eh; exact mineJ j' hj y
                · have := a7 h j' (by omega) z hj y; omega
              · have := a7 h j' hh z hj y; omega
            · rw [if_neg (show ¬ nI j < best by rw [a5]; exact nI_nlt (by omega) (by omega))]
              refine ih (i + 1) (m - 1) _ _ r1 (by omega) (by omega) (.inr ⟨a, K', by omega, a2, a3, a4, a5, a6, fun h j' hh z hj y => ?_, a8⟩)
              by_cases eh : h = i
              · subst eh; have := mineJ j' hj y; omega
              · exact a7 h j' (by omega) z hj y
theorem fd5 (I : InvL L N T) {best arg : Int32} (F : FdOK L N N best arg) : ∀ (n k m : Nat) (t : TW), k + m = 61 → m < n → ThOK t L N k → (∀ j h, j < k → h < N → hg L N 0 h = true → hg L N j h = true) → ∃ t', f_X4_firstDark_11 (nI (mask (hg L N 0) N)) n (nI k) t = some (arg, t') ∧ t'.1 = L := by
  intro n
  induction n with
  | zero => intro k m t _ h2; exact absurd h2 (Nat.not_lt_zero _)
  | succ n ih =>
    intro k m t hk hm q hb
    have hN := I.2.1
    rw [f_X4_firstDark_11]
    by_cases e : k = 61
    · subst e
      rw [if_pos lt61]
      rcases F with ⟨q1, q2, q3⟩ | ⟨a, K', a1, a2, a3, a4, a5, a6, a7, a8⟩
      · rw [q2]; exact ⟨t, rfl, q.1⟩
      · rw [hb K' a a2 a1 a3] at a4; exact absurd a4 (by decide)
    · rw [if_neg (gt60 (by omega)), th_hangers I q, Option.bind_some]
      simp only [nm]
      rw [fa_diff, mask_diff]
      have hM : mask (fun i => hg L N 0 i && !hg L N k i) N < 256 := mask_256 _ hN
      by_cases z : mask (fun i => hg L N 0 i && !hg L N k i) N = 0
      · rw [if_pos (by rw [z]; rfl), th_night I q, Option.bind_some, nI_1]
        refine ih (k + 1) (m - 1) _ (by omega) (by omega) (th_next q (k + 1)) (fun j h hj hh y => ?_)
        by_cases ej : j = k
        · subst ej
          have tb := mask_tb (fun i => hg L N 0 i && !hg L N j i) N h
          rw [z, Nat.zero_testBit, decide_eq_true hh, Bool.true_and, y, Bool.true_and] at tb
          cases hv : hg L N j h with
          | true => rfl
          | false => rw [hv] at tb; exact absurd tb (by decide)
        · exact hb j h (by omega) hh y
      · obtain ⟨z1, z2, z3, z4⟩ := tab_tz _ hM z
        rw [if_neg (fun y => z ((nI_z (by omega)).1 y)), z1, Option.bind_some]
        refine ⟨t, ?_, q.1⟩
        have bit : ∀ o, (mask (fun i => hg L N 0 i && !hg L N k i) N).testBit o = true ↔ o < N ∧ hg L N 0 o = true ∧ hg L N k o = false := by
          intro o
          rw [mask_tb]
          cases hg L N 0 o <;> cases hg L N k o <;> simp
        obtain ⟨b1, b2, b3⟩ := (bit _).1 z3
        rcases F with ⟨q1, q2, q3⟩ | ⟨a, K', a1, a2, a3, a4, a5, a6, a7, a8⟩
        · rw [q3 _ b1 b2 k (by omega)] at b3; exact absurd b3 (by decide)
        · have l1 := a7 _ k b1 b2 (by omega) b3
          have l2 : k ≤ K' := Nat.not_lt.1 fun y => by rw [hb K' a y a1 a3] at a4; exact absurd a4 (by decide)
          obtain rfl : K' = k := by omega
          have l3 : tz (mask (fun i => hg L N 0 i && !hg L N K' i) N) ≤ a := Nat.not_lt.1 fun y => by
            have := z4 a y
            rw [(bit a).2 ⟨a1, a3, a4⟩] at this
            exact absurd this (by decide)
          have l4 : ¬ tz (mask (fun i => hg L N 0 i && !hg L N K' i) N) < a := fun y => by
            have := a8 _ K' y b2 (by omega) b3
            omega
          rw [a6, show tz (mask (fun i => hg L N 0 i && !hg L N K' i) N) = a by omega]
end FD
theorem op_first : E_first Inv := by
  intro w v hI x
  have hI' := hI
  obtain ⟨⟨N, T, n1, n2, I, n4, n5, K⟩, b⟩ := hI
  show Eq2 Inv _ _
  unfold f_X5_first f_X6_first
  by_cases y0 : x = 0
  · rw [if_pos y0, if_pos y0]
    obtain ⟨t1, e1, q1⟩ := th_begin I w.1 rfl
    obtain ⟨r', bb, aa, e2, F⟩ := fd6 I n2 v K 200 0 N 1000000000 (-9) v.2.1 (by omega) (by omega) (.inl ⟨rfl, rfl, fun h hh => absurd hh (Nat.not_lt_zero _)⟩)
    obtain ⟨t', e3, q3⟩ := fd5 I F 200 0 61 t1 rfl (by decide) q1 (fun j h hj => absurd hj (Nat.not_lt_zero _))
    unfold f_X4_firstDark f_X6_firstDark
    rw [e1, Option.bind_some, th_hangers I q1, Option.bind_some, show f_X4_firstDark_11 (nI (mask (hg w.1.1 N 0) N)) 200 (0 : Int32) t1 = _ from e3, Option.bind_some, hangIn_k (k := 0) I (by omega) K, Option.bind_some, show f_X6_firstDark_17 (nI (mask (hg w.1.1 N 0) N)) 200 (0 : Int32) (1000000000 : Int32) (-9 : Int32) v = _ from e2, Option.bind_some]
    exact Eq2_some rfl (Inv_t hI' t' q3 r')
  rw [if_neg y0, if_neg y0]
  by_cases y1 : x = 1
  · rw [if_pos y1, if_pos y1]
    obtain ⟨t1, e1, q1⟩ := th_begin I w.1 rfl
    obtain ⟨t', e2, q2⟩ := wh5 I 200 0 61 t1 rfl (by decide) q1
    obtain ⟨r', e3⟩ := wh6 I n2 v 200 0 61 v.1 rfl (by decide) K
    unfold f_X4_wholeBehind f_X6_whole f_X6_copies
    rw [e1, Option.bind_some, show f_X4_wholeBehind_6 200 (0 : Int32) t1 = _ from e2, Option.bind_some, Option.bind_some]
    rw [show f_X6_whole_13 200 (0 : Int32) (v.1, v.1, v.2.2.1, v.2.2.2.1, v.2.2.2.2.1, v.2.2.2.2.2.1, v.2.2.2.2.2.2.1, v.2.2.2.2.2.2.2.1, v.2.2.2.2.2.2.2.2.1, v.2.2.2.2.2.2.2.2.2.1, v.2.2.2.2.2.2.2.2.2.2.1, v.2.2.2.2.2.2.2.2.2.2.2.1, v.2.2.2.2.2.2.2.2.2.2.2.2.1, v.2.2.2.2.2.2.2.2.2.2.2.2.2) = _ from e3, Option.bind_some]
    exact Eq2_some rfl (Inv_t hI' t' q2 r')
  rw [if_neg y1, if_neg y1]
  exact ref_no (x := (-2 : Int32)) hI' 2 (by decide) (by decide) rfl
