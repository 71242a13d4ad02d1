/-! pure: a statement comes, on both sides -/
abbrev LK (M : LD) (r : Nat → Int32) : Prop := ∃ N T, LOK M r N T
/-- both refuse, or both do it -/
def StR (v : MW) (r q : Nat → Int32) (pl : Int32) (c5 : Option (Int32 × LD)) (c6 : Option (Int32 × MW)) : Prop := (∃ M', c5 = some (0, M') ∧ c6 = some (0, vl v r q pl)) ∨ ∃ M' r', c5 = some (1, M') ∧ c6 = some (1, vl v r' q pl) ∧ LK M' r'
section C5
variable {f : Nat → Int32} {A : Nat → Nat} {k : Nat}
theorem digit5 (X : TeX5 f A k) (z : Int32) {p : Nat} (h : fitB A k 100 p = true) : f_X2_digit (f, nI k, z) (nI p) = some (nI (dg A p)) := by
  have hk := X.1
  have fz := fit100 h
  unfold f_X2_digit
  rw [if_neg (show ¬ nI k ≤ nI p from nI_ge fz.1 (by omega)), if_pos (inR96 (by omega)), nI_clamp (by omega), show (f, nI k, z).1 p = nI (A p) from (X.2 p fz.1).1, show (48 : Int32) = nI 48 from rfl, pk_sub (by omega)]
  rfl
theorem two5 (X : TeX5 f A k) (z : Int32) {p : Nat} (h : fitB A k 100 p = true) (h2 : fitB A k 100 (p + 1) = true) : f_X2_twoDigits (f, nI k, z) (nI p) = some (nI (num2 A p)) := by
  unfold f_X2_twoDigits
  rw [digit5 X z h, Option.bind_some, nI_1, digit5 X z h2, Option.bind_some, show (10 : Int32) * nI (dg A p) = nI (10 * dg A p) from pk_mul 10 _, nI_add]
  rfl
theorem kind5 (X : TeX5 f A k) (z : Int32) {p : Nat} (h : fitB A k 107 p = true) : f_X2_kindAt (f, nI k, z) (nI p) = some (nI (kdN (A p))) := by
  have hk := X.1
  rw [fit107, Bool.and_eq_true, decide_eq_true_eq] at h
  unfold f_X2_kindAt
  rw [if_neg (show ¬ nI k ≤ nI p from nI_ge h.1 (by omega)), if_pos (inR96 (by omega)), nI_clamp (by omega), show (f, nI k, z).1 p = nI (A p) from (X.2 p h.1).1, tab_kd5 _ (X.2 p h.1).2 h.2, Option.bind_some]
theorem num2_99 {p : Nat} (h : fitB A k 100 p = true) (h2 : fitB A k 100 (p + 1) = true) : num2 A p ≤ 99 := by
  have := dg_9 h
  have := dg_9 h2
  unfold num2
  omega
theorem or01 {x : Int32} {M : LD} (h : x = 0 ∨ x = 1) : (if x = 0 ∨ x = 1 then some (x, M) else none) = some (x, M) := if_pos h
section DO
variable {v : MW} {r q : Nat → Int32} {pl z : Int32} {M : LD} {N T p : Nat}
theorem i30 : inR (0 : Int32) 3 = true := by decide
theorem i31 : inR (1 : Int32) 3 = true := by decide
theorem i32 : inR (2 : Int32) 3 = true := by decide
theorem done_c (X : TeX5 f A k) (hp : p < k) (hc : A p = 99) (h1 : fitB A k 100 (p + 1) = true) (h2 : fitB A k 100 (p + 2) = true) (h3 : fitB A k 100 (p + 3) = true) (q0 : q 0 = nI (num2 A (p + 1))) (q1 : q 1 = nI (dg A (p + 3))) (hM : LOK M r N T) : StR v r q pl (f_X2_comes (f, nI k, z) (nI p) M) (f_X6_isDone (vl v r q pl) (99 : Int32)) := by
  have hk := X.1
  obtain ⟨n1, n2, I, n4, n5, K⟩ := hM
  have x1 := (X.2 p hp).1
  rw [hc] at x1
  unfold f_X2_comes f_X6_isDone f_X1_putHeight
  rw [if_pos (inR96 (show p < 96 by omega)), nI_clamp (show p < 2 ^ 31 by omega), show (f, nI k, z).1 p = nI 99 from x1, if_pos (show nI 99 = (99 : Int32) from rfl), nI_1, two5 X z h1 h2, Option.bind_some, show nI p + (3 : Int32) = nI (p + 3) from nI_add p 3, digit5 X z h3, Option.bind_some, if_pos i30, nm, if_pos i31, nm, z71_0, z71_1, if_pos (rfl : (99 : Int32) = 99), show (vl v r q pl).2.2.2.2.2.2.2.1 0 = nI (num2 A (p + 1)) from q0, show (vl v r q pl).2.2.2.2.2.2.2.1 1 = nI (dg A (p + 3)) from q1]
  have d9 := dg_9 h3
  rcases cl6 (nI (num2 A (p + 1))) with ⟨g1, g2⟩ | ⟨c, hc2, e, g1, g2⟩
  · rw [g1, g2, Option.bind_some, Option.bind_some, if_pos rfl, if_pos rfl, Option.bind_some]
    exact .inl ⟨M, or01 (.inl rfl), rfl⟩
  · rw [g1, g2, Option.bind_some, Option.bind_some, if_neg one_ne, if_neg one_ne, e, if_pos (inR20 hc2), if_pos (in3 hc2), cl3 hc2, nI_clamp (show c < 2 ^ 31 by omega), Option.bind_some]
    refine .inr ⟨_, upd r (3 + c) (nI (dg A (p + 3))), or01 (.inr rfl), rfl, N, T, n1, n2, I, fun d hd => ?_, n5, Up_hs hc2 K⟩
    show ∃ H', H' ≤ 9 ∧ upd M.1 c (nI (dg A (p + 3))) d = nI H'
    by_cases e : d = c
    · subst e; rw [pk_us]; exact ⟨_, d9, rfl⟩
    · rw [pk_un e]; exact n4 d hd
theorem done_f (X : TeX5 f A k) (hp : p < k) (hc : A p = 102) (h1 : fitB A k 100 (p + 1) = true) (q0 : q 0 = nI (dg A (p + 1))) (hM : LOK M r N T) : StR v r q pl (f_X2_comes (f, nI k, z) (nI p) M) (f_X6_isDone (vl v r q pl) (102 : Int32)) := by
  have hk := X.1
  obtain ⟨n1, n2, I, n4, n5, K⟩ := hM
  have x1 := (X.2 p hp).1
  rw [hc] at x1
  have d9 := dg_9 h1
  unfold f_X2_comes f_X6_isDone
  rw [if_pos (inR96 (show p < 96 by omega)), nI_clamp (show p < 2 ^ 31 by omega), show (f, nI k, z).1 p = nI 102 from x1, if_neg (show ¬ nI 102 = (99 : Int32) by decide), if_neg (show ¬ nI 102 = (104 : Int32) by decide), if_neg (show ¬ nI 102 = (109 : Int32) by decide), if_neg (show ¬ nI 102 = (110 : Int32) by decide), if_neg (show ¬ nI 102 = (117 : Int32) by decide), if_neg (show ¬ nI 102 = (119 : Int32) by decide), nI_1, digit5 X z h1, Option.bind_some, if_pos i30, nm, if_pos i31, nm, z71_0, if_neg (show ¬ (102 : Int32) = 99 by decide), if_pos (rfl : (102 : Int32) = 102), show (vl v r q pl).2.2.2.2.2.2.2.1 0 = nI (dg A (p + 1)) from q0, if_pos r71_2, z71_2]
  obtain ⟨i1, i2, i3, i4, i5, i6⟩ := I
  exact .inr ⟨_, upd r 2 (nI (dg A (p + 1))), rfl, rfl, N, T, n1, n2, ⟨i1, i2, i3, i4, ⟨_, d9, rfl⟩, i6⟩, n4, n5, Up_fg K⟩
theorem done_h (X : TeX5 f A k) (hp : p < k) (hc : A p = 104) (h1 : fitB A k 107 (p + 1) = true) (h2 : fitB A k 100 (p + 2) = true) (h3 : fitB A k 100 (p + 3) = true) (h4 : fitB A k 100 (p + 4) = true) (q0 : q 0 = nI (kdN (A (p + 1)))) (q1 : q 1 = nI (dg A (p + 2))) (q2 : q 2 = nI (num2 A (p + 3))) (hM : LOK M r N T) : StR v r q pl (f_X2_comes (f, nI k, z) (nI p) M) (f_X6_isDone (vl v r q pl) (104 : Int32)) := by
  have hk := X.1
  obtain ⟨n1, n2, I, n4, n5, K⟩ := hM
  have x1 := (X.2 p hp).1
  rw [hc] at x1
  have d9 := dg_9 h2
  have hr : r 0 = nI N := K.1.trans I.1
  unfold f_X2_comes f_X6_isDone
  rw [if_pos (inR96 (show p < 96 by omega)), nI_clamp (show p < 2 ^ 31 by omega), show (f, nI k, z).1 p = nI 104 from x1, if_neg (show ¬ nI 104 = (99 : Int32) by decide), if_pos (show nI 104 = (104 : Int32) from rfl), show M.2.2.2.2.2.1 = nI N from I.1, nI_1, kind5 X z h1, Option.bind_some, show nI p + (2 : Int32) = nI (p + 2) from nI_add p 2, digit5 X z h2, Option.bind_some, show nI p + (3 : Int32) = nI (p + 3) from nI_add p 3, two5 X z h3 h4, Option.bind_some, if_pos i30, nm, if_pos i31, nm, z71_0, z71_1, z71_2, if_neg (show ¬ (104 : Int32) = 99 by decide), if_neg (show ¬ (104 : Int32) = 102 by decide), if_pos (rfl : (104 : Int32) = 104), show (vl v r q pl).2.2.2.2.2.2.2.1 0 = nI (kdN (A (p + 1))) from q0, show (vl v r q pl).2.2.2.2.2.2.2.1 1 = nI (dg A (p + 2)) from q1, show (vl v r q pl).2.2.2.2.2.2.2.1 2 = nI (num2 A (p + 3)) from q2, if_pos i32, if_pos r71_0, show (vl v r q pl).1 0 = nI N from hr]
  rcases cl6 (nI (num2 A (p + 3))) with ⟨g1, g2⟩ | ⟨c, hc2, e, g1, g2⟩
  · rw [g2, Option.bind_some, if_pos rfl]
    by_cases y : 7 ≤ N
    · rw [if_pos (show (7 : Int32) ≤ nI N from nI_le (a := 7) y (by omega))]
      exact .inl ⟨M, rfl, rfl⟩
    · rw [if_neg (show ¬ (7 : Int32) ≤ nI N from nI_ge (b := 7) (by omega) (by decide))]
      have ha : f_X1_addHouse M (nI (kdN (A (p + 1)))) (nI (dg A (p + 2))) (nI (num2 A (p + 3))) = some (0, M) := by
        unfold f_X1_addHouse
        rw [show M.2.2.2.2.2.1 = nI N from I.1, if_neg (show ¬ (8 : Int32) ≤ nI N from nI_ge (b := 8) (by omega) (by decide)), g1, Option.bind_some, if_pos rfl]
      rw [ha, Option.bind_some, if_pos rfl]
      exact .inl ⟨M, rfl, rfl⟩
  · rw [g2, Option.bind_some, if_neg one_ne]
    by_cases y : 7 ≤ N
    · obtain rfl : N = 7 := by omega
      rw [if_pos (show (7 : Int32) ≤ nI 7 by decide), if_pos (show nI 7 = (7 : Int32) from rfl)]
      exact .inl ⟨M, rfl, rfl⟩
    · rw [if_neg (show ¬ (7 : Int32) ≤ nI N from nI_ge (b := 7) (by omega) (by decide)), if_neg (show ¬ nI N = (7 : Int32) from nz (n := 7) (by omega) (by decide) (by omega)), e, addHouse_k I (by omega) _ _ hc2, Option.bind_some, if_neg one_ne]
      rw [show f_X6_adds (vl v r q pl).1 (nI (kdN (A (p + 1)))) (nI (dg A (p + 2))) (nI c) = _ from adds_k I (show N < 8 by omega) K _ _ _, if_pos i32, Option.bind_some]
      refine .inr ⟨_, _, rfl, rfl, N + 1, T, by omega, n2, inv_ad I (by omega) _ (show dg A (p + 2) < 10 by omega) hc2, n4, fun o ho => ?_, rel_ad I (by omega) K _ _ _⟩
      show ∃ W, W ≤ 99 ∧ upd M.2.2.2.2.1 N 20 o = nI W
      by_cases eo : o = N
      · subst eo; rw [pk_us]; exact ⟨20, by decide, rfl⟩
      · rw [pk_un eo]; exact n5 o (by omega)
theorem done_m (X : TeX5 f A k) (hp : p < k) (hc : A p = 109) (h1 : fitB A k 100 (p + 1) = true) (h2 : fitB A k 100 (p + 2) = true) (h3 : fitB A k 100 (p + 3) = true) (q0 : q 0 = nI (dg A (p + 1))) (q1 : q 1 = nI (num2 A (p + 2))) (hM : LOK M r N T) : StR v r q pl (f_X2_comes (f, nI k, z) (nI p) M) (f_X6_isDone (vl v r q pl) (109 : Int32)) := by
  have hk := X.1
  obtain ⟨n1, n2, I, n4, n5, K⟩ := hM
  have x1 := (X.2 p hp).1
  rw [hc] at x1
  unfold f_X2_comes f_X6_isDone f_X1_putHouse
  rw [if_pos (inR96 (show p < 96 by omega)), nI_clamp (show p < 2 ^ 31 by omega), show (f, nI k, z).1 p = nI 109 from x1, if_neg (show ¬ nI 109 = (99 : Int32) by decide), if_neg (show ¬ nI 109 = (104 : Int32) by decide), if_pos (show nI 109 = (109 : Int32) from rfl), nI_1, digit5 X z h1, Option.bind_some, show nI p + (2 : Int32) = nI (p + 2) from nI_add p 2, two5 X z h2 h3, Option.bind_some, if_pos i30, nm, if_pos i31, nm, z71_0, z71_1, if_neg (show ¬ (109 : Int32) = 99 by decide), if_neg (show ¬ (109 : Int32) = 102 by decide), if_neg (show ¬ (109 : Int32) = 104 by decide), if_pos (rfl : (109 : Int32) = 109), show (vl v r q pl).2.2.2.2.2.2.2.1 0 = nI (dg A (p + 1)) from q0, show (vl v r q pl).2.2.2.2.2.2.2.1 1 = nI (num2 A (p + 2)) from q1]
  rcases hs6 (v := vl v r q pl) I K (nI (dg A (p + 1))) with ⟨g1, g2⟩ | ⟨h, hh, eh, g1, g2⟩
  · rw [g1, g2, Option.bind_some, Option.bind_some, if_pos rfl, if_pos rfl, Option.bind_some]
    exact .inl ⟨M, or01 (.inl rfl), rfl⟩
  · rw [g1, g2, Option.bind_some, Option.bind_some, if_neg one_ne, if_neg one_ne]
    rcases cl6 (nI (num2 A (p + 2))) with ⟨a1, a2⟩ | ⟨c, hc2, e, a1, a2⟩
    · rw [a1, a2, Option.bind_some, Option.bind_some, if_pos rfl, if_pos rfl, Option.bind_some]
      exact .inl ⟨M, or01 (.inl rfl), rfl⟩
    · have h8 : h < 8 := by omega
      rw [a1, a2, Option.bind_some, Option.bind_some, if_neg one_ne, if_neg one_ne, e, eh, if_pos (inR8 hh I.2.1), of_2, Option.bind_some, Option.bind_some, if_pos (in71 h8 (show 2 < 6 by decide)), cl71 h8 (show 2 < 6 by decide), nI_clamp (show h < 2 ^ 31 by omega)]
      exact .inr ⟨_, upd r (23 + 6 * h + 2) (nI c), or01 (.inr rfl), rfl, N, T, n1, n2, inv_cs I hc2, n4, n5, Up_cs K⟩
theorem done_w (X : TeX5 f A k) (hp : p < k) (hc : A p = 119) (h1 : fitB A k 100 (p + 1) = true) (h2 : fitB A k 100 (p + 2) = true) (h3 : fitB A k 100 (p + 3) = true) (q0 : q 0 = nI (dg A (p + 1))) (q1 : q 1 = nI (num2 A (p + 2))) (hM : LOK M r N T) : StR v r q pl (f_X2_comes (f, nI k, z) (nI p) M) (f_X6_isDone (vl v r q pl) (119 : Int32)) := by
  have hk := X.1
  obtain ⟨n1, n2, I, n4, n5, K⟩ := hM
  have x1 := (X.2 p hp).1
  rw [hc] at x1
  have hH := num2_99 h2 h3
  unfold f_X2_comes f_X6_isDone f_X1_addWicks
  rw [if_pos (inR96 (show p < 96 by omega)), nI_clamp (show p < 2 ^ 31 by omega), show (f, nI k, z).1 p = nI 119 from x1, if_neg (show ¬ nI 119 = (99 : Int32) by decide), if_neg (show ¬ nI 119 = (104 : Int32) by decide), if_neg (show ¬ nI 119 = (109 : Int32) by decide), if_neg (show ¬ nI 119 = (110 : Int32) by decide), if_neg (show ¬ nI 119 = (117 : Int32) by decide), if_pos (show nI 119 = (119 : Int32) from rfl), nI_1, digit5 X z h1, Option.bind_some, show nI p + (2 : Int32) = nI (p + 2) from nI_add p 2, two5 X z h2 h3, Option.bind_some, if_pos i30, nm, if_pos i31, nm, z71_0, z71_1, if_neg (show ¬ (119 : Int32) = 99 by decide), if_neg (show ¬ (119 : Int32) = 102 by decide), if_neg (show ¬ (119 : Int32) = 104 by decide), if_neg (show ¬ (119 : Int32) = 109 by decide), if_neg (show ¬ (119 : Int32) = 117 by decide), if_pos (rfl : (119 : Int32) = 119), show (vl v r q pl).2.2.2.2.2.2.2.1 0 = nI (dg A (p + 1)) from q0, show (vl v r q pl).2.2.2.2.2.2.2.1 1 = nI (num2 A (p + 2)) from q1]
  rcases hs6 (v := vl v r q pl) I K (nI (dg A (p + 1))) with ⟨g1, g2⟩ | ⟨h, hh, eh, g1, g2⟩
  · rw [g1, g2, Option.bind_some, Option.bind_some, if_pos rfl, if_pos rfl, Option.bind_some]
    exact .inl ⟨M, or01 (.inl rfl), rfl⟩
  · have h8 : h < 8 := by omega
    obtain ⟨W, hW, eW⟩ := n5 h hh
    have g := K.2.2.2.2 h hh
    obtain ⟨H, hHe⟩ : ∃ H, H = num2 A (p + 2) := ⟨_, rfl⟩
    rw [← hHe] at hH ⊢
    have m1 : minI (99 : Int32) (nI W + nI H) = nI (if W + H ≤ 99 then W + H else 99) := by
      rw [nI_add]
      unfold minI
      by_cases y : W + H ≤ 99
      · rw [if_pos y]
        by_cases y2 : W + H = 99
        · rw [y2]; rfl
        · rw [if_pos (show nI (W + H) < (99 : Int32) from nI_lt (b := 99) (by omega) (by decide))]
      · rw [if_neg y, if_neg (show ¬ nI (W + H) < (99 : Int32) from nI_nlt (b := 99) (by omega) (by omega))]; rfl
    have m2 : f_X6_least (99 : Int32) (nI W + nI H) = some (nI (if W + H ≤ 99 then W + H else 99)) := by
      rw [nI_add, show (99 : Int32) = nI 99 from rfl, least_n (by decide) (by omega)]
      congr 2
      by_cases y : W + H ≤ 99
      · rw [if_pos y]
        by_cases y2 : 99 ≤ W + H
        · rw [if_pos y2]; omega
        · rw [if_neg y2]
      · rw [if_neg y, if_pos (by omega)]
    rw [g1, g2, Option.bind_some, Option.bind_some, if_neg one_ne, if_neg one_ne, eh, if_pos (inR8 hh I.2.1), if_pos (inR8 hh I.2.1), of_3, Option.bind_some, Option.bind_some, Option.bind_some, if_pos (in71 h8 (show 3 < 6 by decide)), cl71 h8 (show 3 < 6 by decide), nI_clamp (show h < 2 ^ 31 by omega), show (vl v r q pl).1 (23 + 6 * h + 3) = nI W from g.2.2.2.1.trans eW, show M.2.2.2.2.1 h = nI W from eW, m1, m2, Option.bind_some, if_pos (in71 h8 (show 3 < 6 by decide))]
    refine .inr ⟨_, upd r (23 + 6 * h + 3) (nI (if W + H ≤ 99 then W + H else 99)), or01 (.inr rfl), rfl, N, T, n1, n2, inv_wk I rfl rfl rfl rfl rfl rfl, n4, fun o ho => ?_, Up_wk K⟩
    show ∃ V, V ≤ 99 ∧ upd M.2.2.2.2.1 h _ o = nI V
    by_cases eo : o = h
    · subst eo; rw [pk_us]; exact ⟨_, by split <;> omega, rfl⟩
    · rw [pk_un eo]; exact n5 o ho
theorem done_u (X : TeX5 f A k) (hp : p < k) (hc : A p = 117) (h1 : fitB A k 100 (p + 1) = true) (q0 : q 0 = nI (dg A (p + 1))) (hM : LOK M r N T) : StR v r q pl (f_X2_comes (f, nI k, z) (nI p) M) (f_X6_isDone (vl v r q pl) (117 : Int32)) := by
  have hk := X.1
  obtain ⟨n1, n2, I, n4, n5, K⟩ := hM
  have x1 := (X.2 p hp).1
  rw [hc] at x1
  unfold f_X2_comes f_X6_isDone f_X1_switchCall
  rw [if_pos (inR96 (show p < 96 by omega)), nI_clamp (show p < 2 ^ 31 by omega), show (f, nI k, z).1 p = nI 117 from x1, if_neg (show ¬ nI 117 = (99 : Int32) by decide), if_neg (show ¬ nI 117 = (104 : Int32) by decide), if_neg (show ¬ nI 117 = (109 : Int32) by decide), if_neg (show ¬ nI 117 = (110 : Int32) by decide), if_pos (show nI 117 = (117 : Int32) from rfl), nI_1, digit5 X z h1, Option.bind_some, if_pos i30, nm, if_pos i31, nm, z71_0, if_neg (show ¬ (117 : Int32) = 99 by decide), if_neg (show ¬ (117 : Int32) = 102 by decide), if_neg (show ¬ (117 : Int32) = 104 by decide), if_neg (show ¬ (117 : Int32) = 109 by decide), if_pos (rfl : (117 : Int32) = 117), show (vl v r q pl).2.2.2.2.2.2.2.1 0 = nI (dg A (p + 1)) from q0]
  rcases hs6 (v := vl v r q pl) I K (nI (dg A (p + 1))) with ⟨g1, g2⟩ | ⟨h, hh, eh, g1, g2⟩
  · rw [g1, g2, Option.bind_some, Option.bind_some, if_pos rfl, if_pos rfl, Option.bind_some]
    exact .inl ⟨M, or01 (.inl rfl), rfl⟩
  · have h8 : h < 8 := by omega
    obtain ⟨C, hC, e, qq⟩ := cl_at I hh
    have I2 : InvL (clL M h) N T := by
      obtain ⟨i1, i2, i3, i4, i5, i6⟩ := I
      exact ⟨i1, i2, i3, ⟨C, hC, e⟩, i5, i6⟩
    have K2 := Up_cl I hh K
    rw [g1, g2, Option.bind_some, Option.bind_some, if_neg one_ne, if_neg one_ne, eh, of_4, Option.bind_some, Option.bind_some, if_pos (in71 h8 (show 4 < 6 by decide)), if_pos (in71 h8 (show 4 < 6 by decide)), cl71 h8 (show 4 < 6 by decide)]
    exact .inr ⟨_, upd r (23 + 6 * h + 4) (r (23 + 6 * h + 4) ^^^ 1), or01 (.inr rfl), rfl, N, T, n1, n2, I2, n4, n5, K2⟩
theorem done_n (X : TeX5 f A k) (hp : p < k) (hc : A p = 110) (h1 : fitB A k 100 (p + 1) = true) (h2 : fitB A k 100 (p + 2) = true) (q0 : q 0 = nI (num2 A (p + 1))) (hM : LOK M r N T) : StR v r q pl (f_X2_comes (f, nI k, z) (nI p) M) (f_X6_isDone (vl v r q pl) (110 : Int32)) := by
  have hk := X.1
  obtain ⟨n1, n2, I, n4, n5, K⟩ := hM
  have x1 := (X.2 p hp).1
  rw [hc] at x1
  have hH := num2_99 h1 h2
  unfold f_X2_comes f_X6_isDone
  rw [if_pos (inR96 (show p < 96 by omega)), nI_clamp (show p < 2 ^ 31 by omega), show (f, nI k, z).1 p = nI 110 from x1, if_neg (show ¬ nI 110 = (99 : Int32) by decide), if_neg (show ¬ nI 110 = (104 : Int32) by decide), if_neg (show ¬ nI 110 = (109 : Int32) by decide), if_pos (show nI 110 = (110 : Int32) from rfl), nI_1, two5 X z h1 h2, Option.bind_some, if_pos i30, nm, if_pos i31, nm, z71_0, if_neg (show ¬ (110 : Int32) = 99 by decide), if_neg (show ¬ (110 : Int32) = 102 by decide), if_neg (show ¬ (110 : Int32) = 104 by decide), if_neg (show ¬ (110 : Int32) = 109 by decide), if_neg (show ¬ (110 : Int32) = 117 by decide), if_neg (show ¬ (110 : Int32) = 119 by decide), show (vl v r q pl).2.2.2.2.2.2.2.1 0 = nI (num2 A (p + 1)) from q0]
  obtain ⟨H, hHe⟩ : ∃ H, H = num2 A (p + 1) := ⟨_, rfl⟩
  rw [← hHe] at hH ⊢
  by_cases y0 : H < 1
  · have g1 : f_X1_goBy M (nI H) = some (0, M) := by
      unfold f_X1_goBy
      rw [if_pos (show nI H < (1 : Int32) from nI_lt (b := 1) y0 (by decide))]
    have g2 : f_X6_isIn (nI H) (1 : Int32) (60 : Int32) = some 0 := by
      unfold f_X6_isIn
      rw [if_pos (show nI H < (1 : Int32) from nI_lt (b := 1) y0 (by decide))]
    rw [g1, g2, Option.bind_some, Option.bind_some, if_pos rfl]
    exact .inl ⟨M, or01 (.inl rfl), rfl⟩
  by_cases y6 : 60 < H
  · have g1 : f_X1_goBy M (nI H) = some (0, M) := by
      unfold f_X1_goBy
      rw [if_neg (show ¬ nI H < (1 : Int32) from nI_nlt (b := 1) (by omega) (by omega)), if_pos (show (60 : Int32) < nI H from nI_lt (a := 60) y6 (by omega))]
    have g2 : f_X6_isIn (nI H) (1 : Int32) (60 : Int32) = some 0 := by
      unfold f_X6_isIn
      rw [if_neg (show ¬ nI H < (1 : Int32) from nI_nlt (b := 1) (by omega) (by omega)), if_pos (show (60 : Int32) < nI H from nI_lt (a := 60) y6 (by omega))]
    rw [g1, g2, Option.bind_some, Option.bind_some, if_pos rfl]
    exact .inl ⟨M, or01 (.inl rfl), rfl⟩
  have g2 : f_X6_isIn (nI H) (1 : Int32) (60 : Int32) = some 1 := by
    unfold f_X6_isIn
    rw [if_neg (show ¬ nI H < (1 : Int32) from nI_nlt (b := 1) (by omega) (by omega)), if_neg (gt60 (by omega))]
  rw [goBy_k I n2 (show 1 ≤ H by omega) (show H ≤ 60 by omega), g2, Option.bind_some, Option.bind_some, if_neg one_ne, if_pos r71_1, z71_1, show (vl v r q pl).1 1 = nI T from K.2.1.trans I.2.2.2.2.2, nI_add]
  by_cases y9 : T + H ≤ 999
  · obtain ⟨r', e2, K2⟩ := nights6 I (show T + H < 2 ^ 31 by omega) (show H < 200 by omega) K
    rw [if_pos y9, if_pos (show nI (T + H) ≤ (999 : Int32) from nI_le (b := 999) y9 (by decide)), show f_X6_nightsOn (vl v r q pl).1 (nI H) = _ from e2, Option.bind_some, nm]
    exact .inr ⟨_, r', or01 (.inr rfl), rfl, N, T + H, n1, y9, inv_nights I H, by rw [nights_hs]; exact n4, nightss_wk I n5 H, K2⟩
  · rw [if_neg y9, if_neg (show ¬ nI (T + H) ≤ (999 : Int32) from nI_ge (a := 999) (by omega) (by omega))]
    exact .inl ⟨M, or01 (.inl rfl), rfl⟩
/-- any statement that stands in the text -/
theorem done_k (X : TeX5 f A k) (hp : p < k) (hs : (stF A k p).1 = true) (hq : NumOK A p q) (hM : LK M r) : StR v r q pl (f_X2_comes (f, nI k, z) (nI p) M) (f_X6_isDone (vl v r q pl) (nI (A p))) := by
  obtain ⟨N, T, hM⟩ := hM
  have hA := (X.2 p hp).2
  obtain ⟨a1, a2, a3, a4, a5⟩ := hq
  have g : fxF (A p) < 4 := by
    refine Classical.byContradiction fun g => ?_
    rw [show stF A k p = (false, p) from if_neg (fun z => g z.2)] at hs
    cases hs
  rw [show stF A k p = runF A k (FL (fxF (A p))) (p + 1) from if_pos ⟨hp, g⟩] at hs
  have ro := (run_ok A k _ _ hs).1
  rcases tab_fx _ hA g with c | c | c | c | c | c | c
  · rw [show fxF (A p) = 0 by rw [c]; rfl] at ro
    rw [c]
    exact done_c X hp c (ro 0 (by decide)) (ro 1 (by decide)) (ro 2 (by decide)) (a1 c).1 (a1 c).2 hM
  · rw [show fxF (A p) = 2 by rw [c]; rfl] at ro
    rw [c]
    exact done_f X hp c (ro 0 (by decide)) (a4 (.inr c)) hM
  · rw [show fxF (A p) = 1 by rw [c]; rfl] at ro
    rw [c]
    exact done_h X hp c (ro 0 (by decide)) (ro 1 (by decide)) (ro 2 (by decide)) (ro 3 (by decide)) (a2 c).1 (a2 c).2.1 (a2 c).2.2 hM
  · rw [show fxF (A p) = 0 by rw [c]; rfl] at ro
    rw [c]
    exact done_m X hp c (ro 0 (by decide)) (ro 1 (by decide)) (ro 2 (by decide)) (a3 (.inl c)).1 (a3 (.inl c)).2 hM
  · rw [show fxF (A p) = 3 by rw [c]; rfl] at ro
    rw [c]
    exact done_n X hp c (ro 0 (by decide)) (ro 1 (by decide)) (a5 c) hM
  · rw [show fxF (A p) = 2 by rw [c]; rfl] at ro
    rw [c]
    exact done_u X hp c (ro 0 (by decide)) (a4 (.inl c)) hM
  · rw [show fxF (A p) = 0 by rw [c]; rfl] at ro
    rw [c]
    exact done_w X hp c (ro 0 (by decide)) (ro 1 (by decide)) (ro 2 (by decide)) (a3 (.inr c)).1 (a3 (.inr c)).2 hM
end DO
end C5
