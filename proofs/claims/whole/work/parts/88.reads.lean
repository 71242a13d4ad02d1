/-! pure: the reference reads a statement -/
def NumOK (A : Nat → Nat) (p : Nat) (q : Nat → Int32) : Prop := (A p = 99 → q 0 = nI (num2 A (p + 1)) ∧ q 1 = nI (dg A (p + 3))) ∧ (A p = 104 → q 0 = nI (kdN (A (p + 1))) ∧ q 1 = nI (dg A (p + 2)) ∧ q 2 = nI (num2 A (p + 3))) ∧ (A p = 109 ∨ A p = 119 → q 0 = nI (dg A (p + 1)) ∧ q 1 = nI (num2 A (p + 2))) ∧ (A p = 117 ∨ A p = 102 → q 0 = nI (dg A (p + 1))) ∧ (A p = 110 → q 0 = nI (num2 A (p + 1)))
theorem ft_ne : ¬ (false = true) := by decide
section RS
variable {v : MW} {A : Nat → Nat} {k : Nat}
theorem here6 (X : TX v A k) (r q : Nat → Int32) {p : Nat} (hp : p < 2 ^ 31) : f_X6_here (vl v r q (nI p)) = some (hereN A k p) := by
  have e : f_X6_here (vl v r q (nI p)) = if v.2.2.2.2.2.2.2.2.2.2.1 ≤ nI p then some (-1 : Int32) else if inR (nI p) 96 then some (v.2.2.2.2.1 (nI p).toNatClampNeg) else none := rfl
  have hk := X.2.1
  rw [e, X.1]
  unfold hereN
  by_cases h : k ≤ p
  · rw [if_pos (nI_le h hp), if_pos h]
  · rw [if_neg (nI_ge (by omega) (by omega)), if_neg h, if_pos (inR96 (by omega)), nI_clamp hp, (X.2.2 p (by omega)).1]
theorem dig6 (X : TX v A k) (p : Nat) : f_X6_isIn (hereN A k p) (48 : Int32) (57 : Int32) = some (b01 (fitB A k 100 p)) := by
  unfold hereN fitB
  by_cases h : k ≤ p
  · rw [if_pos h, decide_eq_false (by omega), Bool.false_and]
    exact tab_dig1
  · rw [if_neg h, decide_eq_true (by omega), Bool.true_and]
    exact tab_dig _ (X.2.2 p (by omega)).2
theorem fit100 {p : Nat} (h : fitB A k 100 p = true) : p < k ∧ 48 ≤ A p ∧ A p ≤ 57 := by
  unfold fitB fitC at h
  simp only [↓reduceIte, Bool.and_eq_true, decide_eq_true_eq] at h
  exact ⟨h.1, h.2.1, h.2.2⟩
theorem fit59 (p : Nat) : fitB A k 59 p = (decide (p < k) && decide (A p = 59)) := rfl
theorem fit107 (p : Nat) : fitB A k 107 p = (decide (p < k) && isKd (A p)) := rfl
theorem dg_9 {p : Nat} (h : fitB A k 100 p = true) : dg A p ≤ 9 := by
  have := fit100 h
  unfold dg
  omega
theorem inR3 {j : Nat} (h : j < 3) : inR (nI j) 3 = true := inR_nI h (by decide)
theorem rn9 (X : TX v A k) (r : Nat → Int32) {j d : Nat} (hj : j < 3) (hd : d < 10) : ∀ (m n s p x : Nat) (q : Nat → Int32), s + m = d → m < n → p + m < 2 ^ 31 → q j = nI x → ∃ q', f_X6_readsNumber_9 (nI d) (nI j) n (nI s) (vl v r q (nI p)) = some (b01 (rnF A k m p x).1, vl v r q' (nI (rnF A k m p x).2.1)) ∧ q' j = nI (rnF A k m p x).2.2 ∧ ∀ i, i ≠ j → q' i = q i
  | 0, n, s, p, x, q, h1, h2, _, h3 => by
    obtain ⟨n, rfl⟩ : ∃ m, n = m + 1 := ⟨n - 1, by omega⟩
    obtain rfl : s = d := by omega
    rw [f_X6_readsNumber_9, if_pos (le_self s)]
    exact ⟨q, rfl, h3, fun i _ => rfl⟩
  | m + 1, n, s, p, x, q, h1, h2, hp, h3 => by
    obtain ⟨n, rfl⟩ : ∃ m, n = m + 1 := ⟨n - 1, by omega⟩
    rw [f_X6_readsNumber_9, if_neg (ge_N (by omega) (by omega)), here6 X r q (by omega), Option.bind_some, dig6 X p, Option.bind_some, rnF]
    cases z : fitB A k 100 p with
    | false =>
      rw [if_pos b01f, if_neg ft_ne]
      exact ⟨q, rfl, h3, fun i _ => rfl⟩
    | true =>
      have fz := fit100 z
      have hh : hereN A k p = nI (A p) := if_neg (by omega)
      rw [if_neg b01t, if_pos rfl, if_pos (inR3 hj), Option.bind_some, if_pos (inR3 hj), hh, nI_clamp (show j < 2 ^ 31 by omega)]
      have hv : ((10 : Int32) * q j + nI (A p)) - (48 : Int32) = nI (10 * x + dg A p) := by
        rw [h3, show (10 : Int32) * nI x = nI (10 * x) from pk_mul 10 x, nI_add, show (48 : Int32) = nI 48 from rfl, pk_sub (by omega)]
        unfold dg
        congr 1
        omega
      rw [show (vl v r q (nI p)).2.2.2.2.2.2.2.1 j = q j from rfl, hv, nI_1]
      obtain ⟨q', e1, e2, e3⟩ := rn9 X r hj hd m n (s + 1) (p + 1) (10 * x + dg A p) (upd q j (nI (10 * x + dg A p))) (by omega) (by omega) (by omega) pk_us
      rw [show vl v r (upd q j (nI (10 * x + dg A p))) (nI (p + 1)) = vl v r (upd q j (nI (10 * x + dg A p))) (nI p + 1) by rw [nI_1]] at e1
      exact ⟨q', e1, e2, fun i hi => (e3 i hi).trans (pk_un hi)⟩
theorem rn_k (X : TX v A k) (r q : Nat → Int32) {j d p : Nat} {x1 x2 : Int32} (h1 : x1 = nI j) (h2 : x2 = nI d) (hj : j < 3) (hd : d < 10) (hp : p < 1000) : ∃ q', f_X6_readsNumber (vl v r q (nI p)) x1 x2 = some (b01 (rnF A k d p 0).1, vl v r q' (nI (rnF A k d p 0).2.1)) ∧ q' j = nI (rnF A k d p 0).2.2 ∧ ∀ i, i ≠ j → q' i = q i := by
  subst h1 h2
  obtain ⟨q', e1, e2, e3⟩ := rn9 X r hj hd d 200 0 p 0 (upd q j 0) (by omega) (by omega) (by omega) pk_us
  refine ⟨q', ?_, e2, fun i hi => (e3 i hi).trans (pk_un hi)⟩
  unfold f_X6_readsNumber
  rw [if_pos (inR3 hj), nI_clamp (show j < 2 ^ 31 by omega)]
  exact e1
theorem rn_1 {p : Nat} (h : (rnF A k 1 p 0).1 = true) : (rnF A k 1 p 0).2.1 = p + 1 ∧ (rnF A k 1 p 0).2.2 = dg A p := by
  unfold rnF at h ⊢
  by_cases z : fitB A k 100 p = true
  · rw [if_pos z]
    exact ⟨rfl, Nat.zero_add _⟩
  · rw [if_neg z] at h; cases h
theorem rn_2 {p : Nat} (h : (rnF A k 2 p 0).1 = true) : (rnF A k 2 p 0).2.1 = p + 2 ∧ (rnF A k 2 p 0).2.2 = num2 A p := by
  unfold rnF at h ⊢
  by_cases z : fitB A k 100 p = true
  · rw [if_pos z] at h ⊢
    unfold rnF at h ⊢
    by_cases y : fitB A k 100 (p + 1) = true
    · rw [if_pos y]
      refine ⟨rfl, ?_⟩
      show 10 * (10 * 0 + dg A p) + dg A (p + 1) = 10 * dg A p + dg A (p + 1)
      omega
    · rw [if_neg y] at h; cases h
  · rw [if_neg z] at h; cases h
theorem rn_le : ∀ (m p x : Nat), (rnF A k m p x).2.1 ≤ p + m
  | 0, p, x => Nat.le_refl _
  | m + 1, p, x => by
    unfold rnF
    by_cases z : fitB A k 100 p = true
    · rw [if_pos z]
      have := rn_le m (p + 1) (10 * x + dg A p)
      omega
    · rw [if_neg z]
      show p ≤ _
      omega
def edF (A : Nat → Nat) (k : Nat) (b : Bool) (e : Nat) : Bool × Nat := if b = true then runF A k [59] e else (false, e)
theorem end6 (X : TX v A k) (r q : Nat → Int32) {x : Int32} {b : Bool} (hx : x = b01 b) {p : Nat} (hp : p < 2000) : f_X6_readsStatement_236 x (vl v r q (nI p)) = some (b01 (edF A k b p).1, vl v r q (nI (edF A k b p).2)) := by
  subst hx
  unfold f_X6_readsStatement_236 edF
  cases b with
  | false => rw [if_pos b01f, if_neg ft_ne]; rfl
  | true =>
    rw [if_neg b01t, if_pos rfl, here6 X r q (by omega), Option.bind_some, runF, fit59]
    unfold hereN
    by_cases h : k ≤ p
    · rw [if_pos h, if_neg (show ¬ (-1 : Int32) = 59 by decide), decide_eq_false (show ¬ p < k by omega), Bool.false_and, if_neg ft_ne]
      rfl
    · have hA := (X.2.2 p (by omega)).2
      rw [if_neg h, decide_eq_true (show p < k by omega), Bool.true_and]
      by_cases z : A p = 59
      · rw [if_pos (show nI (A p) = (59 : Int32) by rw [z]; rfl), decide_eq_true z, if_pos rfl]
        show some ((1 : Int32), vl v r q (nI p + 1)) = some (b01 true, vl v r q (nI (p + 1)))
        rw [nI_1]
        rfl
      · rw [if_neg (show ¬ nI (A p) = (59 : Int32) from nz (n := 59) (by omega) (by decide) z), decide_eq_false z, if_neg ft_ne]
        rfl
theorem two_num (X : TX v A k) (r q : Nat → Int32) {j1 j2 d1 d2 p : Nat} {x1 x2 y1 y2 : Int32} (h1 : x1 = nI j1) (h2 : x2 = nI d1) (g1 : y1 = nI j2) (g2 : y2 = nI d2) (hj : j1 < 3) (hj2 : j2 < 3) (hne : j1 ≠ j2) (hd : d1 < 10) (hd2 : d2 < 10) (hp : p < 900) :
    ∃ q', (Option.bind (f_X6_readsNumber (vl v r q (nI p)) x1 x2) fun a => if a.1 = 0 then f_X6_readsStatement_236 (0 : Int32) a.2 else Option.bind (f_X6_readsNumber a.2 y1 y2) fun b => if b.1 = 0 then f_X6_readsStatement_236 (0 : Int32) b.2 else f_X6_readsStatement_236 (1 : Int32) b.2) = some (b01 (runF A k (List.replicate d1 100 ++ (List.replicate d2 100 ++ [59])) p).1, vl v r q' (nI (runF A k (List.replicate d1 100 ++ (List.replicate d2 100 ++ [59])) p).2)) ∧ ((runF A k (List.replicate d1 100 ++ (List.replicate d2 100 ++ [59])) p).1 = true → ((rnF A k d1 p 0).1 = true ∧ (rnF A k d2 (rnF A k d1 p 0).2.1 0).1 = true) ∧ q' j1 = nI (rnF A k d1 p 0).2.2 ∧ q' j2 = nI (rnF A k d2 (rnF A k d1 p 0).2.1 0).2.2 ∧ ∀ i, i ≠ j1 → i ≠ j2 → q' i = q i) := by
  obtain ⟨q1, a1, a2, a3⟩ := rn_k X r q h1 h2 hj hd (show p < 1000 by omega)
  rw [a1, Option.bind_some, run_rn A k (List.replicate d2 100 ++ [59]) d1 p 0]
  have l1 := rn_le (A := A) (k := k) d1 p 0
  cases b1 : (rnF A k d1 p 0).1 with
  | false =>
    rw [if_pos b01f, end6 X r q1 (x := 0) (b := false) rfl (by omega), if_neg ft_ne]
    exact ⟨q1, rfl, fun h => by cases h⟩
  | true =>
    rw [if_neg b01t, if_pos rfl]
    obtain ⟨q2, c1, c2, c3⟩ := rn_k X r q1 g1 g2 hj2 hd2 (show (rnF A k d1 p 0).2.1 < 1000 by omega)
    have l2 := rn_le (A := A) (k := k) d2 (rnF A k d1 p 0).2.1 0
    rw [c1, Option.bind_some, run_rn A k [59] d2 (rnF A k d1 p 0).2.1 0]
    cases b2 : (rnF A k d2 (rnF A k d1 p 0).2.1 0).1 with
    | false =>
      rw [if_pos b01f, end6 X r q2 (x := 0) (b := false) rfl (by omega), if_neg ft_ne]
      exact ⟨q2, rfl, fun h => by cases h⟩
    | true =>
      rw [if_neg b01t, if_pos rfl, end6 X r q2 (x := 1) (b := true) rfl (by omega)]
      exact ⟨q2, rfl, fun _ => ⟨⟨rfl, rfl⟩, (c3 j1 hne).trans a2, c2, fun i i1 i2 => (c3 i i2).trans (a3 i i1)⟩⟩
theorem one_num (X : TX v A k) (r q : Nat → Int32) {j1 d1 p : Nat} {x1 x2 : Int32} (h1 : x1 = nI j1) (h2 : x2 = nI d1) (hj : j1 < 3) (hd : d1 < 10) (hp : p < 900) :
    ∃ q', (Option.bind (f_X6_readsNumber (vl v r q (nI p)) x1 x2) fun a => nm a.1 fun x => f_X6_readsStatement_236 x a.2) = some (b01 (runF A k (List.replicate d1 100 ++ [59]) p).1, vl v r q' (nI (runF A k (List.replicate d1 100 ++ [59]) p).2)) ∧ ((runF A k (List.replicate d1 100 ++ [59]) p).1 = true → (rnF A k d1 p 0).1 = true ∧ q' j1 = nI (rnF A k d1 p 0).2.2) := by
  obtain ⟨q1, a1, a2, a3⟩ := rn_k X r q h1 h2 hj hd (show p < 1000 by omega)
  have l1 := rn_le (A := A) (k := k) d1 p 0
  rw [a1, Option.bind_some, run_rn A k [59] d1 p 0]
  simp only [nm]
  rw [end6 X r q1 rfl (by omega)]
  refine ⟨q1, rfl, fun h => ⟨?_, a2⟩⟩
  cases b1 : (rnF A k d1 p 0).1 with
  | false => rw [b1, if_neg ft_ne] at h; cases h
  | true => rfl
theorem kind6 (X : TX v A k) (r q : Nat → Int32) {p : Nat} (hp : p < 1000) : ∃ q', f_X6_readsKind (vl v r q (nI p)) = some (b01 (fitB A k 107 p), vl v r q' (nI (if fitB A k 107 p = true then p + 1 else p))) ∧ (fitB A k 107 p = true → q' 0 = nI (kdN (A p))) := by
  have i3 : inR (0 : Int32) 3 = true := by decide
  have z0 : (0 : Int32).toNatClampNeg = 0 := by decide
  unfold f_X6_readsKind
  rw [here6 X r q (by omega), Option.bind_some]
  have no : fitB A k 107 p = false → f_X6_kindBy (hereN A k p) = some (-9) := by
    intro h
    rw [fit107] at h
    unfold hereN
    by_cases z : k ≤ p
    · rw [if_pos z]; exact tab_kd61
    · rw [decide_eq_true (show p < k by omega), Bool.true_and] at h
      rw [if_neg z, tab_kd6 _ (X.2.2 p (by omega)).2, h, if_neg ft_ne]
  cases h : fitB A k 107 p with
  | false =>
    rw [no h, Option.bind_some, if_pos i3, if_pos i3, z0, pk_us, if_neg (show ¬ (0 : Int32) ≤ -9 by decide), if_pos i3, if_pos (show (-9 : Int32) < 0 by decide), if_neg ft_ne]
    refine ⟨upd q 0 (-9), ?_, fun h => by cases h⟩
    show some ((0 : Int32), vl v r (upd q 0 (-9)) (nI p + 0)) = some (b01 false, vl v r (upd q 0 (-9)) (nI p))
    rw [Int32.add_zero]
    rfl
  | true =>
    have h' := h
    rw [fit107, Bool.and_eq_true, decide_eq_true_eq] at h'
    have hc : kdN (A p) ≤ 5 := by unfold kdN; repeat' split <;> try omega
    have hk : f_X6_kindBy (hereN A k p) = some (nI (kdN (A p))) := by
      unfold hereN
      rw [if_neg (show ¬ k ≤ p by omega), tab_kd6 _ (X.2.2 p (by omega)).2, if_pos h'.2]
    rw [hk, Option.bind_some, if_pos i3, if_pos i3, z0, pk_us, if_pos (nI_pos' (by omega)), if_pos i3, if_neg (nI_pos (by omega)), if_pos rfl]
    refine ⟨upd q 0 (nI (kdN (A p))), ?_, fun _ => pk_us⟩
    show some ((1 : Int32), vl v r (upd q 0 (nI (kdN (A p)))) (nI p + 1)) = some (b01 true, vl v r (upd q 0 (nI (kdN (A p)))) (nI (p + 1)))
    rw [nI_1]
    rfl

theorem sw_99 (r q : Nat → Int32) (p : Nat) (h : f_X6_here (vl v r q (nI p)) = some (99 : Int32)) : f_X6_readsStatement (vl v r q (nI p)) = (Option.bind (f_X6_readsNumber (vl v r q (nI p + 1)) (0 : Int32) (2 : Int32)) fun a => if a.1 = 0 then f_X6_readsStatement_236 (0 : Int32) a.2 else Option.bind (f_X6_readsNumber a.2 (1 : Int32) (1 : Int32)) fun b => if b.1 = 0 then f_X6_readsStatement_236 (0 : Int32) b.2 else f_X6_readsStatement_236 (1 : Int32) b.2) := by
  unfold f_X6_readsStatement
  rw [h, Option.bind_some, if_pos (rfl : (99 : Int32) = 99)]
  rfl
theorem sw_102 (r q : Nat → Int32) (p : Nat) (h : f_X6_here (vl v r q (nI p)) = some (102 : Int32)) : f_X6_readsStatement (vl v r q (nI p)) = (Option.bind (f_X6_readsNumber (vl v r q (nI p + 1)) (0 : Int32) (1 : Int32)) fun a => nm a.1 fun x => f_X6_readsStatement_236 x a.2) := by
  unfold f_X6_readsStatement
  rw [h, Option.bind_some, if_neg (show ¬ (102 : Int32) = 99 by decide), if_neg (show ¬ (102 : Int32) = 100 by decide), if_neg (show ¬ (102 : Int32) = 101 by decide), if_pos (rfl : (102 : Int32) = 102)]
theorem sw_104 (r q : Nat → Int32) (p : Nat) (h : f_X6_here (vl v r q (nI p)) = some (104 : Int32)) : f_X6_readsStatement (vl v r q (nI p)) = (Option.bind (f_X6_readsKind (vl v r q (nI p + 1))) fun a => if a.1 = 0 then f_X6_readsStatement_236 (0 : Int32) a.2 else (Option.bind (f_X6_readsNumber a.2 (1 : Int32) (1 : Int32)) fun a => if a.1 = 0 then f_X6_readsStatement_236 (0 : Int32) a.2 else Option.bind (f_X6_readsNumber a.2 (2 : Int32) (2 : Int32)) fun b => if b.1 = 0 then f_X6_readsStatement_236 (0 : Int32) b.2 else f_X6_readsStatement_236 (1 : Int32) b.2)) := by
  unfold f_X6_readsStatement
  rw [h, Option.bind_some, if_neg (show ¬ (104 : Int32) = 99 by decide), if_neg (show ¬ (104 : Int32) = 100 by decide), if_neg (show ¬ (104 : Int32) = 101 by decide), if_neg (show ¬ (104 : Int32) = 102 by decide), if_neg (show ¬ (104 : Int32) = 103 by decide), if_pos (rfl : (104 : Int32) = 104)]
  rfl
theorem sw_109 (r q : Nat → Int32) (p : Nat) (h : f_X6_here (vl v r q (nI p)) = some (109 : Int32)) : f_X6_readsStatement (vl v r q (nI p)) = (Option.bind (f_X6_readsNumber (vl v r q (nI p + 1)) (0 : Int32) (1 : Int32)) fun a => if a.1 = 0 then f_X6_readsStatement_236 (0 : Int32) a.2 else Option.bind (f_X6_readsNumber a.2 (1 : Int32) (2 : Int32)) fun b => if b.1 = 0 then f_X6_readsStatement_236 (0 : Int32) b.2 else f_X6_readsStatement_236 (1 : Int32) b.2) := by
  unfold f_X6_readsStatement
  rw [h, Option.bind_some, if_neg (show ¬ (109 : Int32) = 99 by decide), if_neg (show ¬ (109 : Int32) = 100 by decide), if_neg (show ¬ (109 : Int32) = 101 by decide), if_neg (show ¬ (109 : Int32) = 102 by decide), if_neg (show ¬ (109 : Int32) = 103 by decide), if_neg (show ¬ (109 : Int32) = 104 by decide), if_neg (show ¬ (109 : Int32) = 105 by decide), if_neg (show ¬ (109 : Int32) = 106 by decide), if_neg (show ¬ (109 : Int32) = 107 by decide), if_neg (show ¬ (109 : Int32) = 108 by decide), if_pos (rfl : (109 : Int32) = 109)]
  rfl
theorem sw_110 (r q : Nat → Int32) (p : Nat) (h : f_X6_here (vl v r q (nI p)) = some (110 : Int32)) : f_X6_readsStatement (vl v r q (nI p)) = (Option.bind (f_X6_readsNumber (vl v r q (nI p + 1)) (0 : Int32) (2 : Int32)) fun a => nm a.1 fun x => f_X6_readsStatement_236 x a.2) := by
  unfold f_X6_readsStatement
  rw [h, Option.bind_some, if_neg (show ¬ (110 : Int32) = 99 by decide), if_neg (show ¬ (110 : Int32) = 100 by decide), if_neg (show ¬ (110 : Int32) = 101 by decide), if_neg (show ¬ (110 : Int32) = 102 by decide), if_neg (show ¬ (110 : Int32) = 103 by decide), if_neg (show ¬ (110 : Int32) = 104 by decide), if_neg (show ¬ (110 : Int32) = 105 by decide), if_neg (show ¬ (110 : Int32) = 106 by decide), if_neg (show ¬ (110 : Int32) = 107 by decide), if_neg (show ¬ (110 : Int32) = 108 by decide), if_neg (show ¬ (110 : Int32) = 109 by decide), if_pos (rfl : (110 : Int32) = 110)]
theorem sw_117 (r q : Nat → Int32) (p : Nat) (h : f_X6_here (vl v r q (nI p)) = some (117 : Int32)) : f_X6_readsStatement (vl v r q (nI p)) = (Option.bind (f_X6_readsNumber (vl v r q (nI p + 1)) (0 : Int32) (1 : Int32)) fun a => nm a.1 fun x => f_X6_readsStatement_236 x a.2) := by
  unfold f_X6_readsStatement
  rw [h, Option.bind_some, if_neg (show ¬ (117 : Int32) = 99 by decide), if_neg (show ¬ (117 : Int32) = 100 by decide), if_neg (show ¬ (117 : Int32) = 101 by decide), if_neg (show ¬ (117 : Int32) = 102 by decide), if_neg (show ¬ (117 : Int32) = 103 by decide), if_neg (show ¬ (117 : Int32) = 104 by decide), if_neg (show ¬ (117 : Int32) = 105 by decide), if_neg (show ¬ (117 : Int32) = 106 by decide), if_neg (show ¬ (117 : Int32) = 107 by decide), if_neg (show ¬ (117 : Int32) = 108 by decide), if_neg (show ¬ (117 : Int32) = 109 by decide), if_neg (show ¬ (117 : Int32) = 110 by decide), if_neg (show ¬ (117 : Int32) = 111 by decide), if_neg (show ¬ (117 : Int32) = 112 by decide), if_neg (show ¬ (117 : Int32) = 113 by decide), if_neg (show ¬ (117 : Int32) = 114 by decide), if_neg (show ¬ (117 : Int32) = 115 by decide), if_neg (show ¬ (117 : Int32) = 116 by decide), if_pos (rfl : (117 : Int32) = 117)]
theorem sw_119 (r q : Nat → Int32) (p : Nat) (h : f_X6_here (vl v r q (nI p)) = some (119 : Int32)) : f_X6_readsStatement (vl v r q (nI p)) = (Option.bind (f_X6_readsNumber (vl v r q (nI p + 1)) (0 : Int32) (1 : Int32)) fun a => if a.1 = 0 then f_X6_readsStatement_236 (0 : Int32) a.2 else Option.bind (f_X6_readsNumber a.2 (1 : Int32) (2 : Int32)) fun b => if b.1 = 0 then f_X6_readsStatement_236 (0 : Int32) b.2 else f_X6_readsStatement_236 (1 : Int32) b.2) := by
  unfold f_X6_readsStatement
  rw [h, Option.bind_some, if_neg (show ¬ (119 : Int32) = 99 by decide), if_neg (show ¬ (119 : Int32) = 100 by decide), if_neg (show ¬ (119 : Int32) = 101 by decide), if_neg (show ¬ (119 : Int32) = 102 by decide), if_neg (show ¬ (119 : Int32) = 103 by decide), if_neg (show ¬ (119 : Int32) = 104 by decide), if_neg (show ¬ (119 : Int32) = 105 by decide), if_neg (show ¬ (119 : Int32) = 106 by decide), if_neg (show ¬ (119 : Int32) = 107 by decide), if_neg (show ¬ (119 : Int32) = 108 by decide), if_neg (show ¬ (119 : Int32) = 109 by decide), if_neg (show ¬ (119 : Int32) = 110 by decide), if_neg (show ¬ (119 : Int32) = 111 by decide), if_neg (show ¬ (119 : Int32) = 112 by decide), if_neg (show ¬ (119 : Int32) = 113 by decide), if_neg (show ¬ (119 : Int32) = 114 by decide), if_neg (show ¬ (119 : Int32) = 115 by decide), if_neg (show ¬ (119 : Int32) = 116 by decide), if_neg (show ¬ (119 : Int32) = 117 by decide), if_neg (show ¬ (119 : Int32) = 118 by decide), if_pos (rfl : (119 : Int32) = 119)]
  rfl
theorem sw_o (r q : Nat → Int32) (p : Nat) {c : Int32} (h : f_X6_here (vl v r q (nI p)) = some c) (c1 : ¬ c = 99) (c2 : ¬ c = 102) (c3 : ¬ c = 104) (c4 : ¬ c = 109) (c5 : ¬ c = 110) (c6 : ¬ c = 117) (c7 : ¬ c = 119) : f_X6_readsStatement (vl v r q (nI p)) = some (0, vl v r q (nI p)) := by
  unfold f_X6_readsStatement
  rw [h, Option.bind_some]
  simp only [c1, c2, c3, c4, c5, c6, c7, ↓reduceIte, ite_self]
  show some ((0 : Int32), vl v r q (nI p + 1 - 1)) = _
  rw [Int32.add_sub_cancel]
theorem st_yes {p : Nat} (hp : p < k) {i : Nat} (h : fxF (A p) = i) (hi : i < 4) : stF A k p = runF A k (FL i) (p + 1) := by
  subst h
  exact if_pos ⟨hp, hi⟩
theorem reads6 (X : TX v A k) (r q : Nat → Int32) {p : Nat} (hp : p ≤ k) : ∃ q', f_X6_readsStatement (vl v r q (nI p)) = some (b01 (stF A k p).1, vl v r q' (nI (stF A k p).2)) ∧ ((stF A k p).1 = true → NumOK A p q') := by
  have hk := X.2.1
  have hh := here6 X r q (show p < 2 ^ 31 by omega)
  by_cases e : p = k
  · have hs : stF A k p = (false, p) := if_neg (fun z => by omega)
    rw [show hereN A k p = -1 from if_pos (by omega)] at hh
    rw [sw_o r q p hh (by decide) (by decide) (by decide) (by decide) (by decide) (by decide) (by decide), hs]
    exact ⟨q, rfl, fun h => by cases h⟩
  · have hlt : p < k := by omega
    have hA := (X.2.2 p hlt).2
    rw [show hereN A k p = nI (A p) from if_neg (by omega)] at hh
    by_cases g : fxF (A p) < 4
    rotate_left
    · obtain ⟨g0, g1, g2, g3, g4, g5, g6, g7⟩ := tab_fx4 _ hA g
      have hs : stF A k p = (false, p) := if_neg (fun z => g z.2)
      have nn : ∀ m : Nat, m < 200 → A p ≠ m → ¬ nI (A p) = nI m := fun m hm y => nz (by omega) (by omega) y
      rw [sw_o r q p hh (nn 99 (by decide) g1) (nn 102 (by decide) g2) (nn 104 (by decide) g3) (nn 109 (by decide) g4) (nn 110 (by decide) g5) (nn 117 (by decide) g6) (nn 119 (by decide) g7), hs]
      exact ⟨q, rfl, fun h => by cases h⟩
    · rcases tab_fx _ hA g with c | c | c | c | c | c | c
      · have hs : stF A k p = runF A k (FL 0) (p + 1) := st_yes hlt (by rw [c]; rfl) (by decide)
        rw [c] at hh
        rw [sw_99 r q p hh, nI_1, hs]
        obtain ⟨q', e1, e2⟩ := two_num X r q (j1 := 0) (d1 := 2) (j2 := 1) (d2 := 1) (p := p + 1) rfl rfl rfl rfl (by decide) (by decide) (by decide) (by decide) (by decide) (by omega)
        refine ⟨q', e1, fun h => ?_⟩
        obtain ⟨⟨b1, b2⟩, b3, b4, -⟩ := e2 h
        rw [(rn_2 b1).1] at b2 b4
        rw [(rn_2 b1).2] at b3
        rw [(rn_1 b2).2] at b4
        exact ⟨fun _ => ⟨b3, b4⟩, fun y => by omega, fun y => by omega, fun y => by omega, fun y => by omega⟩
      · have hs : stF A k p = runF A k (FL 2) (p + 1) := st_yes hlt (by rw [c]; rfl) (by decide)
        rw [c] at hh
        rw [sw_102 r q p hh, nI_1, hs]
        obtain ⟨q', e1, e2⟩ := one_num X r q (j1 := 0) (d1 := 1) (p := p + 1) rfl rfl (by decide) (by decide) (by omega)
        refine ⟨q', e1, fun h => ?_⟩
        obtain ⟨b1, b3⟩ := e2 h
        rw [(rn_1 b1).2] at b3
        exact ⟨fun y => by omega, fun y => by omega, fun y => by omega, fun _ => b3, fun y => by omega⟩
      · have hs : stF A k p = runF A k (FL 1) (p + 1) := st_yes hlt (by rw [c]; rfl) (by decide)
        rw [c] at hh
        rw [sw_104 r q p hh, nI_1, hs]
        obtain ⟨q0, k1, k2⟩ := kind6 X r q (p := p + 1) (by omega)
        rw [k1, Option.bind_some, show FL 1 = 107 :: (List.replicate 1 100 ++ (List.replicate 2 100 ++ [59])) from rfl, runF]
        cases z : fitB A k 107 (p + 1) with
        | false =>
          rw [if_pos b01f, if_neg ft_ne, if_neg ft_ne, end6 X r q0 (x := 0) (b := false) rfl (by omega)]
          exact ⟨q0, rfl, fun h => by cases h⟩
        | true =>
          rw [if_neg b01t, if_pos rfl, if_pos rfl]
          obtain ⟨q', e1, e2⟩ := two_num X r q0 (j1 := 1) (d1 := 1) (j2 := 2) (d2 := 2) (p := p + 1 + 1) rfl rfl rfl rfl (by decide) (by decide) (by decide) (by decide) (by decide) (by omega)
          refine ⟨q', e1, fun h => ?_⟩
          obtain ⟨⟨b1, b2⟩, b3, b4, b5⟩ := e2 h
          rw [(rn_1 b1).1] at b2 b4
          rw [(rn_1 b1).2] at b3
          rw [(rn_2 b2).2] at b4
          have b6 := (b5 0 (by decide) (by decide)).trans (k2 z)
          exact ⟨fun y => by omega, fun _ => ⟨b6, b3, b4⟩, fun y => by omega, fun y => by omega, fun y => by omega⟩
      · have hs : stF A k p = runF A k (FL 0) (p + 1) := st_yes hlt (by rw [c]; rfl) (by decide)
        rw [c] at hh
        rw [sw_109 r q p hh, nI_1, hs]
        obtain ⟨q', e1, e2⟩ := two_num X r q (j1 := 0) (d1 := 1) (j2 := 1) (d2 := 2) (p := p + 1) rfl rfl rfl rfl (by decide) (by decide) (by decide) (by decide) (by decide) (by omega)
        refine ⟨q', e1, fun h => ?_⟩
        obtain ⟨⟨b1, b2⟩, b3, b4, -⟩ := e2 h
        rw [(rn_1 b1).1] at b2 b4
        rw [(rn_1 b1).2] at b3
        rw [(rn_2 b2).2] at b4
        exact ⟨fun y => by omega, fun y => by omega, fun _ => ⟨b3, b4⟩, fun y => by omega, fun y => by omega⟩
      · have hs : stF A k p = runF A k (FL 3) (p + 1) := st_yes hlt (by rw [c]; rfl) (by decide)
        rw [c] at hh
        rw [sw_110 r q p hh, nI_1, hs]
        obtain ⟨q', e1, e2⟩ := one_num X r q (j1 := 0) (d1 := 2) (p := p + 1) rfl rfl (by decide) (by decide) (by omega)
        refine ⟨q', e1, fun h => ?_⟩
        obtain ⟨b1, b3⟩ := e2 h
        rw [(rn_2 b1).2] at b3
        exact ⟨fun y => by omega, fun y => by omega, fun y => by omega, fun y => by omega, fun _ => b3⟩
      · have hs : stF A k p = runF A k (FL 2) (p + 1) := st_yes hlt (by rw [c]; rfl) (by decide)
        rw [c] at hh
        rw [sw_117 r q p hh, nI_1, hs]
        obtain ⟨q', e1, e2⟩ := one_num X r q (j1 := 0) (d1 := 1) (p := p + 1) rfl rfl (by decide) (by decide) (by omega)
        refine ⟨q', e1, fun h => ?_⟩
        obtain ⟨b1, b3⟩ := e2 h
        rw [(rn_1 b1).2] at b3
        exact ⟨fun y => by omega, fun y => by omega, fun y => by omega, fun _ => b3, fun y => by omega⟩
      · have hs : stF A k p = runF A k (FL 0) (p + 1) := st_yes hlt (by rw [c]; rfl) (by decide)
        rw [c] at hh
        rw [sw_119 r q p hh, nI_1, hs]
        obtain ⟨q', e1, e2⟩ := two_num X r q (j1 := 0) (d1 := 1) (j2 := 1) (d2 := 2) (p := p + 1) rfl rfl rfl rfl (by decide) (by decide) (by decide) (by decide) (by decide) (by omega)
        refine ⟨q', e1, fun h => ?_⟩
        obtain ⟨⟨b1, b2⟩, b3, b4, -⟩ := e2 h
        rw [(rn_1 b1).1] at b2 b4
        rw [(rn_1 b1).2] at b3
        rw [(rn_2 b2).2] at b4
        exact ⟨fun y => by omega, fun y => by omega, fun _ => ⟨b3, b4⟩, fun y => by omega, fun y => by omega⟩
end RS
