/-! pure: a text, letter by letter -/
abbrev vl (v : MW) (r q : Nat → Int32) (pl : Int32) : MW := (r, v.2.1, v.2.2.1, v.2.2.2.1, v.2.2.2.2.1, v.2.2.2.2.2.1, v.2.2.2.2.2.2.1, q, v.2.2.2.2.2.2.2.2.1, v.2.2.2.2.2.2.2.2.2.1, v.2.2.2.2.2.2.2.2.2.2.1, v.2.2.2.2.2.2.2.2.2.2.2.1, pl, v.2.2.2.2.2.2.2.2.2.2.2.2.2)
def TX (v : MW) (A : Nat → Nat) (k : Nat) : Prop := v.2.2.2.2.2.2.2.2.2.2.1 = nI k ∧ k ≤ 96 ∧ ∀ i, i < k → v.2.2.2.2.1 i = nI (A i) ∧ A i < 256
def TeX5 (f : Nat → Int32) (A : Nat → Nat) (k : Nat) : Prop := k ≤ 96 ∧ ∀ i, i < k → f i = nI (A i) ∧ A i < 256
def hereN (A : Nat → Nat) (k p : Nat) : Int32 := if k ≤ p then -1 else nI (A p)
def isKd (c : Nat) : Bool := decide (c = 99) || decide (c = 116) || decide (c = 115) || decide (c = 108) || decide (c = 109) || decide (c = 111)
def kdN (c : Nat) : Nat := if c = 116 then 1 else if c = 115 then 2 else if c = 108 then 3 else if c = 109 then 4 else if c = 111 then 5 else 0
def fitC (fc c : Nat) : Bool := if fc = 100 then decide (48 ≤ c) && decide (c ≤ 57) else if fc = 107 then isKd c else decide (c = fc)
def fitB (A : Nat → Nat) (k fc p : Nat) : Bool := decide (p < k) && fitC fc (A p)
def dg (A : Nat → Nat) (p : Nat) : Nat := A p - 48
def num2 (A : Nat → Nat) (p : Nat) : Nat := 10 * dg A p + dg A (p + 1)
def runF (A : Nat → Nat) (k : Nat) : List Nat → Nat → Bool × Nat
  | [], p => (true, p)
  | fc :: F, p => if fitB A k fc p = true then runF A k F (p + 1) else (false, p)
def rnF (A : Nat → Nat) (k : Nat) : Nat → Nat → Nat → Bool × Nat × Nat
  | 0, p, x => (true, p, x)
  | m + 1, p, x => if fitB A k 100 p = true then rnF A k m (p + 1) (10 * x + dg A p) else (false, p, x)
def fxF (c : Nat) : Nat := if c = 99 then 0 else if c = 102 then 2 else if c = 104 then 1 else if c = 109 then 0 else if c = 110 then 3 else if c = 117 then 2 else if c = 119 then 0 else 4
def FL (i : Nat) : List Nat := if i = 0 then [100, 100, 100, 59] else if i = 1 then [107, 100, 100, 100, 59] else if i = 2 then [100, 59] else if i = 3 then [100, 100, 59] else []
def stF (A : Nat → Nat) (k p : Nat) : Bool × Nat := if p < k ∧ fxF (A p) < 4 then runF A k (FL (fxF (A p))) (p + 1) else (false, p)
theorem run_le (A : Nat → Nat) (k : Nat) : ∀ (F : List Nat) (p : Nat), p ≤ k → (runF A k F p).2 ≤ k
  | [], p, h => h
  | fc :: F, p, h => by
    unfold runF
    by_cases z : fitB A k fc p = true
    · rw [if_pos z]
      unfold fitB at z
      rw [Bool.and_eq_true, decide_eq_true_eq] at z
      exact run_le A k F (p + 1) (by omega)
    · rw [if_neg z]; exact h
theorem run_ok (A : Nat → Nat) (k : Nat) : ∀ (F : List Nat) (p : Nat), (runF A k F p).1 = true → (∀ i, i < F.length → fitB A k (F.getD i 0) (p + i) = true) ∧ (runF A k F p).2 = p + F.length
  | [], p, _ => ⟨fun i h => absurd h (Nat.not_lt_zero _), rfl⟩
  | fc :: F, p, h => by
    unfold runF at h ⊢
    by_cases z : fitB A k fc p = true
    · rw [if_pos z] at h ⊢
      obtain ⟨h1, h2⟩ := run_ok A k F (p + 1) h
      refine ⟨fun i hi => ?_, by rw [h2, List.length_cons]; omega⟩
      cases i with
      | zero => exact z
      | succ i =>
        have := h1 i (by rw [List.length_cons] at hi; omega)
        rw [show p + 1 + i = p + (i + 1) by omega] at this
        exact this
    · rw [if_neg z] at h; cases h
theorem run_rn (A : Nat → Nat) (k : Nat) (F : List Nat) : ∀ (m p x : Nat), runF A k (List.replicate m 100 ++ F) p = if (rnF A k m p x).1 = true then runF A k F (rnF A k m p x).2.1 else (false, (rnF A k m p x).2.1)
  | 0, p, x => rfl
  | m + 1, p, x => by
    rw [List.replicate_succ, List.cons_append, runF, rnF]
    by_cases z : fitB A k 100 p = true
    · rw [if_pos z, if_pos z]
      exact run_rn A k F m (p + 1) _
    · rw [if_neg z, if_neg z]
      rfl
theorem st_le (A : Nat → Nat) {k p : Nat} (h : p ≤ k) : (stF A k p).2 ≤ k := by
  unfold stF
  by_cases z : p < k ∧ fxF (A p) < 4
  · rw [if_pos z]; exact run_le A k _ _ (by omega)
  · rw [if_neg z]; exact h
/-! tables -/
theorem tab_dig : ∀ c, c < 256 → f_X6_isIn (nI c) (48 : Int32) (57 : Int32) = some (b01 (fitC 100 c)) := by decide +kernel
theorem tab_dig1 : f_X6_isIn (-1 : Int32) (48 : Int32) (57 : Int32) = some (b01 false) := by decide +kernel
theorem tab_fit100 : ∀ c, c < 256 → f_X2_fits (100 : Int32) (nI c) = some (b01 (fitC 100 c)) := by decide +kernel
theorem tab_fit107 : ∀ c, c < 256 → f_X2_fits (107 : Int32) (nI c) = some (b01 (fitC 107 c)) := by decide +kernel
theorem tab_fit59 : ∀ c, c < 256 → f_X2_fits (59 : Int32) (nI c) = some (b01 (fitC 59 c)) := by decide +kernel
theorem tab_form : ∀ c, c < 256 → f_X2_formBehind (nI c) = some (fxF c) := by decide +kernel
theorem tab_len : ∀ i, i < 5 → f_J0_length_8abf5 i = some (nI (FL i).length) ∧ f_J0_isEmpty_aae02 i = some (if i < 4 then 0 else 1) := by decide +kernel
theorem tab_char : ∀ i, i < 4 → ∀ j, j < (FL i).length → f_J0_charAt_5068e i (nI j) = some (nI ((FL i).getD j 0)) ∧ ((FL i).getD j 0 = 100 ∨ (FL i).getD j 0 = 107 ∨ (FL i).getD j 0 = 59) := by decide +kernel
theorem tab_kd5 : ∀ c, c < 256 → isKd c = true → f_J0_indexOf_0f7a4 5 (i2cI (nI c)) = some (nI (kdN c)) := by decide +kernel
theorem tab_kd6 : ∀ c, c < 256 → f_X6_kindBy (nI c) = some (if isKd c = true then nI (kdN c) else -9) := by decide +kernel
theorem tab_kd61 : f_X6_kindBy (-1 : Int32) = some (-9) := by decide +kernel
theorem tab_fx : ∀ c, c < 256 → fxF c < 4 → c = 99 ∨ c = 102 ∨ c = 104 ∨ c = 109 ∨ c = 110 ∨ c = 117 ∨ c = 119 := by decide +kernel
theorem tab_fx4 : ∀ c, c < 256 → ¬ fxF c < 4 → fxF c = 4 ∧ c ≠ 99 ∧ c ≠ 102 ∧ c ≠ 104 ∧ c ≠ 109 ∧ c ≠ 110 ∧ c ≠ 117 ∧ c ≠ 119 := by decide +kernel
theorem FL_len : ∀ i, (FL i).length ≤ 5 := by
  intro i
  unfold FL
  split
  · decide
  · split
    · decide
    · split
      · decide
      · split <;> decide
theorem fits_k {fc c : Nat} (hf : fc = 100 ∨ fc = 107 ∨ fc = 59) (hc : c < 256) : f_X2_fits (nI fc) (nI c) = some (b01 (fitC fc c)) := by
  rcases hf with rfl | rfl | rfl
  · exact tab_fit100 c hc
  · exact tab_fit107 c hc
  · exact tab_fit59 c hc
/-! the class's first look at a text -/
section BR
variable {f : Nat → Int32} {A : Nat → Nat} {k : Nat}
theorem br43 (X : TeX5 f A k) (k0 : Int32 → Option Int32) (z : Int32) {i : Nat} (hi : i < 4) : ∀ (n j m p : Nat), j + m = (FL i).length → m < n → p ≤ k → f_X2_brokenPlace_43 k0 i (f, nI k, z) n (nI j) (nI p) = if (runF A k ((FL i).drop j) p).1 = true then k0 (nI (runF A k ((FL i).drop j) p).2) else some (nI (runF A k ((FL i).drop j) p).2) := by
  have hk := X.1
  have h5 := FL_len i
  intro n
  induction n with
  | zero => intro j m p _ h2; exact absurd h2 (Nat.not_lt_zero _)
  | succ n ih =>
    intro j m p hj hm hp
    rw [f_X2_brokenPlace_43, (tab_len i (by omega)).1, Option.bind_some]
    by_cases e : j = (FL i).length
    · rw [if_pos (show nI (FL i).length ≤ nI j by rw [e]; exact le_self _), List.drop_of_length_le (by omega)]
      rfl
    · have hlt : j < (FL i).length := by omega
      have hd : (FL i).drop j = (FL i).getD j 0 :: (FL i).drop (j + 1) := by
        rw [List.drop_eq_getElem_cons hlt, List.getD_eq_getElem?_getD, List.getElem?_eq_getElem hlt]
        rfl
      obtain ⟨c1, c2⟩ := tab_char i hi j hlt
      rw [if_neg (ge_N (by omega) hlt), hd, runF]
      by_cases q : p = k
      · have hf : fitB A k ((FL i).getD j 0) p = false := by
          unfold fitB
          rw [decide_eq_false (by omega)]
          rfl
        rw [if_pos (show nI k ≤ nI p from nI_le (by omega) (by omega)), hf, if_neg (show ¬ (false = true) by decide), if_neg (show ¬ (false = true) by decide)]
      · have hpk : p < k := by omega
        obtain ⟨x1, x2⟩ := X.2 p hpk
        have hf : fitB A k ((FL i).getD j 0) p = fitC ((FL i).getD j 0) (A p) := by
          unfold fitB
          rw [decide_eq_true hpk]
          rfl
        rw [if_neg (show ¬ nI k ≤ nI p from nI_ge hpk (by omega)), c1, Option.bind_some, if_pos (inR96 (show p < 96 by omega)), nI_clamp (show p < 2 ^ 31 by omega), show (f, nI k, z).1 p = nI (A p) from x1, fits_k c2 x2, Option.bind_some, hf]
        cases g : fitC ((FL i).getD j 0) (A p) with
        | false => rw [if_pos b01f, if_neg (show ¬ (false = true) by decide), if_neg (show ¬ (false = true) by decide)]
        | true =>
          rw [if_neg b01t, if_pos rfl, nI_1, nI_1]
          exact ih (j + 1) (m - 1) (p + 1) (by omega) (by omega) (by omega)
/-- where the text breaks (left), or how many statements it has -/
def brkF (A : Nat → Nat) (k : Nat) : Nat → Nat → Nat → Nat ⊕ Nat
  | 0, p, _ => .inl p
  | n + 1, p, c => if (stF A k p).1 = true then (if (stF A k p).2 < k then brkF A k n (stF A k p).2 (c + 1) else .inr (c + 1)) else .inl (stF A k p).2
def codeF : Nat ⊕ Nat → Int32
  | .inl e => nI e
  | .inr _ => -1
theorem br11 (X : TeX5 f A k) (z : Int32) : ∀ (n p c : Nat), k - p < n → p < k → f_X2_brokenPlace_11 (f, nI k, z) n (nI p) = some (codeF (brkF A k n p c)) := by
  have hk := X.1
  intro n
  induction n with
  | zero => intro p c h2; exact absurd h2 (Nat.not_lt_zero _)
  | succ n ih =>
    intro p c hn hp
    obtain ⟨x1, x2⟩ := X.2 p hp
    have hfx : fxF (A p) < 5 := by
      by_cases g : fxF (A p) < 4
      · omega
      · have := (tab_fx4 _ x2 g).1
        omega
    rw [f_X2_brokenPlace_11, brkF, if_neg (show ¬ nI k ≤ nI p from nI_ge hp (by omega)), if_pos (inR96 (show p < 96 by omega)), nI_clamp (show p < 2 ^ 31 by omega), show (f, nI k, z).1 p = nI (A p) from x1, tab_form _ x2, Option.bind_some, (tab_len _ hfx).2, Option.bind_some]
    by_cases g : fxF (A p) < 4
    · have hst : stF A k p = runF A k (FL (fxF (A p))) (p + 1) := if_pos ⟨hp, g⟩
      have h43 := br43 X (fun a0 => f_X2_brokenPlace_11 (f, nI k, z) n a0) z g 200 0 (FL (fxF (A p))).length (p + 1) (by omega) (by have := FL_len (fxF (A p)); omega) (by omega)
      rw [List.drop_zero, ← hst] at h43
      rw [if_pos g, if_pos rfl, nI_1]
      rw [show f_X2_brokenPlace_43 (fun a0 => f_X2_brokenPlace_11 (f, nI k, z) n a0) (fxF (A p)) (f, nI k, z) 200 (0 : Int32) (nI (p + 1)) = _ from h43]
      by_cases y : (stF A k p).1 = true
      · have hle := st_le A (k := k) (p := p) (by omega)
        have he : p < (stF A k p).2 := by
          rw [hst] at y ⊢
          have := (run_ok A k _ _ y).2
          omega
        rw [if_pos y, if_pos y]
        by_cases u : (stF A k p).2 < k
        · rw [if_pos u]
          exact ih (stF A k p).2 (c + 1) (by omega) u
        · rw [if_neg u]
          obtain ⟨n, rfl⟩ : ∃ m, n = m + 1 := ⟨n - 1, by omega⟩
          rw [f_X2_brokenPlace_11, if_pos (show nI k ≤ nI (stF A k p).2 from nI_le (by omega) (by omega))]
          rfl
      · rw [if_neg y, if_neg y]
        rfl
    · have hst : stF A k p = (false, p) := if_neg (fun z => g z.2)
      rw [if_neg g, if_neg one_ne, hst, if_neg (show ¬ (false = true) by decide)]
      rfl
theorem broken5 (X : TeX5 f A k) (z : Int32) : f_X2_brokenPlace (f, nI k, z) = some (codeF (brkF A k 200 0 0)) := by
  have hk := X.1
  unfold f_X2_brokenPlace
  by_cases h : k = 0
  · subst h
    rw [if_pos (show nI 0 = 0 from rfl)]
    have : stF A 0 0 = (false, 0) := if_neg (fun z => absurd z.1 (Nat.not_lt_zero _))
    rw [show brkF A 0 200 0 0 = .inl 0 from by rw [brkF, this, if_neg (show ¬ (false = true) by decide)]]
    rfl
  · rw [if_neg (nI_ne0 (by omega) (by omega))]
    exact br11 X z 200 0 0 (by omega) (by omega)
end BR
