/-! pure: who hangs, as the reference finds it; its nights -/
def cntB (p : Nat → Bool) : Nat → Nat
  | 0 => 0
  | n + 1 => cntB p n + (if p n then 1 else 0)
theorem cntB_le (p : Nat → Bool) : ∀ n, cntB p n ≤ n
  | 0 => Nat.le_refl _
  | n + 1 => by
    have := cntB_le p n
    unfold cntB
    split <;> omega
theorem cntB_s (p : Nat → Bool) (n : Nat) : cntB p (n + 1) = cntB p n + (if p n = true then 1 else 0) := rfl
theorem anyB_s (p : Nat → Bool) (n : Nat) : anyB p (n + 1) = (anyB p n || p n) := rfl
theorem cntB_mono {p q : Nat → Bool} : ∀ {n : Nat}, (∀ i, i < n → p i = true → q i = true) → cntB p n ≤ cntB q n
  | 0, _ => Nat.le_refl _
  | n + 1, h => by
    have h1 := cntB_mono (n := n) (fun i hi => h i (by omega))
    rw [cntB_s, cntB_s]
    have h2 := h n (by omega)
    cases hp : p n with
    | false => simp; omega
    | true => rw [h2 hp]; simp; exact h1
theorem cntB_lt {p q : Nat → Bool} : ∀ {n : Nat}, (∀ i, i < n → p i = true → q i = true) → (∃ i, i < n ∧ q i = true ∧ p i = false) → cntB p n < cntB q n
  | 0, _, ⟨i, h, _⟩ => absurd h (Nat.not_lt_zero _)
  | n + 1, h, ⟨i, h1, h2, h3⟩ => by
    rw [cntB_s, cntB_s]
    by_cases e : i = n
    · subst e
      have := cntB_mono (n := i) (fun j hj => h j (by omega))
      rw [h2, h3]
      simp
      omega
    · have := cntB_lt (n := n) (fun j hj => h j (by omega)) ⟨i, by omega, h2, h3⟩
      have h4 := h n (by omega)
      cases hp : p n with
      | false => simp; omega
      | true => rw [h4 hp]; simp; exact this
section MH
variable {r : Nat → Int32} {L : LD} {N T : Nat} {ra : Nat → Int32}
theorem or_twice (m h : Nat) : (m ||| 2 ^ h) ||| 2 ^ h = m ||| 2 ^ h := by rw [Nat.or_assoc, Nat.or_self]
theorem mh_88 (I : InvL L N T) (K : Rel r L N ra) (k : Int32 → Int32 → Option Int32) {h : Nat} (hh : h < N) (q : Nat → Bool) (m : Nat) : f_X6_hangBy_88 k r (nI h) (nI (mask q N)) 200 (0 : Int32) (nI m) = k (nI (h + 1)) (nI (if anyB (fun o => q o && seesB L (eyeR L ra) h o) N then m ||| 2 ^ h else m)) := by
  have hN := I.2.1
  refine loopS (fun n i (s : Nat) => f_X6_hangBy_88 k r (nI h) (nI (mask q N)) n (nI i) (nI s)) N (fun i => if anyB (fun o => q o && seesB L (eyeR L ra) h o) i then m ||| 2 ^ h else m) _ ?_ ?_ 200 0 (Nat.zero_le _) (by omega)
  · intro n
    show f_X6_hangBy_88 k r _ _ (n + 1) (nI N) _ = _
    rw [f_X6_hangBy_88]
    simp only [r71_0, z71_0, K.1, I.1, le_self, ↓reduceIte, nI_1]
  · intro n i hi
    show f_X6_hangBy_88 k r _ _ (n + 1) (nI i) _ = f_X6_hangBy_88 k r _ _ n (nI (i + 1)) _
    rw [f_X6_hangBy_88]
    simp only [r71_0, z71_0, K.1, I.1, ge_N (show N < 2 ^ 31 by omega) hi, ↓reduceIte]
    rw [tab_has6 _ (mask_256 q hN) i (by omega), Option.bind_some, mask_tb, nI_1]
    simp only [hi, decide_true, Bool.true_and]
    rw [anyB_s]
    cases hq : q i with
    | false => simp
    | true =>
      rw [if_neg (by decide), sees6 I K hh hi, Option.bind_some]
      cases hs : seesB L (eyeR L ra) h i with
      | false => rw [if_pos b01f]; simp
      | true =>
        rw [if_neg b01t, nm, one_shl h (by omega), fa_or]
        simp only [Bool.and_self, Bool.or_true, ↓reduceIte]
        split
        · rw [or_twice]
        · rfl
abbrev hkR (L : LD) (ra : Nat → Int32) (p : Nat → Bool) (N k : Nat) : Nat → Bool := hangK (adjB L (eyeR L ra)) (seaB L (eyeR L ra)) p N k
abbrev fkR (L : LD) (ra : Nat → Int32) (p : Nat → Bool) (N k : Nat) : Nat → Bool := freshK (adjB L (eyeR L ra)) (seaB L (eyeR L ra)) p N k
theorem mh_any {p : Nat → Bool} {k h : Nat} (hk : hkR L ra p N k h = false) : anyB (fun o => hkR L ra p N k o && seesB L (eyeR L ra) h o) N = anyB (fun o => adjB L (eyeR L ra) h o && hkR L ra p N k o) N := by
  refine anyB_ext fun o ho => ?_
  unfold adjB
  by_cases e : o = h
  · subst e; simp [hk]
  · simp [e, Bool.and_comm]
theorem mh_56 (I : InvL L N T) (K : Rel r L N ra) (k1 : Int32 → Int32 → Option Int32) (p : Nat → Bool) (k : Nat) : f_X6_hangBy_56 k1 r (nI (mask (hkR L ra p N k) N)) (nI (mask p N)) 200 (0 : Int32) (0 : Int32) = k1 (nI (mask (fkR L ra p N (k + 1)) N)) (nI (mask (hkR L ra p N (k + 1)) N)) := by
  have hN := I.2.1
  refine loopS (fun n i (s : Nat) => f_X6_hangBy_56 k1 r (nI (mask (hkR L ra p N k) N)) (nI (mask p N)) n (nI i) (nI s)) N (fun i => mask (fkR L ra p N (k + 1)) i) _ ?_ ?_ 200 0 (Nat.zero_le _) (by omega)
  · intro n
    show f_X6_hangBy_56 k1 r _ _ (n + 1) (nI N) _ = _
    rw [f_X6_hangBy_56]
    simp only [r71_0, z71_0, K.1, I.1, le_self, ↓reduceIte, nm]
    rw [fa_or, mask_un, mask_ext (fun h _ => hang_step (adjB L (eyeR L ra)) (seaB L (eyeR L ra)) p N k h)]
  · intro n i hi
    show f_X6_hangBy_56 k1 r _ _ (n + 1) (nI i) _ = f_X6_hangBy_56 k1 r _ _ n (nI (i + 1)) _
    rw [f_X6_hangBy_56]
    simp only [r71_0, z71_0, K.1, I.1, ge_N (show N < 2 ^ 31 by omega) hi, ↓reduceIte]
    rw [tab_has6 _ (mask_256 p hN) i (by omega), Option.bind_some, mask_tb, nI_1, tab_has6 _ (mask_256 _ hN) i (by omega), Option.bind_some, mask_tb]
    simp only [hi, decide_true, Bool.true_and]
    have hst : ((p i && !hkR L ra p N k i) && anyB (fun o => adjB L (eyeR L ra) i o && fkR L ra p N k o) N) = fkR L ra p N (k + 1) i := fresh_step (adjB L (eyeR L ra)) (seaB L (eyeR L ra)) p N k i
    cases hp : p i with
    | false =>
      have : fkR L ra p N (k + 1) i = false := by rw [← hst, hp]; rfl
      rw [mask_no _ _ this]
      rfl
    | true =>
      rw [if_neg (by decide)]
      cases hk : hkR L ra p N k i with
      | true =>
        have : fkR L ra p N (k + 1) i = false := by rw [← hst, hk]; simp
        rw [mask_no _ _ this]
        rfl
      | false =>
        rw [if_pos (by rfl), mh_88 I K _ hi, mh_any hk, ← fresh_any (adjB L (eyeR L ra)) (seaB L (eyeR L ra)) p N hp hk]
        have h9 : anyB (fun o => adjB L (eyeR L ra) i o && freshK (adjB L (eyeR L ra)) (seaB L (eyeR L ra)) p N k o) N = fkR L ra p N (k + 1) i := by
          have h8 := hst
          rw [hp, hk] at h8
          simpa using h8
        rw [h9]
        cases hf : fkR L ra p N (k + 1) i with
        | false => rw [mask_no _ _ hf]; rfl
        | true => rw [← mask_or _ _ hf]; rfl
theorem mh_47 (I : InvL L N T) (K : Rel r L N ra) (p : Nat → Bool) : ∀ (n k : Nat), (k = 0 ∨ ∃ j, k = j + 1 ∧ j + 1 ≤ cntB (hkR L ra p N j) N) → N + 1 < n + k → f_X6_hangBy_47 r (nI (mask p N)) n (nI (mask (fkR L ra p N k) N)) (nI (mask (hkR L ra p N k) N)) = some (nI (mask (hangS L (eyeR L ra) N p) N))
  | 0, k, h1, h3 => by
    exfalso
    rcases h1 with h1 | ⟨j, h1, h2⟩
    · omega
    · have := cntB_le (hkR L ra p N j) N
      omega
  | n + 1, k, h1, h3 => by
    have hN := I.2.1
    have hkN : k ≤ N := by
      rcases h1 with h1 | ⟨j, h1, h2⟩
      · omega
      · have := cntB_le (hkR L ra p N j) N
        omega
    rw [f_X6_hangBy_47]
    have hm : mask (fkR L ra p N k) N < 256 := mask_256 _ hN
    by_cases hz : mask (fkR L ra p N k) N = 0
    · rw [if_pos ((nI_z (by omega)).mpr hz), mask_ext (fun h hh => fresh_none _ _ _ _ (mask_0.mp hz) hkN hh)]
      rfl
    · rw [if_neg (fun h9 => hz ((nI_z (by omega)).mp h9)), mh_56 I K]
      obtain ⟨i, hi, hf⟩ := anyB_iff.mp (mask_ne0.mp hz)
      refine mh_47 I K p n (k + 1) (Or.inr ⟨k, rfl, ?_⟩) (by omega)
      rcases h1 with h1 | ⟨j, h1, h2⟩
      · subst h1
        have := cntB_lt (p := fun _ => false) (q := hkR L ra p N 0) (n := N) (fun _ _ h => by cases h) ⟨i, hi, hf, rfl⟩
        omega
      · subst h1
        have hf2 : (hkR L ra p N (j + 1) i && !hkR L ra p N j i) = true := hf
        simp only [Bool.and_eq_true, Bool.not_eq_true'] at hf2
        have := cntB_lt (p := hkR L ra p N j) (q := hkR L ra p N (j + 1)) (n := N) (fun h _ q => hangK_mono _ _ _ _ q) ⟨i, hi, hf2.1, hf2.2⟩
        omega
theorem hangBy6 (I : InvL L N T) (K : Rel r L N ra) (p : Nat → Bool) : f_X6_hangBy r (nI (mask p N)) = some (nI (mask (hangS L (eyeR L ra) N p) N)) := by
  have hN := I.2.1
  unfold f_X6_hangBy
  refine loopS (fun n i (s : Nat) => f_X6_hangBy_4 r (nI (mask p N)) n (nI i) (nI s)) N (fun i => mask (hkR L ra p N 0) i) _ ?_ ?_ 200 0 (Nat.zero_le _) (by omega)
  · intro n
    show f_X6_hangBy_4 r _ (n + 1) (nI N) _ = _
    rw [f_X6_hangBy_4]
    simp only [r71_0, z71_0, K.1, I.1, le_self, ↓reduceIte]
    exact mh_47 I K p 200 0 (Or.inl rfl) (by omega)
  · intro n i hi
    show f_X6_hangBy_4 r _ (n + 1) (nI i) _ = f_X6_hangBy_4 r _ n (nI (i + 1)) _
    rw [f_X6_hangBy_4]
    simp only [r71_0, z71_0, K.1, I.1, ge_N (show N < 2 ^ 31 by omega) hi, ↓reduceIte]
    rw [tab_has6 _ (mask_256 p hN) i (by omega), Option.bind_some, mask_tb, nI_1]
    simp only [hi, decide_true, Bool.true_and]
    have e : hkR L ra p N 0 i = (p i && seaB L (eyeR L ra) i) := rfl
    cases hp : p i with
    | false =>
      rw [mask_no _ _ (by rw [e, hp]; rfl)]
      simp [nm, or_0]
    | true =>
      rw [if_neg (by decide), sea6 I K hi, Option.bind_some]
      cases hs : seaB L (eyeR L ra) i with
      | false => rw [if_pos b01f, nm, or_0, mask_no _ _ (by rw [e, hs]; simp)]
      | true => rw [if_neg b01t, nm, one_shl i (by omega), fa_or, mask_or _ _ (by rw [e, hp, hs]; rfl)]
/-- who hangs of a land as it is, with raised candles ra -/
def hangL (L : LD) (ra : Nat → Int32) (N : Nat) : Nat → Bool := hangS L (eyeR L ra) N (litB L)
theorem hangIn6 (I : InvL L N T) (hT : T < 2 ^ 31) (K : Rel r L N ra) : f_X6_hangIn r = some (nI (mask (hangL L ra N) N)) := by
  unfold f_X6_hangIn
  rw [lit6 I hT K, Option.bind_some, litM, hangBy6 I K, Option.bind_some]
  rfl
end MH
