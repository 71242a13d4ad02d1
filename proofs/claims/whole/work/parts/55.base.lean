/-! pure: numbers, masks, loops -/
theorem fa_and (a b : Nat) : nI a &&& nI b = nI (a &&& b) := by
  apply Int32.toBitVec_inj.1
  show BitVec.ofNat 32 a &&& BitVec.ofNat 32 b = BitVec.ofNat 32 (a &&& b)
  apply BitVec.eq_of_getLsbD_eq
  intro i hi
  simp [hi]
theorem fa_or (a b : Nat) : nI a ||| nI b = nI (a ||| b) := by
  apply Int32.toBitVec_inj.1
  show BitVec.ofNat 32 a ||| BitVec.ofNat 32 b = BitVec.ofNat 32 (a ||| b)
  apply BitVec.eq_of_getLsbD_eq
  intro i hi
  simp [hi]
/-- a without b -/
def ndiff (a b : Nat) : Nat := a ^^^ (a &&& b)
theorem fa_diff (a b : Nat) : nI a &&& (nI b ^^^ (-1 : Int32)) = nI (ndiff a b) := by
  apply Int32.toBitVec_inj.1
  show BitVec.ofNat 32 a &&& (BitVec.ofNat 32 b ^^^ BitVec.allOnes 32) = BitVec.ofNat 32 (a ^^^ (a &&& b))
  apply BitVec.eq_of_getLsbD_eq
  intro i hi
  rw [BitVec.getLsbD_and, BitVec.getLsbD_xor, BitVec.getLsbD_allOnes, BitVec.getLsbD_ofNat, BitVec.getLsbD_ofNat, BitVec.getLsbD_ofNat, Nat.testBit_xor, Nat.testBit_and]
  simp only [hi, decide_true, Bool.true_and]
  cases a.testBit i <;> cases b.testBit i <;> rfl
theorem ndiff_tb (a b i : Nat) : (ndiff a b).testBit i = (a.testBit i && !b.testBit i) := by
  unfold ndiff
  rw [Nat.testBit_xor, Nat.testBit_and]
  cases a.testBit i <;> cases b.testBit i <;> rfl
theorem one_shl : ∀ h, h < 31 → (1 : Int32) <<< (nI h &&& 31) = nI (2 ^ h) := by decide +kernel
/-- the numbers below N of which p holds, as a number's bits -/
def mask (p : Nat → Bool) : Nat → Nat
  | 0 => 0
  | n + 1 => if p n then mask p n + 2 ^ n else mask p n
theorem mask_lt (p : Nat → Bool) : ∀ n, mask p n < 2 ^ n
  | 0 => Nat.one_pos
  | n + 1 => by
    have h := mask_lt p n
    unfold mask
    split <;> (rw [Nat.pow_succ]; omega)
theorem mask_256 (p : Nat → Bool) {n : Nat} (h : n ≤ 8) : mask p n < 256 := Nat.lt_of_lt_of_le (mask_lt p n) (Nat.pow_le_pow_right (by decide) h)
theorem mask_or (p : Nat → Bool) (n : Nat) (h : p n = true) : mask p n ||| 2 ^ n = mask p (n + 1) := by
  have h1 := Nat.two_pow_add_eq_or_of_lt (mask_lt p n) 1
  rw [Nat.mul_one] at h1
  rw [Nat.or_comm, ← h1, Nat.add_comm]
  simp [mask, h]
theorem mask_no (p : Nat → Bool) (n : Nat) (h : p n = false) : mask p (n + 1) = mask p n := by simp [mask, h]
theorem mask_tb (p : Nat → Bool) : ∀ n i, (mask p n).testBit i = (decide (i < n) && p i)
  | 0, i => by simp [mask]
  | n + 1, i => by
    have ih := mask_tb p n
    by_cases hp : p n = true
    · rw [← mask_or p n hp, Nat.testBit_or, ih, Nat.testBit_two_pow]
      by_cases hi : n = i
      · subst hi; simp [hp]
      · have : (i < n + 1) = (i < n) := by simp; omega
        simp [hi, this]
    · have hp : p n = false := by simpa using hp
      rw [mask_no p n hp, ih]
      by_cases hi : i = n
      · subst hi; simp [hp]
      · have : (i < n + 1) = (i < n) := by simp; omega
        simp [this]
theorem mask_ext {p q : Nat → Bool} : ∀ {n : Nat}, (∀ h, h < n → p h = q h) → mask p n = mask q n
  | 0, _ => rfl
  | n + 1, h => by
    unfold mask
    rw [mask_ext (fun k hk => h k (by omega)), h n (by omega)]
theorem mask_of_tb {m n : Nat} (h : m < 2 ^ n) : mask (fun i => m.testBit i) n = m := by
  apply Nat.eq_of_testBit_eq
  intro i
  rw [mask_tb]
  by_cases hi : i < n
  · simp [hi]
  · rw [Nat.testBit_lt_two_pow (Nat.lt_of_lt_of_le h (Nat.pow_le_pow_right (by decide) (by omega)))]
    simp [hi]
theorem mask_inj {p q : Nat → Bool} {n : Nat} (h : mask p n = mask q n) {i : Nat} (hi : i < n) : p i = q i := by
  have h1 := mask_tb p n i
  rw [h, mask_tb] at h1
  simpa [hi] using h1.symm
theorem mask_and (p q : Nat → Bool) (n : Nat) : mask p n &&& mask q n = mask (fun i => p i && q i) n := by
  apply Nat.eq_of_testBit_eq
  intro i
  rw [Nat.testBit_and, mask_tb, mask_tb, mask_tb]
  cases decide (i < n) <;> simp
theorem mask_un (p q : Nat → Bool) (n : Nat) : mask p n ||| mask q n = mask (fun i => p i || q i) n := by
  apply Nat.eq_of_testBit_eq
  intro i
  rw [Nat.testBit_or, mask_tb, mask_tb, mask_tb]
  cases decide (i < n) <;> simp
theorem mask_diff (p q : Nat → Bool) (n : Nat) : ndiff (mask p n) (mask q n) = mask (fun i => p i && !q i) n := by
  apply Nat.eq_of_testBit_eq
  intro i
  rw [ndiff_tb, mask_tb, mask_tb, mask_tb]
  cases decide (i < n) <;> simp
theorem mask_0 {p : Nat → Bool} {n : Nat} : mask p n = 0 ↔ ∀ i, i < n → p i = false := by
  constructor
  · intro h i hi
    have h1 := mask_tb p n i
    rw [h] at h1
    simpa [hi] using h1.symm
  · intro h
    rw [mask_ext (q := fun _ => false) h]
    apply Nat.eq_of_testBit_eq
    intro i
    rw [mask_tb]; simp
theorem nI_z {n : Nat} (h : n < 2 ^ 31) : (nI n = (0 : Int32)) ↔ n = 0 := nI_eq (b := 0) h (by decide)
/-- has -/
theorem tab_has5 : ∀ m, m < 256 → ∀ h, h < 8 → f_X5_has (nI m) (nI h) = some (if m.testBit h then 1 else 0) := by decide +kernel
theorem tab_has6 : ∀ m, m < 256 → ∀ h, h < 8 → f_X6_has (nI m) (nI h) = some (if m.testBit h then 1 else 0) := by decide +kernel
/-- how many bits -/
def pop : Nat → Nat := fun m => (List.range 8).countP (fun i => m.testBit i)
theorem tab_bits5 : ∀ m, m < 256 → f_J6_bitCount_0f7a4 (nI m) = some (nI (pop m)) := by decide +kernel
theorem tab_bits6 : ∀ m, m < 256 → f_X6_bits (nI m) = some (nI (pop m)) := by decide +kernel
theorem pop_le (m : Nat) : pop m ≤ 8 := by
  unfold pop
  exact Nat.le_trans (List.countP_le_length) (by simp)
/-! loops that end at a count, or before -/
def itE {σ ρ : Type} (step : Nat → σ → σ ⊕ ρ) : Nat → Nat → σ → σ ⊕ ρ
  | 0, _, s => .inl s
  | k + 1, i, s => match step i s with
    | .inl s' => itE step k (i + 1) s'
    | .inr r => .inr r
def outE {σ ρ τ : Type} (fin : σ → τ) (ret : ρ → τ) : σ ⊕ ρ → τ
  | .inl s => fin s
  | .inr r => ret r
theorem loopE {σ ρ τ : Type} (F : Nat → Nat → σ → τ) (N : Nat) (step : Nat → σ → σ ⊕ ρ) (fin : σ → τ) (ret : ρ → τ) (P : Nat → σ → Prop)
    (hend : ∀ n s, P N s → F (n + 1) N s = fin s) (hstep : ∀ n i s, i < N → P i s → F (n + 1) i s = match step i s with | .inl s' => F n (i + 1) s' | .inr r => ret r) (hpres : ∀ i s s', i < N → P i s → step i s = .inl s' → P (i + 1) s') :
    ∀ (fuel i : Nat) (s : σ), i ≤ N → N - i < fuel → P i s → F fuel i s = outE fin ret (itE step (N - i) i s)
  | 0, i, s, h1, h2, h3 => absurd h2 (Nat.not_lt_zero _)
  | n + 1, i, s, h1, h2, h3 => by
    by_cases hi : i = N
    · subst hi
      rw [hend n s h3, Nat.sub_self]
      rfl
    · have hlt : i < N := by omega
      rw [hstep n i s hlt h3, show N - i = (N - (i + 1)) + 1 by omega]
      unfold itE
      cases hs : step i s with
      | inl s' => exact loopE F N step fin ret P hend hstep hpres n (i + 1) s' hlt (by omega) (hpres i s s' hlt h3 hs)
      | inr r => rfl
/-- the states of a loop that never ends before its count -/
def itF {σ : Type} (step : Nat → σ → σ) : Nat → Nat → σ → σ
  | 0, _, s => s
  | k + 1, i, s => itF step k (i + 1) (step i s)
theorem loopF {σ τ : Type} (F : Nat → Nat → σ → τ) (N : Nat) (step : Nat → σ → σ) (fin : σ → τ) (P : Nat → σ → Prop)
    (hend : ∀ n s, P N s → F (n + 1) N s = fin s) (hstep : ∀ n i s, i < N → P i s → F (n + 1) i s = F n (i + 1) (step i s)) (hpres : ∀ i s, i < N → P i s → P (i + 1) (step i s)) :
    ∀ (fuel i : Nat) (s : σ), i ≤ N → N - i < fuel → P i s → F fuel i s = fin (itF step (N - i) i s)
  | 0, i, s, h1, h2, h3 => absurd h2 (Nat.not_lt_zero _)
  | n + 1, i, s, h1, h2, h3 => by
    by_cases hi : i = N
    · subst hi
      rw [hend n s h3, Nat.sub_self]
      rfl
    · have hlt : i < N := by omega
      rw [hstep n i s hlt h3, show N - i = (N - (i + 1)) + 1 by omega]
      unfold itF
      exact loopF F N step fin P hend hstep hpres n (i + 1) _ hlt (by omega) (hpres i s hlt h3)
/-- a loop told by an invariant that fixes the state: the state at i is S i -/
theorem loopS {σ τ : Type} (F : Nat → Nat → σ → τ) (N : Nat) (S : Nat → σ) (fin : τ)
    (hend : ∀ n, F (n + 1) N (S N) = fin) (hstep : ∀ n i, i < N → F (n + 1) i (S i) = F n (i + 1) (S (i + 1))) :
    ∀ (fuel i : Nat), i ≤ N → N - i < fuel → F fuel i (S i) = fin
  | 0, i, h1, h2 => absurd h2 (Nat.not_lt_zero _)
  | n + 1, i, h1, h2 => by
    by_cases hi : i = N
    · subst hi; exact hend n
    · have hlt : i < N := by omega
      rw [hstep n i hlt]
      exact loopS F N S fin hend hstep n (i + 1) hlt (by omega)
theorem ge_N {i N : Nat} (hN : N < 2 ^ 31) (h : i < N) : ¬ nI N ≤ nI i := nI_ge h hN
theorem le_self (N : Nat) : nI N ≤ nI N := Int32.le_refl _
