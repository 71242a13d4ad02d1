/-! pure: fractions in least terms -/
theorem lc_0 : lg_cmp (lN 0) (0 : Int64) = 0 := by decide
theorem lc_p {b : Nat} (h0 : 0 < b) (hb : b < 2 ^ 63) : lg_cmp (lN b) (0 : Int64) = 1 := by
  unfold lg_cmp
  rw [if_pos (show lN b > (0 : Int64) from (pk_lLT (a := 0) (by decide) hb).2 h0)]
theorem lN_ne0 {b : Nat} (h0 : 0 < b) (hb : b < 2 ^ 63) : ¬ lN b = (0 : Int64) := fun z => by
  have := (pk_lEQ (b := 0) hb (by decide)).1 z
  omega
theorem gcd_step (a b : Nat) : Nat.gcd a b = Nat.gcd b (a % b) := by
  rw [Nat.gcd_comm a b, Nat.gcd_rec b a, Nat.gcd_comm]
theorem euclid5 : ∀ (k a b n s : Nat), b < 2 ^ k → a < 2 ^ 63 → k ≤ 40 → 2 * k + 1 ≤ n → s + 2 * k + 1 ≤ 100 → f_X5_commonDivisor_9 n (nI s) (lN b) (lN a) = some (lN (Nat.gcd a b))
  | 0, a, b, n, s, h1, h2, _, h3, h4 => by
    obtain rfl : b = 0 := by rw [Nat.pow_zero] at h1; omega
    obtain ⟨n, rfl⟩ : ∃ m, n = m + 1 := ⟨n - 1, by omega⟩
    rw [f_X5_commonDivisor_9, if_neg (show ¬ (100 : Int32) ≤ nI s from nI_ge (b := 100) (by omega) (by decide)), if_pos lc_0, Nat.gcd_zero_right]
  | k + 1, a, b, n, s, h1, h2, hk, h3, h4 => by
    have hp : 2 ^ (k + 1) ≤ 2 ^ 40 := Nat.pow_le_pow_right (by decide) hk
    have hps : 2 ^ (k + 1) = 2 * 2 ^ k := by rw [Nat.pow_succ, Nat.mul_comm]
    obtain ⟨n, rfl⟩ : ∃ m, n = m + 1 + 1 := ⟨n - 2, by omega⟩
    rw [f_X5_commonDivisor_9, if_neg (show ¬ (100 : Int32) ≤ nI s from nI_ge (b := 100) (by omega) (by decide))]
    by_cases z : b = 0
    · subst z
      rw [if_pos lc_0, Nat.gcd_zero_right]
    · have hb0 : 0 < b := by omega
      have hb : b < 2 ^ 63 := by omega
      rw [lc_p hb0 hb, if_neg one_ne, if_neg (lN_ne0 hb0 hb)]
      simp only [nm]
      rw [show remL (lN a) (lN b) = lN (a % b) from pk_lRem h2 hb0 hb, nI_1, gcd_step a b]
      have hr : a % b < b := Nat.mod_lt _ hb0
      obtain ⟨c, hc⟩ : ∃ c, c = a % b := ⟨_, rfl⟩
      rw [← hc] at hr ⊢
      rw [f_X5_commonDivisor_9, if_neg (show ¬ (100 : Int32) ≤ nI (s + 1) from nI_ge (b := 100) (by omega) (by decide))]
      by_cases y : c = 0
      · rw [y, if_pos lc_0, Nat.gcd_zero_right]
      · have hc0 : 0 < c := by omega
        have hc3 : c < 2 ^ 63 := by omega
        rw [lc_p hc0 hc3, if_neg one_ne, if_neg (lN_ne0 hc0 hc3)]
        simp only [nm]
        rw [show remL (lN b) (lN c) = lN (b % c) from pk_lRem hb hc0 hc3, nI_1, gcd_step b c]
        have h5 : b % c < c := Nat.mod_lt _ hc0
        have h6 : 2 * (b % c) < b := by
          have e := Nat.div_add_mod b c
          have q : 1 ≤ b / c := (Nat.le_div_iff_mul_le hc0).2 (by omega)
          have q2 : c * 1 ≤ c * (b / c) := Nat.mul_le_mul_left c q
          omega
        exact euclid5 k c (b % c) n (s + 1 + 1) (by omega) (by omega) (by omega) (by omega) (by omega)
theorem euclid6 : ∀ (k a b n : Nat), b < 2 ^ k → a < 2 ^ 63 → k ≤ 40 → 2 * k + 1 ≤ n → f_X6_gcd_6 n (lN b) (lN a) = some (lN (Nat.gcd a b))
  | 0, a, b, n, h1, h2, _, h3 => by
    obtain rfl : b = 0 := by rw [Nat.pow_zero] at h1; omega
    obtain ⟨n, rfl⟩ : ∃ m, n = m + 1 := ⟨n - 1, by omega⟩
    rw [f_X6_gcd_6, if_pos lc_0, Nat.gcd_zero_right]
  | k + 1, a, b, n, h1, h2, hk, h3 => by
    have hp : 2 ^ (k + 1) ≤ 2 ^ 40 := Nat.pow_le_pow_right (by decide) hk
    have hps : 2 ^ (k + 1) = 2 * 2 ^ k := by rw [Nat.pow_succ, Nat.mul_comm]
    obtain ⟨n, rfl⟩ : ∃ m, n = m + 1 + 1 := ⟨n - 2, by omega⟩
    rw [f_X6_gcd_6]
    by_cases z : b = 0
    · subst z
      rw [if_pos lc_0, Nat.gcd_zero_right]
    · have hb0 : 0 < b := by omega
      have hb : b < 2 ^ 63 := by omega
      rw [lc_p hb0 hb, if_neg one_ne, if_neg (lN_ne0 hb0 hb)]
      simp only [nm]
      rw [show remL (lN a) (lN b) = lN (a % b) from pk_lRem h2 hb0 hb, gcd_step a b]
      have hr : a % b < b := Nat.mod_lt _ hb0
      obtain ⟨c, hc⟩ : ∃ c, c = a % b := ⟨_, rfl⟩
      rw [← hc] at hr ⊢
      rw [f_X6_gcd_6]
      by_cases y : c = 0
      · rw [y, if_pos lc_0, Nat.gcd_zero_right]
      · have hc0 : 0 < c := by omega
        have hc3 : c < 2 ^ 63 := by omega
        rw [lc_p hc0 hc3, if_neg one_ne, if_neg (lN_ne0 hc0 hc3)]
        simp only [nm]
        rw [show remL (lN b) (lN c) = lN (b % c) from pk_lRem hb hc0 hc3, gcd_step b c]
        have h5 : b % c < c := Nat.mod_lt _ hc0
        have h6 : 2 * (b % c) < b := by
          have e := Nat.div_add_mod b c
          have q : 1 ≤ b / c := (Nat.le_div_iff_mul_le hc0).2 (by omega)
          have q2 : c * 1 ≤ c * (b / c) := Nat.mul_le_mul_left c q
          omega
        exact euclid6 k c (b % c) n (by omega) (by omega) (by omega) (by omega)
theorem terms_k {A B x : Nat} (hA : A < 2 ^ 31) (h0 : 0 < B) (hB : B < 2 ^ 31) (hx : x < 2) : ∃ z, f_X5_inLeastTerms (lN A) (lN B) (nI x) = some z ∧ f_X6_partOf (lN A) (lN B) (nI x) = some z := by
  have hA3 : A < 2 ^ 63 := by omega
  have hB3 : B < 2 ^ 63 := by omega
  have e5 : f_X5_commonDivisor (lN A) (lN B) = some (lN (Nat.gcd A B)) := euclid5 31 A B 200 0 hB hA3 (by decide) (by decide) (by decide)
  have e6 : f_X6_gcd (lN A) (lN B) = some (lN (Nat.gcd A B)) := euclid6 31 A B 200 hB hA3 (by decide) (by decide)
  have g0 : 0 < Nat.gcd A B := Nat.gcd_pos_of_pos_right A h0
  have g1 : Nat.gcd A B ≤ B := Nat.gcd_le_right A h0
  have g3 : Nat.gcd A B < 2 ^ 63 := by omega
  have hx2 : x = 0 ∨ x = 1 := by omega
  unfold f_X5_inLeastTerms f_X6_partOf
  rw [e5, e6, Option.bind_some, Option.bind_some, Option.bind_some, lc_p g0 g3, if_pos (show (0 : Int32) < 1 by decide), if_neg (lN_ne0 g0 g3), if_neg (lN_ne0 g0 g3), pk_lDiv hA3 g0 g3, pk_lDiv hB3 g0 g3]
  by_cases z : A = 0
  · subst z
    rw [if_pos lc_0, Nat.gcd_zero_left, Nat.zero_div, Nat.div_self h0]
    rcases hx2 with rfl | rfl
    · rw [if_pos (show nI 0 = 0 from rfl)]
      exact ⟨_, rfl, rfl⟩
    · rw [if_neg (show ¬ nI 1 = 0 by decide)]
      exact ⟨_, rfl, rfl⟩
  · rw [lc_p (by omega) hA3, if_neg one_ne]
    rcases hx2 with rfl | rfl
    · rw [if_pos (show nI 0 = 0 from rfl)]
      exact ⟨_, rfl, rfl⟩
    · rw [if_neg (show ¬ nI 1 = 0 by decide)]
      exact ⟨_, rfl, rfl⟩
