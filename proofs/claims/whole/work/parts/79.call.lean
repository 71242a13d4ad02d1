/-! pure: call -/
abbrev calL (L : LD) (x : Int32) : LD := (L.1, L.2.1, L.2.2.1, L.2.2.2.1, L.2.2.2.2.1, L.2.2.2.2.2.1, x, L.2.2.2.2.2.2.2.1, L.2.2.2.2.2.2.2.2)
theorem tab_sh : ∀ m, m < 256 → ∀ i, i < 8 → ((nI m >>> (nI i &&& 31)) &&& (1 : Int32)) = b01 (m.testBit i) := by decide +kernel
theorem tab_all : ∀ N, N < 9 → ∀ m, m < 2 ^ N → pop m ≤ pop (2 ^ N - 1) := by decide +kernel
section CA
variable {L : LD} {N T : Nat}
theorem inv_cal (I : InvL L N T) {m : Nat} (hm : m < 2 ^ N) : InvL (calL L (nI m)) N T := by
  obtain ⟨i1, i2, i3, i4, i5, i6⟩ := I
  exact ⟨i1, i2, i3, ⟨m, hm, rfl⟩, i5, i6⟩
def calR (r : Nat → Int32) (m : Nat) : Nat → Nat → Int32
  | 0 => r
  | i + 1 => upd (calR r m i) (23 + 6 * i + 4) (b01 (m.testBit i))
theorem calR_s (r : Nat → Int32) (m i : Nat) : calR r m (i + 1) = upd (calR r m i) (23 + 6 * i + 4) (b01 (m.testBit i)) := rfl
theorem calR_un (r : Nat → Int32) (m x : Nat) : ∀ i, (∀ j, j < i → x ≠ 23 + 6 * j + 4) → calR r m i x = r x
  | 0, _ => rfl
  | i + 1, h => by rw [calR_s, pk_un (h i (by omega)), calR_un r m x i (fun j hj => h j (by omega))]
theorem calR_at (r : Nat → Int32) (m o : Nat) : ∀ i, o < i → calR r m i (23 + 6 * o + 4) = b01 (m.testBit o)
  | 0, h => absurd h (Nat.not_lt_zero _)
  | i + 1, h => by
    rw [calR_s]
    by_cases e : o = i
    · subst e; rw [pk_us]
    · rw [pk_un (by omega), calR_at r m o i (by omega)]
theorem rel_cal {r : Nat → Int32} (K : Rel r L N zr) {m : Nat} (hm : m < 256) : Rel (calR r m N) (calL L (nI m)) N zr := by
  obtain ⟨k0, k1, k2, k3, k4⟩ := K
  refine ⟨?_, ?_, ?_, fun c hc => ?_, fun o ho => ?_⟩
  · rw [calR_un r m 0 N (fun j hj => by omega)]; exact k0
  · rw [calR_un r m 1 N (fun j hj => by omega)]; exact k1
  · rw [calR_un r m 2 N (fun j hj => by omega)]; exact k2
  · rw [calR_un r m (3 + c) N (fun j hj => by omega)]; exact k3 c hc
  · obtain ⟨g0, g1, g2, g3, g4, g5⟩ := k4 o ho
    refine ⟨?_, ?_, ?_, ?_, ?_, ?_⟩
    · rw [calR_un r m _ N (fun j hj => by omega)]; exact g0
    · rw [calR_un r m _ N (fun j hj => by omega)]; exact g1
    · rw [calR_un r m _ N (fun j hj => by omega)]; exact g2
    · rw [calR_un r m _ N (fun j hj => by omega)]; exact g3
    · rw [calR_at r m o N ho]
      unfold calledB
      show _ = b01 ((nI m).toNatClampNeg.testBit o)
      rw [nI_clamp (by omega)]
    · rw [calR_un r m _ N (fun j hj => by omega)]; exact g5
theorem call5 (I : InvL L N T) {k : Nat} (hk : k < 100) {m : Nat} (hm : m < 2 ^ N) (t : TW) (ht : t.1 = L) (hs : LookOK t.2.2.1 L (eyeL L) N) : ∃ t', f_X4_togetherIfCalled t (nI m) (nI k) = some (togF (calL L (nI m)) N (k + 1), t') ∧ t'.1 = L ∧ LookOK t'.2.2.1 L (eyeL L) N := by
  have I2 := inv_cal I hm
  obtain ⟨t', e1, q1, q2⟩ := together5 I2 hk (t := (L, calL L (nI m), t.2.2)) ⟨rfl, hs⟩
  unfold f_X4_togetherIfCalled
  rw [become5, Option.bind_some, ht]
  rw [show f_X4_hangTogether (L, calL L (nI m), t.2.2.1, t.2.2.2.1, t.2.2.2.2.1, t.2.2.2.2.2.1, t.2.2.2.2.2.2) (nI k) = _ from e1, Option.bind_some]
  exact ⟨t', rfl, q1, q2.2⟩
theorem call6 (I : InvL L N T) (hT : T ≤ 999) {k : Nat} (hk : k < 100) {m : Nat} (hm : m < 2 ^ N) (v : MW) (K : Rel v.1 L N zr) (r : Nat → Int32) : ∃ r', f_X6_hangsCalled (v.1, r, v.2.2) (nI m) (nI k) = some (togF (calL L (nI m)) N (k + 1), (v.1, r', v.2.2)) := by
  have hN := I.2.1
  have h256 : m < 256 := c256 hm hN
  have I2 := inv_cal I hm
  obtain ⟨r', e⟩ := together6 I2 hT hk v (rel_cal K h256)
  have key : ∀ (n i j : Nat), i + j = N → j < n → f_X6_hangsCalled_13 (nI k) (nI m) n (nI i) (v.1, calR v.1 m i, v.2.2) = some (togF (calL L (nI m)) N (k + 1), (v.1, r', v.2.2)) := by
    intro n
    induction n with
    | zero => intro i j _ h2; exact absurd h2 (Nat.not_lt_zero _)
    | succ n ih =>
      intro i j hi hj
      have h0 : (v.1, calR v.1 m i, v.2.2).2.1 0 = nI N := by
        show calR v.1 m i 0 = nI N
        rw [calR_un v.1 m 0 i (fun j hj => by omega)]
        exact K.1.trans I.1
      rw [f_X6_hangsCalled_13, if_pos r71_0, z71_0, h0]
      by_cases q : i = N
      · subst q
        rw [if_pos (le_self i), e, Option.bind_some]
      · have h8 : i < 8 := by omega
        rw [if_neg (ge_N (by omega) (by omega)), of_4, Option.bind_some, if_pos (in71 h8 (show 4 < 6 by decide)), cl71 h8 (show 4 < 6 by decide), tab_sh m h256 i h8, nI_1]
        exact ih (i + 1) (j - 1) (by omega) (by omega)
  unfold f_X6_hangsCalled f_X6_copies
  rw [Option.bind_some]
  have k0 := key 200 0 N (by omega) (by omega)
  rw [show calR v.1 m 0 = v.1 from rfl] at k0
  exact ⟨r', k0⟩
theorem call_k (I : InvL L N T) (h7 : N ≤ 7) (hT : T ≤ 999) {k : Nat} (hk : k < 100) (v : MW) (K : Rel v.1 L N zr) (x : Int32) : ∀ (n i m a : Nat) (t : TW) (r : Nat → Int32), i + m + 1 = 2 ^ N → m + 3 < n → a < 2 ^ N → t.1 = L → LookOK t.2.2.1 L (eyeL L) N → Two L v (f_X4_fewestCalled_22 (nI k) x n (nI i) (nI a) t) (f_X6_call_43 (nI (2 ^ N - 1)) (nI k) x n (nI i) (nI a) (v.1, r, v.2.2)) := by
  have h2N : 2 ^ N ≤ 128 := Nat.pow_le_pow_right (n := 2) (by decide) h7
  intro n
  induction n with
  | zero => intro i m a t r _ h2; exact absurd h2 (Nat.not_lt_zero _)
  | succ n ih =>
    intro i m a t r hi hm ha ht hs
    have hN := I.2.1
    have hall : f_X1_allHouses L = some (nI (2 ^ N - 1)) := by
      unfold f_X1_allHouses
      rw [show L.2.2.2.2.2.1 = nI N from I.1, all_N N (by omega)]
    rw [f_X4_fewestCalled_22, f_X6_call_43, ht, hall, Option.bind_some, if_neg (show ¬ nI (2 ^ N - 1) < nI i from nI_nlt (by omega) (by omega))]
    by_cases e : i = 2 ^ N - 1
    · rw [if_pos (show nI (2 ^ N - 1) ≤ nI i from nI_le (by omega) (by omega)), tab_bits6 i (by omega), Option.bind_some, tab_bits6 a (by omega), Option.bind_some]
      have hp : pop a ≤ pop i := by rw [e]; exact tab_all N (by omega) a ha
      have := pop_le i
      rw [if_pos (nI_le hp (by omega)), nI_1]
      cases n with
      | zero => omega
      | succ n =>
        rw [f_X6_call_43, if_pos (show nI (2 ^ N - 1) < nI (i + 1) from nI_lt (by omega) (by omega))]
        exact ⟨_, _, _, rfl, ht, rfl⟩
    · rw [if_neg (show ¬ nI (2 ^ N - 1) ≤ nI i from nI_ge (by omega) (by omega)), tab_bits5 i (by omega), Option.bind_some, tab_bits5 a (by omega), Option.bind_some, tab_bits6 i (by omega), Option.bind_some, tab_bits6 a (by omega), Option.bind_some, nI_1]
      by_cases z : nI (pop a) ≤ nI (pop i)
      · rw [if_pos z, if_pos z]
        exact ih (i + 1) (m - 1) a t r (by omega) (by omega) ha ht hs
      · obtain ⟨t', e1, q1, q2⟩ := call5 I hk (show i < 2 ^ N by omega) t ht hs
        obtain ⟨r', e2⟩ := call6 I hT hk (show i < 2 ^ N by omega) v K r
        rw [if_neg z, if_neg z, e1, Option.bind_some, e2, Option.bind_some]
        by_cases y : togF (calL L (nI i)) N (k + 1) < x
        · rw [if_pos y, if_pos y]
          exact ih (i + 1) (m - 1) a t' r' (by omega) (by omega) ha q1 q2
        · rw [if_neg y, if_neg y]
          exact ih (i + 1) (m - 1) i t' r' (by omega) (by omega) (by omega) q1 q2
end CA
theorem op_call : E_call Inv := by
  intro w v hI y
  have hI' := hI
  obtain ⟨⟨N, T, n1, n2, I, n4, n5, K⟩, b⟩ := hI
  show Eq2 Inv _ _
  unfold f_X5_call f_X6_call
  rcases wb6 y 12 (by decide) with ⟨d, hd, g1, g2⟩ | ⟨k, hk, rfl, g1, g2⟩
  · rw [show f_X5_outside y (0 : Int32) (12 : Int32) = _ from g1, show f_X6_wrongBy y (0 : Int32) (12 : Int32) = _ from g2, Option.bind_some, Option.bind_some, if_neg (neg_ne hd), if_neg (neg_ne hd)]
    exact ref_no hI' d (by omega) (by omega) (neg_neg6 d)
  · rw [show f_X5_outside (nI k) (0 : Int32) (12 : Int32) = _ from g1, show f_X6_wrongBy (nI k) (0 : Int32) (12 : Int32) = _ from g2, Option.bind_some, Option.bind_some, if_pos rfl, if_pos rfl, if_pos r71_0, z71_0, K.1, show Ln w.1.1 = nI N from I.1, all_N N (by omega)]
    have hp : 0 < 2 ^ N := Nat.two_pow_pos N
    have h2N : 2 ^ N ≤ 128 := Nat.pow_le_pow_right (n := 2) (by decide) n1
    obtain ⟨t1, e1, q1⟩ := th_begin I w.1 rfl
    have hall : f_X1_allHouses t1.2.1 = some (nI (2 ^ N - 1)) := by
      unfold f_X1_allHouses
      rw [show t1.2.1.2.2.2.2.2.1 = nI N from by rw [q1.2.1]; exact I.1, all_N N (by omega)]
    obtain ⟨t2, e2, p1, p2⟩ := call5 I (show k < 100 by omega) (show 2 ^ N - 1 < 2 ^ N by omega) t1 q1.1 q1.2.2
    obtain ⟨r2, e3⟩ := call6 I n2 (show k < 100 by omega) (show 2 ^ N - 1 < 2 ^ N by omega) v K v.2.1
    obtain ⟨x, t', r', g1, g2, g3⟩ := call_k I n1 n2 (show k < 100 by omega) v K (togF (calL w.1.1 (nI (2 ^ N - 1))) N (k + 1)) 200 0 (2 ^ N - 1) (2 ^ N - 1) t2 r2 (by omega) (by omega) (by omega) p1 p2
    unfold f_X4_fewestCalled
    simp only [nm]
    rw [e1, Option.bind_some, hall, Option.bind_some, e2, Option.bind_some]
    rw [show f_X6_hangsCalled v (nI (2 ^ N - 1)) (nI k) = _ from e3, Option.bind_some]
    rw [show f_X4_fewestCalled_22 (nI k) (togF (calL w.1.1 (nI (2 ^ N - 1))) N (k + 1)) 200 (0 : Int32) (nI (2 ^ N - 1)) t2 = _ from g1, show f_X6_call_43 (nI (2 ^ N - 1)) (nI k) (togF (calL w.1.1 (nI (2 ^ N - 1))) N (k + 1)) 200 (0 : Int32) (nI (2 ^ N - 1)) (v.1, r2, v.2.2) = _ from g3, Option.bind_some]
    exact Eq2_some rfl (Inv_t hI' t' g2 r')
