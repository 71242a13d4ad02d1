/-! pure: dark, whole, nights, count -/
theorem has5m {p : Nat → Bool} {N h : Nat} (hN : N ≤ 8) (hh : h < N) : f_X5_has (nI (mask p N)) (nI h) = some (b01 (p h)) := by
  rw [tab_has5 _ (mask_256 p hN) h (by omega), mask_tb]
  simp only [hh, decide_true, Bool.true_and]
  rfl
theorem has6m {p : Nat → Bool} {N h : Nat} (hN : N ≤ 8) (hh : h < N) : f_X6_has (nI (mask p N)) (nI h) = some (b01 (p h)) := by
  rw [tab_has6 _ (mask_256 p hN) h (by omega), mask_tb]
  simp only [hh, decide_true, Bool.true_and]
  rfl
/-- the first night from k in which h's lantern is not out, of n nights; -9 if none -/
def darkF (L : LD) (N h : Nat) : Nat → Nat → Int32
  | 0, _ => -9
  | n + 1, k => if hg L N k h = true then darkF L N h n (k + 1) else nI k
def wholeF (L : LD) (N : Nat) : Nat → Nat → Int32
  | 0, _ => -9
  | n + 1, k => if mask (hg L N k) N = 2 ^ N - 1 then nI k else wholeF L N n (k + 1)
theorem gt60 {k : Nat} (h : k ≤ 60) : ¬ (60 : Int32) < nI k := nI_nlt (a := 60) h (by decide)
theorem lt61 : (60 : Int32) < nI 61 := by decide
section DK
variable {L : LD} {N T : Nat}
theorem dk5 (I : InvL L N T) {h : Nat} (hh : h < N) : ∀ (n k m : Nat) (t : TW), k + m = 61 → m < n → ThOK t L N k → ∃ t', f_X4_darkBehind_6 (nI h) n (nI k) t = some (darkF L N h m k, t') ∧ t'.1 = L
  | 0, _, _, _, _, h2, _ => absurd h2 (Nat.not_lt_zero _)
  | n + 1, k, 0, t, h1, h2, q => by
    obtain rfl : k = 61 := by omega
    rw [f_X4_darkBehind_6, if_pos lt61]
    exact ⟨t, rfl, q.1⟩
  | n + 1, k, m + 1, t, h1, h2, q => by
    rw [f_X4_darkBehind_6, if_neg (gt60 (by omega)), th_hangers I q, Option.bind_some, has5m I.2.1 hh, Option.bind_some, darkF]
    cases g : hg L N k h with
    | false =>
      rw [if_pos b01f, if_neg (by decide)]
      exact ⟨t, rfl, q.1⟩
    | true =>
      rw [if_neg b01t, if_pos rfl, th_night I q, Option.bind_some, nI_1]
      exact dk5 I hh n (k + 1) m _ (by omega) (by omega) (th_next q (k + 1))
theorem dk6 (I : InvL L N T) (hT : T ≤ 999) {h : Nat} (hh : h < N) (v : MW) : ∀ (n k m : Nat) (r : Nat → Int32), k + m = 61 → m < n → Rel r (nightsL L N k) N zr → ∃ r', f_X6_darkOf_13 (nI h) n (nI k) (v.1, r, v.2.2) = some (darkF L N h m k, (v.1, r', v.2.2))
  | 0, _, _, _, _, h2, _ => absurd h2 (Nat.not_lt_zero _)
  | n + 1, k, 0, r, h1, h2, q => by
    obtain rfl : k = 61 := by omega
    rw [f_X6_darkOf_13, if_pos lt61]
    exact ⟨r, rfl⟩
  | n + 1, k, m + 1, r, h1, h2, q => by
    rw [f_X6_darkOf_13, if_neg (gt60 (by omega)), hangIn_k I (by omega) q, Option.bind_some, has6m I.2.1 hh, Option.bind_some, darkF]
    cases g : hg L N k h with
    | false =>
      rw [if_pos b01f, if_neg (by decide)]
      exact ⟨r, rfl⟩
    | true =>
      obtain ⟨r1, e1, K1⟩ := night_k I (by omega) q
      rw [if_neg b01t, if_pos rfl]
      simp only [e1, Option.bind_some, nm, nI_1]
      exact dk6 I hT hh v n (k + 1) m r1 (by omega) (by omega) K1
theorem darkOf_k (I : InvL L N T) (hT : T ≤ 999) {h : Nat} (hh : h < N) (v : MW) (K : Rel v.1 L N zr) : ∃ r', f_X6_darkOf v (nI h) = some (darkF L N h 61 0, (v.1, r', v.2.2)) := by
  unfold f_X6_darkOf f_X6_copies
  rw [Option.bind_some]
  exact dk6 I hT hh v 200 0 61 v.1 rfl (by decide) K
theorem darkBehind_k (I : InvL L N T) {h : Nat} (hh : h < N) (t : TW) (e : t.1 = L) : ∃ t', f_X4_darkBehind t (nI h) = some (darkF L N h 61 0, t') ∧ t'.1 = L := by
  obtain ⟨t1, e1, k1⟩ := th_begin I t e
  unfold f_X4_darkBehind
  rw [e1, Option.bind_some]
  exact dk5 I hh 200 0 61 t1 rfl (by decide) k1
theorem pop_all : ∀ N, N < 9 → ∀ m, m < 2 ^ N → (nI (pop m) = nI N ↔ m = 2 ^ N - 1) := by decide +kernel
theorem all_N : ∀ N, N < 9 → ((1 : Int32) <<< (nI N &&& 31)) - (1 : Int32) = nI (2 ^ N - 1) := by decide +kernel
theorem wh5 (I : InvL L N T) : ∀ (n k m : Nat) (t : TW), k + m = 61 → m < n → ThOK t L N k → ∃ t', f_X4_wholeBehind_6 n (nI k) t = some (wholeF L N m k, t') ∧ t'.1 = L
  | 0, _, _, _, _, h2, _ => absurd h2 (Nat.not_lt_zero _)
  | n + 1, k, 0, t, h1, h2, q => by
    obtain rfl : k = 61 := by omega
    rw [f_X4_wholeBehind_6, if_pos lt61]
    exact ⟨t, rfl, q.1⟩
  | n + 1, k, m + 1, t, h1, h2, q => by
    have hN := I.2.1
    have hm : mask (hg L N k) N < 2 ^ N := mask_lt _ _
    have h2N : 2 ^ N ≤ 256 := Nat.pow_le_pow_right (n := 2) (by decide) hN
    have ha : f_X1_allHouses t.2.1 = some (nI (2 ^ N - 1)) := by
      unfold f_X1_allHouses
      rw [q.2.1, show (nightsL L N k).2.2.2.2.2.1 = nI N from (inv_nights I k).1, all_N N (by omega)]
    rw [f_X4_wholeBehind_6, if_neg (gt60 (by omega)), th_hangers I q, Option.bind_some, ha, Option.bind_some, wholeF]
    by_cases g : mask (hg L N k) N = 2 ^ N - 1
    · rw [if_pos g, if_pos (by rw [g])]
      exact ⟨t, rfl, q.1⟩
    · rw [if_neg g, if_neg (fun z => g ((nI_eq (by omega) (by omega)).1 z)), th_night I q, Option.bind_some, nI_1]
      exact wh5 I n (k + 1) m _ (by omega) (by omega) (th_next q (k + 1))
theorem wh6 (I : InvL L N T) (hT : T ≤ 999) (v : MW) : ∀ (n k m : Nat) (r : Nat → Int32), k + m = 61 → m < n → Rel r (nightsL L N k) N zr → ∃ r', f_X6_whole_13 n (nI k) (v.1, r, v.2.2) = some (wholeF L N m k, (v.1, r', v.2.2))
  | 0, _, _, _, _, h2, _ => absurd h2 (Nat.not_lt_zero _)
  | n + 1, k, 0, r, h1, h2, q => by
    obtain rfl : k = 61 := by omega
    rw [f_X6_whole_13, if_pos lt61]
    exact ⟨r, rfl⟩
  | n + 1, k, m + 1, r, h1, h2, q => by
    have hN := I.2.1
    have hm : mask (hg L N k) N < 2 ^ N := mask_lt _ _
    have h8 : mask (hg L N k) N < 256 := mask_256 _ hN
    have hr : r 0 = nI N := q.1.trans (inv_nights I k).1
    rw [f_X6_whole_13, if_neg (gt60 (by omega)), hangIn_k I (by omega) q, Option.bind_some, tab_bits6 _ h8, Option.bind_some, if_pos r71_0, wholeF]
    simp only [z71_0, hr, pop_all N (by omega) _ hm]
    by_cases g : mask (hg L N k) N = 2 ^ N - 1
    · rw [if_pos g, if_pos g]
      exact ⟨r, rfl⟩
    · obtain ⟨r1, e1, K1⟩ := night_k I (by omega) q
      rw [if_neg g, if_neg g]
      simp only [e1, Option.bind_some, nm, nI_1]
      exact wh6 I hT v n (k + 1) m r1 (by omega) (by omega) K1
theorem nights_wk (I : InvL L N T) (h : ∀ o, o < N → ∃ W, W ≤ 99 ∧ Lwk L o = nI W) : ∀ o, o < N → ∃ W, W ≤ 99 ∧ Lwk (nightL L N) o = nI W := by
  intro o ho
  obtain ⟨W, hW, e⟩ := h o ho
  show ∃ W, W ≤ 99 ∧ (if o < N ∧ litB L o = true then Lwk L o - burns (Lks L o) else Lwk L o) = nI W
  by_cases q : litB L o = true
  · rw [if_pos ⟨ho, q⟩]
    have hb : ∃ B, B ≤ 2 ∧ burns (Lks L o) = nI B := by
      unfold burns
      split
      · exact ⟨2, by decide, rfl⟩
      · split
        · exact ⟨2, by decide, rfl⟩
        · split
          · exact ⟨2, by decide, rfl⟩
          · exact ⟨1, by decide, rfl⟩
    obtain ⟨B, hB, eB⟩ := hb
    have : B ≤ W := by
      unfold litB at q
      rw [e, eB] at q
      have q1 := (Bool.and_eq_true _ _ ▸ q).1
      by_cases z : W < B
      · rw [decide_eq_true (nI_lt z (by omega))] at q1; exact absurd q1 (by decide)
      · omega
    exact ⟨W - B, by omega, by rw [e, eB, pk_sub this]⟩
  · rw [if_neg (fun z => q z.2)]; exact ⟨W, hW, e⟩
theorem nightss_wk (I : InvL L N T) (h : ∀ o, o < N → ∃ W, W ≤ 99 ∧ Lwk L o = nI W) : ∀ k, ∀ o, o < N → ∃ W, W ≤ 99 ∧ Lwk (nightsL L N k) o = nI W
  | 0 => h
  | k + 1 => nights_wk (inv_nights I k) (nightss_wk I h k)
theorem nights_hs (L : LD) (N : Nat) : ∀ k, Lhs (nightsL L N k) = Lhs L
  | 0 => rfl
  | k + 1 => (show Lhs (nightL (nightsL L N k) N) = Lhs (nightsL L N k) from rfl).trans (nights_hs L N k)
theorem goBy_k (I : InvL L N T) (hT : T ≤ 999) {k : Nat} (h1 : 1 ≤ k) (h6 : k ≤ 60) : f_X1_goBy L (nI k) = some (if T + k ≤ 999 then ((1 : Int32), nightsL L N k) else (0, L)) := by
  have key : ∀ (n i m : Nat), i + m = k → m < n → f_X1_goBy_27 (nI k) n (nI i) (nightsL L N i) = some (1, nightsL L N k) := by
    intro n
    induction n with
    | zero => intro i m _ h2; exact absurd h2 (Nat.not_lt_zero _)
    | succ n ih =>
      intro i m h1 h2
      rw [f_X1_goBy_27]
      by_cases e : i = k
      · subst e; rw [if_pos (le_self i)]
      · rw [if_neg (ge_N (by omega) (by omega)), pl_night (inv_nights I i), Option.bind_some, nI_1]
        exact ih (i + 1) (m - 1) (by omega) (by omega)
  unfold f_X1_goBy
  rw [if_neg (show ¬ nI k < (1 : Int32) from nI_nlt (b := 1) h1 (by omega)), if_neg (gt60 h6), show L.2.2.2.2.2.2.2.2 = nI T from I.2.2.2.2.2, nI_add]
  by_cases q : T + k ≤ 999
  · rw [if_pos q, if_pos (show nI (T + k) ≤ (999 : Int32) from nI_le (b := 999) q (by decide))]
    exact key 200 0 k (by omega) (by omega)
  · rw [if_neg q, if_neg (show ¬ nI (T + k) ≤ (999 : Int32) from nI_ge (a := 999) (by omega) (by omega))]
end DK
theorem op_dark : E_dark Inv := by
  intro w v hI x
  have hI' := hI
  obtain ⟨⟨N, T, n1, n2, I, n4, n5, K⟩, b⟩ := hI
  show Eq2 Inv _ _
  unfold f_X5_dark f_X6_dark
  rcases hs6 I K x with ⟨h1, h2⟩ | ⟨h, hh, rfl, h1, h2⟩
  · rw [h1, h2, Option.bind_some, Option.bind_some, if_pos rfl, if_pos rfl]
    exact ref_no (x := (-1 : Int32)) hI' 1 (by decide) (by decide) rfl
  · obtain ⟨t', e1, q1⟩ := darkBehind_k I hh w.1 rfl
    obtain ⟨r', e2⟩ := darkOf_k I n2 hh v K
    rw [h1, h2, Option.bind_some, Option.bind_some, if_neg one_ne, if_neg one_ne, e1, e2, Option.bind_some, Option.bind_some]
    exact Eq2_some rfl (Inv_t hI' t' q1 r')
theorem op_nights : E_nights Inv := by
  intro w v hI x
  have hI' := hI
  obtain ⟨⟨N, T, n1, n2, I, n4, n5, K⟩, b⟩ := hI
  show Eq2 Inv _ _
  unfold f_X5_nights f_X6_nights f_X5_outside
  by_cases h0 : x < 1
  · have : ¬ (1 : Int32) ≤ x := fun z => Int32.lt_irrefl (Int32.lt_of_lt_of_le h0 z)
    rw [if_neg this, if_neg this, Option.bind_some, if_neg (by decide)]
    exact ref_no (x := (-4 : Int32)) hI' 4 (by decide) (by decide) rfl
  have h1 : (1 : Int32) ≤ x := Int32.not_lt.mp h0
  have h00 : ¬ x < 0 := fun z => h0 (Int32.lt_trans z (by decide))
  obtain ⟨k, hk, rfl⟩ := nI_of h00
  have hk1 : 1 ≤ k := by
    by_cases z : k = 0
    · subst z; exact absurd h1 (by decide)
    · omega
  rw [if_pos h1, if_pos h1]
  by_cases h6 : k ≤ 60
  · rw [if_pos (show nI k ≤ (60 : Int32) from nI_le (b := 60) h6 (by decide)), Option.bind_some, if_pos rfl, goBy_k I n2 hk1 h6, if_neg (gt60 h6), if_pos r71_1, z71_1, K.2.1, show Lnt w.1.1 = nI T from I.2.2.2.2.2, nI_add, Option.bind_some]
    by_cases q : T + k ≤ 999
    · rw [if_pos q, if_pos (show nI (T + k) ≤ (999 : Int32) from nI_le (b := 999) q (by decide))]
      rw [if_neg one_ne]
      have I2 := inv_nights I k
      obtain ⟨r', e2, K2⟩ := nights6 I (show T + k < 2 ^ 31 by omega) (show k < 200 by omega) K
      obtain ⟨t', e1, q1⟩ := th_behind (k := 0) I2 (nightsL w.1.1 N k, w.1.2) rfl (by decide)
      have h8 : mask (hg (nightsL w.1.1 N k) N 0) N < 256 := mask_256 _ I.2.1
      rw [show f_X4_hangingBehind (nightsL w.1.1 N k, w.1.2.1, w.1.2.2.1, w.1.2.2.2.1, w.1.2.2.2.2.1, w.1.2.2.2.2.2.1, w.1.2.2.2.2.2.2) (0 : Int32) = _ from e1, Option.bind_some, tab_bits5 _ h8, Option.bind_some, e2, Option.bind_some]
      simp only [nm]
      rw [hangIn_k (k := 0) I2 (show T + k + 0 < 2 ^ 31 by omega) K2, Option.bind_some, tab_bits6 _ h8, Option.bind_some]
      refine Eq2_some rfl ⟨⟨N, T + k, ?_⟩, b⟩
      show LOK t'.1 r' N (T + k)
      rw [q1.1]
      exact ⟨n1, q, I2, by rw [nights_hs]; exact n4, nightss_wk I n5 k, K2⟩
    · rw [if_neg q, if_neg (show ¬ nI (T + k) ≤ (999 : Int32) from nI_ge (a := 999) (by omega) (by omega)), if_pos rfl]
      exact ref_no (x := (-6 : Int32)) hI' 6 (by decide) (by decide) rfl
  · rw [if_neg (show ¬ nI k ≤ (60 : Int32) from nI_ge (a := 60) (by omega) hk), if_pos (show (60 : Int32) < nI k from nI_lt (a := 60) (by omega) hk), Option.bind_some, if_neg (by decide)]
    exact ref_no (x := (-6 : Int32)) hI' 6 (by decide) (by decide) rfl
