/-! pure: mist -/
def sumN (f : Nat → Nat) : Nat → Nat
  | 0 => 0
  | n + 1 => sumN f n + f n
theorem sumN_ext {f g : Nat → Nat} : ∀ {n : Nat}, (∀ i, i < n → f i = g i) → sumN f n = sumN g n
  | 0, _ => rfl
  | n + 1, h => by unfold sumN; rw [sumN_ext (fun i hi => h i (by omega)), h n (by omega)]
theorem sumN_app (f : Nat → Nat) (m : Nat) : ∀ n, sumN f (m + n) = sumN f m + sumN (fun i => f (m + i)) n
  | 0 => rfl
  | n + 1 => by
    show sumN f (m + n) + f (m + n) = sumN f m + (sumN (fun i => f (m + i)) n + f (m + n))
    rw [sumN_app f m n, Nat.add_assoc]
theorem sumN_mul (f : Nat → Nat) (c : Nat) : ∀ n, sumN (fun i => f i * c) n = sumN f n * c
  | 0 => (Nat.zero_mul c).symm
  | n + 1 => by
    show sumN (fun i => f i * c) n + f n * c = (sumN f n + f n) * c
    rw [sumN_mul f c n, Nat.add_mul]
section MF
variable (a b : Nat → Bool) (q : Nat)
/-- a night's weight of all cases in which the one hangs; of clear or of foggy ones -/
def ngF (a b : Nat → Bool) (q k : Nat) : Nat := (if a k = true then q else 0) + (if b k = true then 1 else 0)
def prF : Nat → Nat
  | 0 => 1
  | k + 1 => prF k * ngF a b q k
def ofF (a b : Nat → Bool) (q s k : Nat) : Nat := if s.testBit k = true then (if b k = true then 1 else 0) else (if a k = true then q else 0)
def gsF (s : Nat) : Nat → Nat
  | 0 => 1
  | k + 1 => gsF s k * ofF a b q s k
def wtF (q s : Nat) : Nat → Nat
  | 0 => 1
  | k + 1 => wtF q s k * (if s.testBit k = true then 1 else q)
def inB (s k : Nat) : Bool := if s.testBit k = true then b k else a k
theorem gsF_hi (k s : Nat) : ∀ j, j ≤ k → gsF a b q (2 ^ k + s) j = gsF a b q s j
  | 0, _ => rfl
  | j + 1, h => by
    show gsF a b q (2 ^ k + s) j * ofF a b q (2 ^ k + s) j = gsF a b q s j * ofF a b q s j
    rw [gsF_hi k s j (by omega)]
    unfold ofF
    rw [Nat.testBit_two_pow_add_gt (by omega)]
theorem sum_prF : ∀ k, sumN (fun s => gsF a b q s k) (2 ^ k) = prF a b q k
  | 0 => rfl
  | k + 1 => by
    have ih := sum_prF k
    have e1 : sumN (fun s => gsF a b q s (k + 1)) (2 ^ k) = prF a b q k * (if a k = true then q else 0) := by
      rw [← ih, ← sumN_mul]
      refine sumN_ext fun s hs => ?_
      show gsF a b q s k * ofF a b q s k = _
      unfold ofF
      rw [Nat.testBit_lt_two_pow hs, if_neg (by decide)]
    have e2 : sumN (fun i => gsF a b q (2 ^ k + i) (k + 1)) (2 ^ k) = prF a b q k * (if b k = true then 1 else 0) := by
      rw [← ih, ← sumN_mul]
      refine sumN_ext fun s hs => ?_
      show gsF a b q (2 ^ k + s) k * ofF a b q (2 ^ k + s) k = _
      rw [gsF_hi a b q k s k (Nat.le_refl _)]
      unfold ofF
      rw [Nat.testBit_two_pow_add_eq, Nat.testBit_lt_two_pow hs, if_pos (by rfl)]
    rw [show 2 ^ (k + 1) = 2 ^ k + 2 ^ k by rw [Nat.pow_succ]; omega, sumN_app, e1, e2, ← Nat.mul_add]
    rfl
theorem gs_all {s : Nat} : ∀ k, (∀ j, j < k → inB a b s j = true) → gsF a b q s k = wtF q s k
  | 0, _ => rfl
  | k + 1, h => by
    show gsF a b q s k * ofF a b q s k = wtF q s k * _
    rw [gs_all k (fun j hj => h j (by omega))]
    have := h k (by omega)
    unfold inB at this
    unfold ofF
    by_cases z : s.testBit k = true
    · rw [if_pos z] at this
      rw [if_pos z, if_pos z, if_pos this]
    · rw [if_neg z] at this
      rw [if_neg z, if_neg z, if_pos this]
theorem gs_none {s j : Nat} (h : inB a b s j = false) : ∀ k, j < k → gsF a b q s k = 0
  | 0, hj => absurd hj (Nat.not_lt_zero _)
  | k + 1, hj => by
    show gsF a b q s k * ofF a b q s k = 0
    by_cases z : j = k
    · subst z
      unfold inB at h
      have : ofF a b q s j = 0 := by
        unfold ofF
        by_cases y : s.testBit j = true
        · rw [if_pos y] at h
          rw [if_pos y, if_neg (by rw [h]; decide)]
        · rw [if_neg y] at h
          rw [if_neg y, if_neg (by rw [h]; decide)]
      rw [this, Nat.mul_zero]
    · rw [gs_none h k (by omega), Nat.zero_mul]
theorem prF_le : ∀ k, prF a b q k ≤ (q + 1) ^ k
  | 0 => Nat.le_refl _
  | k + 1 => by
    show prF a b q k * ngF a b q k ≤ (q + 1) ^ (k + 1)
    rw [Nat.pow_succ]
    refine Nat.mul_le_mul (prF_le k) ?_
    unfold ngF
    split <;> split <;> omega
end MF
/-- from night j on, m nights, all so -/
def okF (c : Nat → Bool) : Nat → Nat → Bool
  | 0, _ => true
  | m + 1, j => c j && okF c m (j + 1)
theorem okF_t {c : Nat → Bool} : ∀ {m j : Nat}, okF c m j = true → ∀ k, j ≤ k → k < j + m → c k = true
  | 0, _, _, k, h1, h2 => absurd h2 (by omega)
  | m + 1, j, h, k, h1, h2 => by
    unfold okF at h
    rw [Bool.and_eq_true] at h
    by_cases z : k = j
    · subst z; exact h.1
    · exact okF_t h.2 k (by omega) (by omega)
theorem okF_f {c : Nat → Bool} : ∀ {m j : Nat}, okF c m j = false → ∃ k, j ≤ k ∧ k < j + m ∧ c k = false
  | 0, _, h => by cases h
  | m + 1, j, h => by
    unfold okF at h
    cases z : c j with
    | false => exact ⟨j, Nat.le_refl _, by omega, z⟩
    | true =>
      rw [z, Bool.true_and] at h
      obtain ⟨k, h1, h2, h3⟩ := okF_f h
      exact ⟨k, by omega, by omega, h3⟩
theorem ok_gs (a b : Nat → Bool) (q s n : Nat) : (if okF (inB a b s) n 0 = true then wtF q s n else 0) = gsF a b q s n := by
  cases z : okF (inB a b s) n 0 with
  | true =>
    rw [if_pos rfl]
    exact (gs_all a b q n (fun j hj => okF_t z j (Nat.zero_le _) (by omega))).symm
  | false =>
    rw [if_neg (by decide)]
    obtain ⟨k, h1, h2, h3⟩ := okF_f z
    exact (gs_none a b q h3 n (by omega)).symm
theorem nights_fg (L : LD) (N : Nat) (x : Int32) : ∀ k, nightsL (fgL L x) N k = fgL (nightsL L N k) x
  | 0 => rfl
  | k + 1 => (congrArg (fun M => nightL M N) (nights_fg L N x k)).trans rfl
section MI
variable {L : LD} {N T : Nat}
theorem inv_fg (I : InvL L N T) {F : Nat} (hF : F ≤ 9) : InvL (fgL L (nI F)) N T := by
  obtain ⟨i1, i2, i3, i4, i5, i6⟩ := I
  exact ⟨i1, i2, i3, i4, ⟨F, hF, rfl⟩, i6⟩
abbrev clB (L : LD) (N h : Nat) : Nat → Bool := fun k => hg L N k h
abbrev fgB (L : LD) (N h : Nat) : Nat → Bool := fun k => hg (fgL L (nI 9)) N k h
def MsOK (t : TW) (L : LD) (N i : Nat) : Prop := t.1 = L ∧ t.2.1 = nightsL (fgL L (nI 9)) N i ∧ LookOK t.2.2.1 L (eyeL L) N ∧ LookOK t.2.2.2.1 (fgL L (nI 9)) (eyeL (fgL L (nI 9))) N
theorem mist30 (I : InvL L N T) {h : Nat} (hh : h < N) {q : Nat} (hq : q < 20) {k : Nat} (hk : k ≤ 7) : ∀ (n i m : Nat) (t : TW), i + m = k → m < n → MsOK t L N i → ∃ t', f_X4_mistAbove_30 (nI k) (nI h) (nI (q + 1)) n (nI i) (lN (prF (clB L N h) (fgB L N h) q i)) t = some (lN (prF (clB L N h) (fgB L N h) q k), t') ∧ t'.1 = L := by
  have hN := I.2.1
  have I9 := inv_fg I (F := 9) (by decide)
  intro n
  induction n with
  | zero => intro i m t _ h2; exact absurd h2 (Nat.not_lt_zero _)
  | succ n ih =>
    intro i m t hi hm z
    obtain ⟨z1, z2, z3, z4⟩ := z
    rw [f_X4_mistAbove_30]
    by_cases e : i = k
    · subst e
      rw [if_pos (le_self i)]
      exact ⟨t, rfl, z1⟩
    · have hl : f_X1_lit t.2.1 = some (nI (mask (litB (nightsL (fgL L (nI 9)) N i)) N)) := by
        rw [z2]; exact pl_lit (inv_nights I9 i)
      have ha : f_X3_hanging t.2.2.1 (nI (mask (litB (nightsL (fgL L (nI 9)) N i)) N)) = some (nI (mask (hg L N i) N)) := by
        rw [pl_hanging hN z3, nights_fg]
        rfl
      have hb : f_X3_hanging t.2.2.2.1 (nI (mask (litB (nightsL (fgL L (nI 9)) N i)) N)) = some (nI (mask (hg (fgL L (nI 9)) N i) N)) := pl_hanging hN z4 _
      have nx : f_X1_passNight t.2.1 = some (nightsL (fgL L (nI 9)) N (i + 1)) := by rw [z2]; exact pl_night (inv_nights I9 i)
      rw [if_neg (ge_N (by omega) (by omega)), hl, Option.bind_some, ha, Option.bind_some, has5m hN hh, Option.bind_some]
      have w91 : ∀ c f : Nat, c ≤ 20 → f ≤ 1 → c + f = ngF (clB L N h) (fgB L N h) q i → ∃ t', f_X4_mistAbove_91 (fun a0 a1 a2 => f_X4_mistAbove_30 (nI k) (nI h) (nI (q + 1)) n a0 a1 a2) (nI c) (nI i) (lN (prF (clB L N h) (fgB L N h) q i)) (nI f) t = some (lN (prF (clB L N h) (fgB L N h) q k), t') ∧ t'.1 = L := by
        intro c f hc hf he
        unfold f_X4_mistAbove_91
        simp only [nm]
        rw [nx, Option.bind_some, nI_add, nI_l (by omega), lN_mul, nI_1, he]
        exact ih (i + 1) (m - 1) _ (by omega) (by omega) ⟨z1, rfl, z3, z4⟩
      have w68 : ∀ c : Nat, c ≤ 20 → c = (if clB L N h i = true then q else 0) → ∃ t', f_X4_mistAbove_68 (fun a0 a1 a2 => f_X4_mistAbove_30 (nI k) (nI h) (nI (q + 1)) n a0 a1 a2) (nI h) (nI (mask (litB (nightsL (fgL L (nI 9)) N i)) N)) (nI i) (lN (prF (clB L N h) (fgB L N h) q i)) (nI c) t = some (lN (prF (clB L N h) (fgB L N h) q k), t') ∧ t'.1 = L := by
        intro c hc he
        unfold f_X4_mistAbove_68
        rw [hb, Option.bind_some, has5m hN hh, Option.bind_some]
        cases y : hg (fgL L (nI 9)) N i h with
        | false =>
          rw [if_pos b01f]
          refine w91 c 0 hc (by decide) ?_
          unfold ngF
          rw [← he, if_neg (show ¬ fgB L N h i = true by show ¬ hg (fgL L (nI 9)) N i h = true; rw [y]; decide)]
        | true =>
          rw [if_neg b01t]
          refine w91 c 1 hc (by decide) ?_
          unfold ngF
          rw [← he, if_pos (show fgB L N h i = true from y)]
      cases x : hg L N i h with
      | false =>
        rw [if_pos b01f]
        exact w68 0 (by decide) (by rw [if_neg (show ¬ clB L N h i = true by show ¬ hg L N i h = true; rw [x]; decide)])
      | true =>
        rw [if_neg b01t, nI_pred]
        exact w68 q (by omega) (by rw [if_pos (show clB L N h i = true from x)])
theorem mist5 (I : InvL L N T) {h : Nat} (hh : h < N) {q : Nat} (hq : q < 20) {k : Nat} (hk : k ≤ 7) (t : TW) (ht : t.1 = L) : ∃ t', f_X4_mistAbove t (nI h) (nI k) (nI (q + 1)) = some (lN (prF (clB L N h) (fgB L N h) q k), t') ∧ t'.1 = L := by
  have I9 := inv_fg I (F := 9) (by decide)
  obtain ⟨t1, e1, q1⟩ := th_begin I t ht
  have q2 : t1.2.1 = L := q1.2.1
  obtain ⟨S', g1, g2⟩ := pl_lookOver I9 t1.2.2.2.1
  unfold f_X4_mistAbove
  rw [e1, Option.bind_some, q2, show f_X3_lookOver t1.2.2.2.1 (L.1, L.2.1, L.2.2.1, L.2.2.2.1, L.2.2.2.2.1, L.2.2.2.2.2.1, L.2.2.2.2.2.2.1, (9 : Int32), L.2.2.2.2.2.2.2.2) = _ from g1, Option.bind_some]
  exact mist30 I hh hq hk 200 0 k (t1.1, fgL L (nI 9), t1.2.2.1, S', t1.2.2.2.2.1, t1.2.2.2.2.2.1, t1.2.2.2.2.2.2) (by omega) (by omega) ⟨q1.1, rfl, q1.2.2, g2⟩
/-- the reference: by one set of foggy nights -/
theorem dhb14 (I : InvL L N T) (hT : T ≤ 999) {h : Nat} (hh : h < N) {v : MW} (K : Rel v.1 L N zr) {k s : Nat} (hk : k ≤ 7) (hs : s < 256) : ∀ (n i m : Nat) (r : Nat → Int32) (y : Int32), i + m = k → m < n → Rel r (fgL (nightsL L N i) y) N zr → ∃ r', f_X6_doesHangBy_14 (nI k) (nI s) (nI h) n (nI i) (v.1, r, v.2.2) = some (b01 (okF (inB (clB L N h) (fgB L N h) s) m i), (v.1, r', v.2.2)) := by
  have hN := I.2.1
  intro n
  induction n with
  | zero => intro i m r y _ h2; exact absurd h2 (Nat.not_lt_zero _)
  | succ n ih =>
    intro i m r y hi hm q
    rw [f_X6_doesHangBy_14]
    cases m with
    | zero =>
      obtain rfl : i = k := by omega
      rw [if_pos (le_self i)]
      exact ⟨r, rfl⟩
    | succ m =>
      have w45 : ∀ F : Nat, F ≤ 9 → hg (fgL L (nI F)) N i h = inB (clB L N h) (fgB L N h) s i → ∃ r', f_X6_doesHangBy_45 (fun a0 a1 => f_X6_doesHangBy_14 (nI k) (nI s) (nI h) n a0 a1) (nI h) (nI i) (nI F) (2 : Int32) (v.1, r, v.2.2) = some (b01 (okF (inB (clB L N h) (fgB L N h) s) (m + 1) i), (v.1, r', v.2.2)) := by
        intro F hF he
        have IF := inv_fg I hF
        have KF : Rel (upd r 2 (nI F)) (nightsL (fgL L (nI F)) N i) N zr := by
          have z := Up_fg (x := nI F) q
          rw [nights_fg]
          exact z
        unfold f_X6_doesHangBy_45
        rw [if_pos r71_2, z71_2, show f_X6_hangIn (upd (v.1, r, v.2.2).2.1 2 (nI F)) = _ from hangIn_k IF (show T + i < 2 ^ 31 by omega) KF, Option.bind_some, has6m hN hh, Option.bind_some, okF, ← he]
        cases z : hg (fgL L (nI F)) N i h with
        | false =>
          rw [if_pos b01f, Bool.false_and]
          exact ⟨_, rfl⟩
        | true =>
          obtain ⟨r1, e1, K1⟩ := night_k IF (show T + i < 2 ^ 31 by omega) KF
          rw [nights_fg] at K1
          rw [if_neg b01t, show f_X6_night (upd (v.1, r, v.2.2).2.1 2 (nI F)) = _ from e1, Option.bind_some, Bool.true_and]
          simp only [nm]
          rw [nI_1]
          exact ih (i + 1) m r1 (nI F) (by omega) (by omega) K1
      rw [if_neg (ge_N (by omega) (by omega)), tab_has6 s hs i (by omega), Option.bind_some]
      by_cases z : s.testBit i = true
      · rw [if_pos z, if_neg one_ne]
        exact w45 9 (by decide) (by unfold inB; rw [if_pos z])
      · obtain ⟨F, hF, eF⟩ := I.2.2.2.2.1
        rw [if_neg z, if_pos rfl, if_pos r71_2, z71_2, show (v.1, r, v.2.2).1 2 = nI F from K.2.2.1.trans eF]
        refine w45 F hF ?_
        unfold inB
        rw [if_neg z]
        show hg (fgL L (nI F)) N i h = hg L N i h
        rw [← eF]
theorem dhb6 (I : InvL L N T) (hT : T ≤ 999) {h : Nat} (hh : h < N) {v : MW} (K : Rel v.1 L N zr) {k s : Nat} (hk : k ≤ 7) (hs : s < 256) (r : Nat → Int32) : ∃ r', f_X6_doesHangBy (v.1, r, v.2.2) (nI h) (nI k) (nI s) = some (b01 (okF (inB (clB L N h) (fgB L N h) s) k 0), (v.1, r', v.2.2)) := by
  unfold f_X6_doesHangBy f_X6_copies
  rw [Option.bind_some]
  exact dhb14 I hT hh K hk hs 200 0 k v.1 (Lfg L) (by omega) (by omega) K
theorem mist111 (I : InvL L N T) (hT : T ≤ 999) {h : Nat} (hh : h < N) {v : MW} (K : Rel v.1 L N zr) {q : Nat} (hq : q < 20) {k s : Nat} (hk : k ≤ 7) (hs : s < 256) (k1 : Int32 → Int64 → MW → Option (Int64 × MW)) (acc : Nat) (r : Nat → Int32) : ∀ (n i m : Nat), i + m = k → m < n → ∃ r', f_X6_mist_111 k1 (nI k) (v.1, r, v.2.2) (nI h) (nI s) (lN acc) (nI (q + 1)) n (nI i) (lN (wtF q s i)) = k1 (nI (s + 1)) (lN (acc + gsF (clB L N h) (fgB L N h) q s k)) (v.1, r', v.2.2) := by
  intro n
  induction n with
  | zero => intro i m _ h2; exact absurd h2 (Nat.not_lt_zero _)
  | succ n ih =>
    intro i m hi hm
    rw [f_X6_mist_111]
    by_cases e : i = k
    · subst e
      obtain ⟨r', e1⟩ := dhb6 I hT hh K hk hs r
      refine ⟨r', ?_⟩
      rw [if_pos (le_self i), e1, Option.bind_some, ← ok_gs]
      simp only [nm]
      cases z : okF (inB (clB L N h) (fgB L N h) s) i 0 with
      | false => rw [if_pos b01f, nI_1, if_neg (show ¬ (false = true) by decide), show (0 : Int64) = lN 0 from rfl, lN_add]
      | true => rw [if_neg b01t, nI_1, if_pos rfl, lN_add]
    · rw [if_neg (ge_N (by omega) (by omega)), tab_has6 s hs i (by omega), Option.bind_some]
      simp only [nm]
      have st := ih (i + 1) (m - 1) (by omega) (by omega)
      rw [show wtF q s (i + 1) = wtF q s i * (if s.testBit i = true then 1 else q) from rfl] at st
      by_cases z : s.testBit i = true
      · rw [if_pos z] at st
        rw [if_pos z, if_neg one_ne, nI_1, show (1 : Int64) = lN 1 from rfl, lN_mul]
        exact st
      · rw [if_neg z] at st
        rw [if_neg z, if_pos rfl, nI_1, nI_pred, nI_l (by omega), lN_mul]
        exact st
theorem mist97 (I : InvL L N T) (hT : T ≤ 999) {h : Nat} (hh : h < N) {v : MW} (K : Rel v.1 L N zr) {q : Nat} (hq : q < 20) {k x : Nat} (hk : k ≤ 7) {B : Int64} {z : Int64} (hz : f_X6_partOf (lN (prF (clB L N h) (fgB L N h) q k)) B (nI x) = some z) : ∀ (n s m : Nat) (r : Nat → Int32), s + m = 2 ^ k → m < n → ∃ r', f_X6_mist_97 (nI k) B (nI x) (nI h) (nI (q + 1)) n (nI s) (lN (sumN (fun s => gsF (clB L N h) (fgB L N h) q s k) s)) (v.1, r, v.2.2) = some (z, (v.1, r', v.2.2)) := by
  have h2k : 2 ^ k ≤ 128 := Nat.pow_le_pow_right (n := 2) (by decide) hk
  intro n
  induction n with
  | zero => intro s m r _ h2; exact absurd h2 (Nat.not_lt_zero _)
  | succ n ih =>
    intro s m r hs hm
    rw [f_X6_mist_97, one_shl k (by omega)]
    by_cases e : s = 2 ^ k
    · subst e
      rw [if_pos (le_self _), sum_prF, hz, Option.bind_some]
      exact ⟨r, rfl⟩
    · obtain ⟨r1, e1⟩ := mist111 I hT hh K hq hk (show s < 256 by omega) (fun a0 a1 a2 => f_X6_mist_97 (nI k) B (nI x) (nI h) (nI (q + 1)) n a0 a1 a2) (sumN (fun s => gsF (clB L N h) (fgB L N h) q s k) s) r 200 0 k (by omega) (by omega)
      rw [if_neg (ge_N (by omega) (by omega))]
      rw [show f_X6_mist_111 (fun a0 a1 a2 => f_X6_mist_97 (nI k) B (nI x) (nI h) (nI (q + 1)) n a0 a1 a2) (nI k) (v.1, r, v.2.2) (nI h) (nI s) (lN (sumN (fun s => gsF (clB L N h) (fgB L N h) q s k) s)) (nI (q + 1)) 200 (0 : Int32) (1 : Int64) = _ from e1]
      exact ih (s + 1) (m - 1) r1 (by omega) (by omega)
theorem mist75 (v : MW) (x1 x4 : Int32) {t k : Nat} (ht : t < 100) (hk : k ≤ 7) : ∀ (n i m : Nat), i + m = k → m < n → f_X6_mist_75 (nI k) v (nI t) x4 x1 n (nI i) (lN (t ^ i)) = f_X6_mist_97 (nI k) (lN (t ^ k)) x4 x1 (nI t) 200 (nI 0) (lN 0) v := by
  intro n
  induction n with
  | zero => intro i m _ h2; exact absurd h2 (Nat.not_lt_zero _)
  | succ n ih =>
    intro i m hi hm
    rw [f_X6_mist_75]
    by_cases e : i = k
    · subst e
      rw [if_pos (le_self i)]
      rfl
    · rw [if_neg (ge_N (by omega) (by omega))]
      simp only [nm]
      rw [nI_l (by omega), lN_mul, nI_1, ← Nat.pow_succ]
      exact ih (i + 1) (m - 1) (by omega) (by omega)
theorem power5 {t k : Nat} (ht : t < 100) (hk : k ≤ 7) : f_X5_power ((nI t).toInt64) (nI k) = some (lN (t ^ k)) := by
  have key : ∀ (n i m : Nat), i + m = k → m < n → f_X5_power_5 (nI k) (lN t) n (nI i) (lN (t ^ i)) = some (lN (t ^ k)) := by
    intro n
    induction n with
    | zero => intro i m _ h2; exact absurd h2 (Nat.not_lt_zero _)
    | succ n ih =>
      intro i m hi hm
      rw [f_X5_power_5]
      by_cases e : i = k
      · subst e
        rw [if_pos (le_self i)]
      · rw [if_neg (ge_N (by omega) (by omega))]
        simp only [nm]
        rw [lN_mul, nI_1, ← Nat.pow_succ]
        exact ih (i + 1) (m - 1) (by omega) (by omega)
  unfold f_X5_power
  rw [nI_l (by omega)]
  exact key 200 0 k (by omega) (by omega)
theorem pow_20 {t k : Nat} (ht : t ≤ 20) (hk : k ≤ 7) (h1 : 1 ≤ t) : t ^ k < 2 ^ 31 := by
  have h2 : t ^ k ≤ t ^ 7 := Nat.pow_le_pow_right h1 hk
  have h3 : t ^ 7 ≤ 20 ^ 7 := Nat.pow_le_pow_left ht 7
  omega
end MI
theorem op_mist : E_mist Inv := by
  intro w v hI x y z u
  have hI' := hI
  obtain ⟨⟨N, T, n1, n2, I, n4, n5, K⟩, b⟩ := hI
  have hN := I.2.1
  show Eq2 Inv _ _
  unfold f_X5_mist f_X6_mist
  rcases hs6 I K x with ⟨h1, h2⟩ | ⟨h, hh, rfl, h1, h2⟩
  · rw [h1, h2, Option.bind_some, Option.bind_some, if_pos rfl, if_pos rfl]
    exact refL_no (x := (-1 : Int32)) hI' 1 (by decide) (by decide) rfl
  have r4 := refL_no (x := (-4 : Int32)) hI' 4 (by decide) (by decide) rfl
  have r6 := refL_no (x := (-6 : Int32)) hI' 6 (by decide) (by decide) rfl
  have r2 := refL_no (x := (-2 : Int32)) hI' 2 (by decide) (by decide) rfl
  rw [h1, h2, Option.bind_some, Option.bind_some, if_neg one_ne, if_neg one_ne]
  by_cases y0 : y < 0
  · rw [if_pos y0, if_pos y0]; exact r4
  rw [if_neg y0, if_neg y0]
  by_cases z0 : (2 : Int32) ≤ z
  rotate_left
  · rw [if_neg z0, if_neg z0]; exact r4
  rw [if_pos z0, if_pos z0]
  by_cases y7 : (7 : Int32) < y
  · rw [if_pos y7, if_pos y7]; exact r6
  rw [if_neg y7, if_neg y7]
  by_cases z20 : z ≤ (20 : Int32)
  rotate_left
  · rw [if_neg z20, if_neg z20]; exact r6
  rw [if_pos z20, if_pos z20]
  obtain ⟨k, hk31, rfl⟩ := nI_of y0
  have hk : k ≤ 7 := Nat.not_lt.1 fun q => y7 (nI_lt (a := 7) q hk31)
  obtain ⟨t, ht31, rfl⟩ := nI_of (show ¬ z < 0 from fun q => absurd (Int32.lt_of_le_of_lt z0 q) (by decide))
  have ht : t ≤ 20 := Nat.not_lt.1 fun q => absurd z20 (nI_ge (a := 20) q ht31)
  have ht2 : 2 ≤ t := Nat.not_lt.1 fun q => absurd z0 (nI_ge (b := 2) q (by decide))
  obtain ⟨q, rfl⟩ : ∃ q, t = q + 1 := ⟨t - 1, by omega⟩
  have isI : ∀ k : Nat, k < 2 → f_X6_isIn (nI k) (0 : Int32) (1 : Int32) = some 1 := by decide +kernel
  have fin : ∀ a : Nat, a < 2 → Eq2 Inv (f_X5_mist_70 (nI h) (nI k) (nI (q + 1)) (nI a) w) (f_X6_mist_75 (nI k) v (nI (q + 1)) (nI a) (nI h) 200 (0 : Int32) (1 : Int64)) := by
    intro a ha
    have hB : (q + 1) ^ k < 2 ^ 31 := pow_20 ht hk (by omega)
    have hA : prF (clB w.1.1 N h) (fgB w.1.1 N h) q k < 2 ^ 31 := Nat.lt_of_le_of_lt (prF_le _ _ q k) hB
    obtain ⟨t', e1, q1⟩ := mist5 I hh (show q < 20 by omega) hk w.1 rfl
    obtain ⟨zz, g1, g2⟩ := terms_k hA (Nat.pow_pos (show 0 < q + 1 by omega)) hB ha
    obtain ⟨r', e2⟩ := mist97 I n2 hh K (show q < 20 by omega) hk g2 200 0 (2 ^ k) v.2.1 (by omega) (by have := Nat.pow_le_pow_right (n := 2) (by decide) hk; omega)
    unfold f_X5_mist_70
    rw [e1, Option.bind_some, power5 (by omega) hk, Option.bind_some, g1, Option.bind_some]
    rw [show f_X6_mist_75 (nI k) v (nI (q + 1)) (nI a) (nI h) 200 (0 : Int32) (1 : Int64) = _ from mist75 v (nI h) (nI a) (show q + 1 < 100 by omega) hk 200 0 k (by omega) (by omega)]
    rw [show f_X6_mist_97 (nI k) (lN ((q + 1) ^ k)) (nI a) (nI h) (nI (q + 1)) 200 (nI 0) (lN 0) v = _ from e2]
    exact Eq2_some rfl (Inv_t hI' t' q1 r')
  by_cases u0 : u = 0
  · subst u0
    rw [if_pos rfl, show f_X6_isIn (0 : Int32) (0 : Int32) (1 : Int32) = some 1 from isI 0 (by decide), Option.bind_some, if_neg one_ne]
    exact fin 0 (by decide)
  by_cases u1 : u = 1
  · subst u1
    rw [if_neg one_ne, if_pos rfl, show f_X6_isIn (1 : Int32) (0 : Int32) (1 : Int32) = some 1 from isI 1 (by decide), Option.bind_some, if_neg one_ne]
    exact fin 1 (by decide)
  have hIn : f_X6_isIn u (0 : Int32) (1 : Int32) = some 0 := by
    rcases isIn_0 u 1 (by decide) with q | ⟨k, hk, rfl, q⟩
    · exact q.1
    · exfalso
      have : k = 0 ∨ k = 1 := by omega
      rcases this with rfl | rfl
      · exact u0 rfl
      · exact u1 rfl
  rw [if_neg u0, if_neg u1, hIn, Option.bind_some, if_pos rfl]
  exact r2
