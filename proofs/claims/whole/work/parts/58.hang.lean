/-! pure: who hangs: the closure, and the class's way to it -/
def anyB (p : Nat → Bool) : Nat → Bool
  | 0 => false
  | n + 1 => anyB p n || p n
theorem anyB_iff {p : Nat → Bool} : ∀ {n : Nat}, anyB p n = true ↔ ∃ i, i < n ∧ p i = true
  | 0 => by simp [anyB]
  | n + 1 => by
    unfold anyB
    rw [Bool.or_eq_true, anyB_iff]
    constructor
    · rintro (⟨i, h1, h2⟩ | h)
      · exact ⟨i, by omega, h2⟩
      · exact ⟨n, by omega, h⟩
    · rintro ⟨i, h1, h2⟩
      by_cases e : i = n
      · subst e; exact Or.inr h2
      · exact Or.inl ⟨i, by omega, h2⟩
theorem anyB_ext {p q : Nat → Bool} {n : Nat} (h : ∀ i, i < n → p i = q i) : anyB p n = anyB q n := by
  rw [Bool.eq_iff_iff, anyB_iff, anyB_iff]
  constructor <;> rintro ⟨i, h1, h2⟩
  · exact ⟨i, h1, by rw [← h i h1]; exact h2⟩
  · exact ⟨i, h1, by rw [h i h1]; exact h2⟩
theorem mask_ne0 {p : Nat → Bool} {n : Nat} : mask p n ≠ 0 ↔ anyB p n = true := by
  rw [anyB_iff, Ne, mask_0]
  constructor
  · intro h
    refine Classical.byContradiction fun q => h fun i hi => ?_
    cases hp : p i with
    | false => rfl
    | true => exact absurd ⟨i, hi, hp⟩ q
  · rintro ⟨i, h1, h2⟩ h
    rw [h i h1] at h2
    cases h2
def hangK (adj : Nat → Nat → Bool) (sea lit : Nat → Bool) (N : Nat) : Nat → Nat → Bool
  | 0, h => lit h && sea h
  | k + 1, h => hangK adj sea lit N k h || (lit h && anyB (fun o => adj h o && hangK adj sea lit N k o) N)
def hangB (adj : Nat → Nat → Bool) (sea lit : Nat → Bool) (N : Nat) : Nat → Bool := hangK adj sea lit N N
section HG
variable (adj : Nat → Nat → Bool) (sea lit : Nat → Bool) (N : Nat)
theorem hangK_mono {k h : Nat} (q : hangK adj sea lit N k h = true) : hangK adj sea lit N (k + 1) h = true := by
  unfold hangK
  rw [q]; rfl
theorem hangK_lit {k h : Nat} (q : hangK adj sea lit N k h = true) : lit h = true := by
  induction k with
  | zero => unfold hangK at q; simp at q; exact q.1
  | succ k ih =>
    unfold hangK at q
    rw [Bool.or_eq_true] at q
    rcases q with q | q
    · exact ih q
    · simp at q; exact q.1
theorem hangK_stable {k : Nat} (q : ∀ h, h < N → hangK adj sea lit N (k + 1) h = hangK adj sea lit N k h) : ∀ j h, h < N → hangK adj sea lit N (k + j) h = hangK adj sea lit N k h := by
  intro j
  induction j with
  | zero => intro h hh; rfl
  | succ j ih =>
    intro h hh
    rw [← q h hh, show k + (j + 1) = (k + j) + 1 by omega]
    unfold hangK
    rw [ih h hh, anyB_ext (q := fun o => adj h o && hangK adj sea lit N k o) (fun i hi => by rw [ih i hi])]
/-- those that are new in round k -/
def freshK : Nat → Nat → Bool
  | 0, h => hangK adj sea lit N 0 h
  | k + 1, h => hangK adj sea lit N (k + 1) h && !hangK adj sea lit N k h
theorem freshK_s (k h : Nat) : freshK adj sea lit N (k + 1) h = (hangK adj sea lit N (k + 1) h && !hangK adj sea lit N k h) := rfl
theorem hangK_s (k h : Nat) : hangK adj sea lit N (k + 1) h = (hangK adj sea lit N k h || (lit h && anyB (fun o => adj h o && hangK adj sea lit N k o) N)) := rfl
theorem fresh_any {k h : Nat} (hl : lit h = true) (hk : hangK adj sea lit N k h = false) : anyB (fun o => adj h o && freshK adj sea lit N k o) N = anyB (fun o => adj h o && hangK adj sea lit N k o) N := by
  cases k with
  | zero => rfl
  | succ j =>
    rw [Bool.eq_iff_iff, anyB_iff, anyB_iff]
    constructor
    · rintro ⟨o, h1, h2⟩
      rw [freshK_s] at h2
      simp only [Bool.and_eq_true] at h2
      exact ⟨o, h1, by rw [h2.1, h2.2.1]; rfl⟩
    · rintro ⟨o, h1, h2⟩
      simp only [Bool.and_eq_true] at h2
      refine ⟨o, h1, ?_⟩
      cases ho : hangK adj sea lit N j o with
      | false => rw [freshK_s, h2.1, h2.2, ho]; rfl
      | true =>
        exfalso
        have : hangK adj sea lit N (j + 1) h = true := by
          rw [hangK_s, Bool.or_eq_true]
          refine Or.inr ?_
          rw [hl, Bool.true_and, anyB_iff]
          exact ⟨o, h1, by rw [h2.1, ho]; rfl⟩
        rw [this] at hk
        cases hk
theorem fresh_step (k h : Nat) : ((lit h && !hangK adj sea lit N k h) && anyB (fun o => adj h o && freshK adj sea lit N k o) N) = freshK adj sea lit N (k + 1) h := by
  rw [freshK_s, hangK_s]
  cases hk : hangK adj sea lit N k h with
  | true => simp
  | false =>
    cases hl : lit h with
    | false => simp
    | true => rw [fresh_any adj sea lit N hl hk]; simp
theorem hang_step (k h : Nat) : (hangK adj sea lit N k h || freshK adj sea lit N (k + 1) h) = hangK adj sea lit N (k + 1) h := by
  rw [freshK_s]
  cases hk : hangK adj sea lit N k h with
  | true => rw [hangK_mono adj sea lit N hk]; rfl
  | false => simp
theorem fresh_none {k : Nat} (q : ∀ h, h < N → freshK adj sea lit N k h = false) (hk : k ≤ N) {h : Nat} (hh : h < N) : hangK adj sea lit N k h = hangB adj sea lit N h := by
  unfold hangB
  cases k with
  | zero =>
    have h0 : ∀ h, h < N → hangK adj sea lit N 0 h = false := q
    have := hangK_stable adj sea lit N (k := 0) (fun h hh => by
      rw [h0 h hh]
      unfold hangK
      rw [h0 h hh, Bool.false_or]
      cases hl : lit h with
      | false => rfl
      | true =>
        rw [Bool.true_and]
        cases ha : anyB (fun o => adj h o && hangK adj sea lit N 0 o) N with
        | false => rfl
        | true =>
          obtain ⟨o, h1, h2⟩ := anyB_iff.mp ha
          rw [h0 o h1] at h2
          simp at h2) N h hh
    rw [Nat.zero_add] at this
    exact this.symm
  | succ j =>
    have hs : ∀ h, h < N → hangK adj sea lit N (j + 1) h = hangK adj sea lit N j h := by
      intro h hh
      have := q h hh
      rw [freshK_s] at this
      cases hj : hangK adj sea lit N j h with
      | true => exact hangK_mono adj sea lit N hj
      | false => rw [hj] at this; simpa using this
    have := hangK_stable adj sea lit N hs (N - j) h hh
    rw [show j + (N - j) = N by omega] at this
    rw [hs h hh, this]
end HG
theorem hangK_ext {adj adj' : Nat → Nat → Bool} {sea sea' lit lit' : Nat → Bool} {N : Nat} (h1 : ∀ h o, h < N → o < N → adj h o = adj' h o) (h2 : ∀ h, h < N → sea h = sea' h) (h3 : ∀ h, h < N → lit h = lit' h) : ∀ k h, h < N → hangK adj sea lit N k h = hangK adj' sea' lit' N k h
  | 0, h, hh => by unfold hangK; rw [h2 h hh, h3 h hh]
  | k + 1, h, hh => by
    unfold hangK
    rw [hangK_ext h1 h2 h3 k h hh, h3 h hh, anyB_ext (q := fun o => adj' h o && hangK adj' sea' lit' N k o) (fun i hi => by rw [h1 h i hh hi, hangK_ext h1 h2 h3 k i hi])]
/-! the class's seeing and hanging -/
theorem pl_seeing {S : SG} {L : LD} {e : Nat → Int32} {N : Nat} (hN : N ≤ 8) (K : LookOK S L e N) (p q : Nat → Bool) : f_X3_seeing S (nI (mask p N)) (nI (mask q N)) = some (nI (mask (fun h => p h && anyB (fun o => adjB L e h o && q o) N) N)) := by
  unfold f_X3_seeing
  refine loopS (fun n i (s : Nat) => f_X3_seeing_5 S (nI (mask p N)) (nI (mask q N)) n (nI i) (nI s)) N (fun i => mask (fun h => p h && anyB (fun o => adjB L e h o && q o) N) i) _ ?_ ?_ 200 0 (Nat.zero_le _) (by omega)
  · intro n
    show f_X3_seeing_5 S _ _ (n + 1) (nI N) _ = _
    rw [f_X3_seeing_5, if_pos (by rw [show S.2.2.2 = nI N from K.1]; exact le_self N)]
  · intro n i hi
    show f_X3_seeing_5 S _ _ (n + 1) (nI i) _ = f_X3_seeing_5 S _ _ n (nI (i + 1)) _
    rw [f_X3_seeing_5, if_neg (by rw [show S.2.2.2 = nI N from K.1]; exact ge_N (by omega) hi), tab_has5 _ (mask_256 p hN) i (by omega), Option.bind_some, mask_tb, nI_1]
    simp only [hi, decide_true, Bool.true_and]
    cases hp : p i with
    | false =>
      rw [mask_no _ _ (by rw [hp]; rfl)]
      rfl
    | true =>
      rw [if_neg (by decide), if_pos (inR8 hi hN), nI_clamp (by omega), show S.2.1 i = _ from K.2.2.1 i hi, fa_and, mask_and]
      have hlt : mask (fun o => adjB L e i o && q o) N < 256 := mask_256 _ hN
      by_cases hz : mask (fun o => adjB L e i o && q o) N = 0
      · rw [if_pos ((nI_z (by omega)).mpr hz)]
        have ha : anyB (fun o => adjB L e i o && q o) N = false := by
          cases h9 : anyB (fun o => adjB L e i o && q o) N with
          | false => rfl
          | true => exact absurd hz (mask_ne0.mpr h9)
        rw [mask_no _ _ (by rw [hp, ha]; rfl)]
      · rw [if_neg (fun h9 => hz ((nI_z (by omega)).mp h9)), nm, one_shl i (by omega), fa_or, mask_or _ _ (by rw [hp, mask_ne0.mp hz]; rfl)]
def hangS (L : LD) (e : Nat → Int32) (N : Nat) (lit : Nat → Bool) : Nat → Bool := hangB (adjB L e) (seaB L e) lit N
theorem pl_hanging {S : SG} {L : LD} {e : Nat → Int32} {N : Nat} (hN : N ≤ 8) (K : LookOK S L e N) (p : Nat → Bool) : f_X3_hanging S (nI (mask p N)) = some (nI (mask (hangS L e N p) N)) := by
  unfold f_X3_hanging
  rw [nm, show S.2.2.1 = _ from K.2.2.2, fa_and, mask_and]
  have key : ∀ (n k : Nat), k ≤ N → N - k < n → f_X3_hanging_12 S (nI (mask p N)) n (nI k) (nI (mask (freshK (adjB L e) (seaB L e) p N k) N)) (nI (mask (hangK (adjB L e) (seaB L e) p N k) N)) = some (nI (mask (hangS L e N p) N)) := by
    intro n
    induction n with
    | zero => intro k h1 h2; exact absurd h2 (Nat.not_lt_zero _)
    | succ n ih =>
      intro k h1 h2
      rw [f_X3_hanging_12]
      by_cases hk : k = N
      · subst hk
        rw [if_pos (by rw [show S.2.2.2 = nI k from K.1]; exact le_self k)]
        rfl
      · have hlt : k < N := by omega
        rw [if_neg (by rw [show S.2.2.2 = nI N from K.1]; exact ge_N (by omega) hlt)]
        have hm : mask (freshK (adjB L e) (seaB L e) p N k) N < 256 := mask_256 _ hN
        by_cases hz : mask (freshK (adjB L e) (seaB L e) p N k) N = 0
        · rw [if_pos ((nI_z (by omega)).mpr hz), mask_ext (fun h hh => fresh_none _ _ _ _ (mask_0.mp hz) h1 hh)]
          rfl
        · rw [if_neg (fun h9 => hz ((nI_z (by omega)).mp h9)), fa_diff, mask_diff, pl_seeing hN K, Option.bind_some, nm, mask_ext (fun h _ => fresh_step (adjB L e) (seaB L e) p N k h), fa_or, mask_un, nI_1, mask_ext (fun h _ => hang_step (adjB L e) (seaB L e) p N k h)]
          exact ih (k + 1) hlt (by omega)
  exact key 200 0 (Nat.zero_le _) (by omega)
