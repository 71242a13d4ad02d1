/-! pure: the ways of news -/
section WY
variable (adj : Nat → Nat → Bool) (sea lit : Nat → Bool) (N : Nat)
def wyF : Nat → Nat → Nat
  | 0, _ => 0
  | k + 1, h => if freshK adj sea lit N k h = true then k + 1 else wyF k h
theorem fresh_mt {k : Nat} (q : ∀ h, h < N → freshK adj sea lit N k h = false) : ∀ h, h < N → freshK adj sea lit N (k + 1) h = false := by
  intro h hh
  rw [← fresh_step adj sea lit N k h]
  have : anyB (fun o => adj h o && freshK adj sea lit N k o) N = false := by
    cases ha : anyB (fun o => adj h o && freshK adj sea lit N k o) N with
    | false => rfl
    | true =>
      obtain ⟨o, h1, h2⟩ := anyB_iff.mp ha
      rw [q o h1, Bool.and_false] at h2
      cases h2
  rw [this, Bool.and_false]
theorem fresh_mts {k : Nat} (q : ∀ h, h < N → freshK adj sea lit N k h = false) : ∀ n h, h < N → freshK adj sea lit N (k + n) h = false
  | 0 => q
  | n + 1 => fresh_mt adj sea lit N (fresh_mts q n)
theorem wy_stop {k : Nat} (q : ∀ h, h < N → freshK adj sea lit N k h = false) : ∀ n h, h < N → wyF adj sea lit N (k + n) h = wyF adj sea lit N k h
  | 0, _, _ => rfl
  | n + 1, h, hh => by
    show (if freshK adj sea lit N (k + n) h = true then k + n + 1 else wyF adj sea lit N (k + n) h) = _
    rw [fresh_mts adj sea lit N q n h hh, if_neg (by decide)]
    exact wy_stop q n h hh
theorem hangK_le {k h : Nat} (q : hangK adj sea lit N k h = true) : ∀ n, hangK adj sea lit N (k + n) h = true
  | 0 => q
  | n + 1 => hangK_mono adj sea lit N (hangK_le q n)
theorem fresh_far : ∀ k h, h < N → freshK adj sea lit N k h = true → k + 1 ≤ cntB (hangK adj sea lit N k) N
  | 0, h, hh, q => by
    have := cntB_lt (p := fun _ => false) (q := hangK adj sea lit N 0) (n := N) (fun _ _ h => by cases h) ⟨h, hh, q, rfl⟩
    omega
  | k + 1, h, hh, q => by
    have hq := q
    rw [freshK_s] at q
    simp only [Bool.and_eq_true, Bool.not_eq_true'] at q
    have hne : ∃ o, o < N ∧ freshK adj sea lit N k o = true := by
      refine Classical.byContradiction fun z => ?_
      have := fresh_mt adj sea lit N (k := k) (fun o ho => by
        cases ho2 : freshK adj sea lit N k o with
        | false => rfl
        | true => exact absurd ⟨o, ho, ho2⟩ z) h hh
      rw [this] at hq
      cases hq
    obtain ⟨o, ho, ho2⟩ := hne
    have h1 := fresh_far k o ho ho2
    have h2 := cntB_lt (p := hangK adj sea lit N k) (q := hangK adj sea lit N (k + 1)) (n := N) (fun i _ z => hangK_mono adj sea lit N z) ⟨h, hh, q.1, q.2⟩
    omega
theorem wy_none {h : Nat} (q : ∀ j, hangK adj sea lit N j h = false) : ∀ n, wyF adj sea lit N n h = 0
  | 0 => rfl
  | n + 1 => by
    have : freshK adj sea lit N n h = false := by
      cases n with
      | zero => exact q 0
      | succ n => rw [freshK_s, q (n + 1)]; rfl
    show (if freshK adj sea lit N n h = true then n + 1 else wyF adj sea lit N n h) = 0
    rw [this, if_neg (by decide)]
    exact wy_none q n
theorem fresh_at {h d : Nat} (q : hangK adj sea lit N d h = true) (l : ∀ j, j < d → hangK adj sea lit N j h = false) (n : Nat) : freshK adj sea lit N n h = decide (n = d) := by
  rcases Nat.lt_trichotomy n d with z | z | z
  · rw [decide_eq_false (by omega)]
    cases n with
    | zero => exact l 0 z
    | succ n => rw [freshK_s, l (n + 1) z]; rfl
  · subst z
    rw [decide_eq_true rfl]
    cases n with
    | zero => exact q
    | succ n => rw [freshK_s, q, l n (by omega)]; rfl
  · rw [decide_eq_false (by omega)]
    obtain ⟨m, rfl⟩ : ∃ m, n = d + m + 1 := ⟨n - d - 1, by omega⟩
    rw [freshK_s, hangK_le adj sea lit N q m]
    simp
theorem wy_some {h d : Nat} (q : hangK adj sea lit N d h = true) (l : ∀ j, j < d → hangK adj sea lit N j h = false) : ∀ n, wyF adj sea lit N n h = if d < n then d + 1 else 0
  | 0 => by rw [if_neg (by omega)]; rfl
  | n + 1 => by
    show (if freshK adj sea lit N n h = true then n + 1 else wyF adj sea lit N n h) = _
    rw [fresh_at adj sea lit N q l n, wy_some q l n]
    by_cases z : n = d
    · subst z; rw [decide_eq_true rfl, if_pos rfl, if_pos (by omega)]
    · rw [decide_eq_false z, if_neg (by decide)]
      by_cases y : d < n
      · rw [if_pos y, if_pos (by omega)]
      · rw [if_neg y, if_neg (by omega)]
theorem way_spec {h : Nat} (hh : h < N) : (wyF adj sea lit N N h = 0 ∧ ∀ j, hangK adj sea lit N j h = false) ∨ ∃ d, wyF adj sea lit N N h = d + 1 ∧ d < N ∧ hangK adj sea lit N d h = true ∧ ∀ j, j < d → hangK adj sea lit N j h = false := by
  by_cases z : ∃ j, hangK adj sea lit N j h = true
  · obtain ⟨d, h1, h2⟩ := pk_least _ z
    have h3 : ∀ j, j < d → hangK adj sea lit N j h = false := fun j hj => by
      cases y : hangK adj sea lit N j h with
      | false => rfl
      | true => exact absurd y (h2 j hj)
    have h4 : freshK adj sea lit N d h = true := by rw [fresh_at adj sea lit N h1 h3 d, decide_eq_true rfl]
    have h5 := fresh_far adj sea lit N d h hh h4
    have h6 := cntB_le (hangK adj sea lit N d) N
    refine .inr ⟨d, ?_, by omega, h1, h3⟩
    rw [wy_some adj sea lit N h1 h3 N, if_pos (by omega)]
  · have h3 : ∀ j, hangK adj sea lit N j h = false := fun j => by
      cases y : hangK adj sea lit N j h with
      | false => rfl
      | true => exact absurd ⟨j, y⟩ z
    exact .inl ⟨wy_none adj sea lit N h3 N, h3⟩
def unK : Nat → Nat → Bool
  | 0, h => lit h
  | k + 1, h => lit h && !hangK adj sea lit N k h
theorem un_step (k h : Nat) : (unK adj sea lit N k h && !freshK adj sea lit N k h) = unK adj sea lit N (k + 1) h := by
  cases k with
  | zero => rfl
  | succ k =>
    show ((lit h && !hangK adj sea lit N k h) && !freshK adj sea lit N (k + 1) h) = (lit h && !hangK adj sea lit N (k + 1) h)
    rw [freshK_s]
    cases z : hangK adj sea lit N k h with
    | true => rw [hangK_mono adj sea lit N z]; simp
    | false => simp
theorem wyF_le : ∀ n h, wyF adj sea lit N n h ≤ n
  | 0, _ => Nat.le_refl _
  | n + 1, h => by
    have := wyF_le n h
    unfold wyF
    split <;> omega
end WY
section W5
variable {L : LD} {N T : Nat}
abbrev hkN (L : LD) (N k : Nat) : Nat → Bool := hangK (adjB L (eyeL L)) (seaB L (eyeL L)) (hg L N 0) N k
abbrev fkN (L : LD) (N k : Nat) : Nat → Bool := freshK (adjB L (eyeL L)) (seaB L (eyeL L)) (hg L N 0) N k
abbrev ukN (L : LD) (N k : Nat) : Nat → Bool := unK (adjB L (eyeL L)) (seaB L (eyeL L)) (hg L N 0) N k
abbrev wyN (L : LD) (N k : Nat) : Nat → Nat := wyF (adjB L (eyeL L)) (seaB L (eyeL L)) (hg L N 0) N k
theorem wyN_s (L : LD) (N k h : Nat) : wyN L N (k + 1) h = if fkN L N k h = true then k + 1 else wyN L N k h := rfl
/-- a thought over L whose ways are told by f -/
def WOK (t : TW) (L : LD) (N : Nat) (f : Nat → Nat) : Prop := t.1 = L ∧ t.2.1 = L ∧ LookOK t.2.2.1 L (eyeL L) N ∧ ∀ h, h < N → t.2.2.2.2.1 h = nI (f h)
def mxW (L : LD) (N k i h : Nat) : Nat := if h < i then wyN L N (k + 1) h else wyN L N k h
theorem ways47 (I : InvL L N T) (k0 : Int32 → Int32 → Int32 → TW → Option TW) (k : Nat) : ∀ (n i m : Nat) (t : TW), i + m = N → m < n → WOK t L N (mxW L N k i) → ∃ t', f_X4_measureWays_47 k0 (nI (mask (ukN L N k) N)) (nI (mask (fkN L N k) N)) (nI (k + 1)) n (nI i) t = k0 (nI (k + 1 + 1)) (nI (mask (fkN L N (k + 1)) N)) (nI (mask (ukN L N (k + 1)) N)) t' ∧ WOK t' L N (wyN L N (k + 1)) := by
  have hN := I.2.1
  intro n
  induction n with
  | zero => intro i m t _ h2; exact absurd h2 (Nat.not_lt_zero _)
  | succ n ih =>
    intro i m t hi hm q
    obtain ⟨q1, q2, q3, q4⟩ := q
    have hn : t.2.1.2.2.2.2.2.1 = nI N := by rw [q2]; exact I.1
    rw [f_X4_measureWays_47, hn]
    by_cases e : i = N
    · subst e
      have hx : nI (mask (ukN L i k) i) &&& (nI (mask (fkN L i k) i) ^^^ (-1 : Int32)) = nI (mask (ukN L i (k + 1)) i) := by
        rw [fa_diff, mask_diff]
        congr 1
        exact mask_ext fun h _ => un_step _ _ _ _ k h
      have hs : f_X3_seeing t.2.2.1 (nI (mask (ukN L i (k + 1)) i)) (nI (mask (fkN L i k) i)) = some (nI (mask (fkN L i (k + 1)) i)) := by
        rw [pl_seeing hN q3]
        congr 2
        exact mask_ext fun h _ => fresh_step _ _ _ _ k h
      rw [if_pos (le_self i)]
      simp only [nm]
      rw [hx, hs, Option.bind_some, nI_1]
      exact ⟨t, rfl, q1, q2, q3, fun h hh => by rw [q4 h hh, mxW, if_pos hh]⟩
    · have hlt : i < N := by omega
      rw [if_neg (ge_N (by omega) hlt), has5m hN hlt, Option.bind_some, nI_1]
      cases hf : fkN L N k i with
      | false =>
        rw [if_pos b01f]
        refine ih (i + 1) (m - 1) t (by omega) (by omega) ⟨q1, q2, q3, fun h hh => ?_⟩
        rw [q4 h hh]
        unfold mxW
        by_cases z : h < i
        · rw [if_pos z, if_pos (by omega)]
        · by_cases y : h = i
          · subst y
            rw [if_neg z, if_pos (by omega), wyN_s, hf, if_neg (by decide)]
          · rw [if_neg z, if_neg (by omega)]
      | true =>
        rw [if_neg b01t, if_pos (inR8 hlt hN), nI_clamp (by omega)]
        refine ih (i + 1) (m - 1) (t.1, t.2.1, t.2.2.1, t.2.2.2.1, upd t.2.2.2.2.1 i (nI (k + 1)), t.2.2.2.2.2.1, t.2.2.2.2.2.2) (by omega) (by omega) ⟨q1, q2, q3, fun h hh => ?_⟩
        show upd t.2.2.2.2.1 i (nI (k + 1)) h = nI (mxW L N k (i + 1) h)
        by_cases y : h = i
        · subst y
          rw [pk_us, mxW, if_pos (by omega), wyN_s, hf, if_pos rfl]
        · rw [pk_un y, q4 h hh]
          unfold mxW
          by_cases z : h < i
          · rw [if_pos z, if_pos (by omega)]
          · rw [if_neg z, if_neg (by omega)]
theorem ways29 (I : InvL L N T) : ∀ (n k m : Nat) (t : TW), k + m = N → m < n → WOK t L N (wyN L N k) → ∃ t', f_X4_measureWays_29 n (nI (k + 1)) (nI (mask (fkN L N k) N)) (nI (mask (ukN L N k) N)) t = some t' ∧ WOK t' L N (wyN L N N) := by
  have hN := I.2.1
  intro n
  induction n with
  | zero => intro k m t _ h2; exact absurd h2 (Nat.not_lt_zero _)
  | succ n ih =>
    intro k m t hk hm q
    have hn : t.2.1.2.2.2.2.2.1 = nI N := by rw [q.2.1]; exact I.1
    rw [f_X4_measureWays_29, hn]
    by_cases e : k = N
    · subst e
      rw [if_pos (show nI k < nI (k + 1) from nI_lt (by omega) (by omega))]
      exact ⟨t, rfl, q⟩
    · have hm2 : mask (fkN L N k) N < 256 := mask_256 _ hN
      rw [if_neg (show ¬ nI N < nI (k + 1) from nI_nlt (by omega) (by omega))]
      by_cases hz : mask (fkN L N k) N = 0
      · rw [if_pos ((nI_z (by omega)).mpr hz)]
        refine ⟨t, rfl, q.1, q.2.1, q.2.2.1, fun h hh => ?_⟩
        rw [q.2.2.2 h hh]
        congr 1
        have := wy_stop (adjB L (eyeL L)) (seaB L (eyeL L)) (hg L N 0) N (k := k) (mask_0.mp hz) (N - k) h hh
        rw [show k + (N - k) = N by omega] at this
        exact this.symm
      · rw [if_neg (fun h9 => hz ((nI_z (by omega)).mp h9))]
        obtain ⟨t', e1, q'⟩ := ways47 I (fun a0 a1 a2 a3 => f_X4_measureWays_29 n a0 a1 a2 a3) k 200 0 N t (by omega) (by omega) ⟨q.1, q.2.1, q.2.2.1, fun h hh => by rw [q.2.2.2 h hh, mxW, if_neg (by omega)]⟩
        rw [show f_X4_measureWays_47 (fun a0 a1 a2 a3 => f_X4_measureWays_29 n a0 a1 a2 a3) (nI (mask (ukN L N k) N)) (nI (mask (fkN L N k) N)) (nI (k + 1)) 200 (0 : Int32) t = _ from e1]
        exact ih (k + 1) (m - 1) t' (by omega) (by omega) q'
theorem ways5 (I : InvL L N T) (t : TW) (ht : t.1 = L) : ∃ t', f_X4_measureWays t = some t' ∧ WOK t' L N (wyN L N N) := by
  have hN := I.2.1
  obtain ⟨t1, e1, q1⟩ := th_begin I t ht
  unfold f_X4_measureWays f_J7_fill_53178
  rw [e1, Option.bind_some, Option.bind_some]
  rw [show f_X4_hangers (t1.1, t1.2.1, t1.2.2.1, t1.2.2.2.1, fun _ => (0 : Int32), t1.2.2.2.2.2.1, t1.2.2.2.2.2.2) = _ from th_hangers (t := (t1.1, t1.2.1, t1.2.2.1, t1.2.2.2.1, fun _ => (0 : Int32), t1.2.2.2.2.2.1, t1.2.2.2.2.2.2)) (k := 0) I ⟨q1.1, q1.2.1, q1.2.2⟩, Option.bind_some]
  simp only [nm]
  rw [show t1.2.2.1.2.2.1 = _ from q1.2.2.2.2.2, fa_and, mask_and]
  exact ways29 I 200 0 N (t1.1, t1.2.1, t1.2.2.1, t1.2.2.2.1, fun _ => (0 : Int32), t1.2.2.2.2.2.1, t1.2.2.2.2.2.2) (by omega) (by omega) ⟨q1.1, q1.2.1, q1.2.2, fun h hh => rfl⟩
end W5
