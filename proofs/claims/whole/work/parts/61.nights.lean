/-! pure: nights in the reference's row -/
def zr : Nat → Int32 := fun _ => 0
theorem eyeR_0 (L : LD) : eyeR L zr = eyeL L := by
  funext h
  unfold eyeR zr
  exact Int32.add_zero _
def brn (L : LD) (h : Nat) : Int32 := if litB L h = true then burns (Lks L h) else 0
def burntL (L : LD) (N : Nat) : Int32 := sumI (brn L) N
section NR
variable {r : Nat → Int32} {L : LD} {N T : Nat} {ra : Nat → Int32}
/-- one house's WICKS written -/
theorem Rel_wk {L' : LD} {h : Nat} {x : Int32} (K : Rel r L N ra) (hh : h < N) (h1 : Lhs L' = Lhs L) (h2 : Lks L' = Lks L) (h3 : Lfs L' = Lfs L) (h4 : Lcs L' = Lcs L) (h5 : Ln L' = Ln L) (h6 : Lcl L' = Lcl L) (h7 : Lfg L' = Lfg L) (h8 : Lnt L' = Lnt L) (hx : Lwk L' h = x) (ho : ∀ o, o < N → o ≠ h → Lwk L' o = Lwk L o) : Rel (upd r (23 + 6 * h + 3) x) L' N ra := by
  obtain ⟨k0, k1, k2, k3, k4⟩ := K
  have hcl : ∀ o, calledB L' o = calledB L o := fun o => by unfold calledB; rw [h6]
  refine ⟨by rw [pk_un (by omega), h5]; exact k0, by rw [pk_un (by omega), h8]; exact k1, by rw [pk_un (by omega), h7]; exact k2, fun c hc => by rw [pk_un (by omega), h1]; exact k3 c hc, fun o ho9 => ?_⟩
  obtain ⟨g0, g1, g2, g3, g4, g5⟩ := k4 o ho9
  refine ⟨by rw [pk_un (by omega), h2]; exact g0, by rw [pk_un (by omega), h3]; exact g1, by rw [pk_un (by omega), h4]; exact g2, ?_, by rw [pk_un (by omega), hcl]; exact g4, by rw [pk_un (by omega)]; exact g5⟩
  by_cases e : o = h
  · subst e; rw [pk_us, hx]
  · rw [pk_un (by omega), ho o ho9 e]; exact g3
theorem wkAt_s (L : LD) (i h : Nat) : Lwk (nightAt L (i + 1)) h = if h = i then (if litB L i = true then Lwk L i - burns (Lks L i) else Lwk L i) else Lwk (nightAt L i) h := by
  show (if h < i + 1 ∧ litB L h = true then Lwk L h - burns (Lks L h) else Lwk L h) = _
  by_cases e : h = i
  · subst e
    rw [if_pos rfl]
    by_cases q : litB L h = true
    · rw [if_pos ⟨by omega, q⟩, if_pos q]
    · rw [if_neg (fun z => q z.2), if_neg q]
  · rw [if_neg e]
    show _ = (if h < i ∧ litB L h = true then Lwk L h - burns (Lks L h) else Lwk L h)
    by_cases q : h < i ∧ litB L h = true
    · rw [if_pos q, if_pos ⟨by omega, q.2⟩]
    · rw [if_neg q, if_neg (fun z => q ⟨by omega, z.2⟩)]
theorem tt_ne : ¬ (if true = true then (1 : Int32) else 0) = 0 := by decide
theorem ff_eq : (if false = true then (1 : Int32) else 0) = 0 := rfl
theorem nr_end {i : Nat} (I : InvL L i T) (K : Rel r (nightAt L i) i ra) : Rel (upd r 1 (r 1 + 1)) (nightL L i) i ra := by
  obtain ⟨k0, k1, k2, k3, k4⟩ := K
  have hN := I.2.1
  refine ⟨?_, ?_, ?_, fun c hc => ?_, fun o ho => ?_⟩
  · rw [pk_un (by omega)]; exact k0
  · rw [pk_us, k1]; rfl
  · rw [pk_un (by omega)]; exact k2
  · rw [pk_un (by omega)]; exact k3 c hc
  · obtain ⟨g0, g1, g2, g3, g4, g5⟩ := k4 o ho
    exact ⟨by rw [pk_un (by omega)]; exact g0, by rw [pk_un (by omega)]; exact g1, by rw [pk_un (by omega)]; exact g2, by rw [pk_un (by omega)]; exact g3, by rw [pk_un (by omega)]; exact g4, by rw [pk_un (by omega)]; exact g5⟩
theorem wkAt_i (L : LD) (i : Nat) : Lwk (nightAt L i) i = Lwk L i := by
  show (if i < i ∧ _ then _ else _) = _
  rw [if_neg (by omega)]
theorem nr_38 (I : InvL L N T) {i : Nat} {t s : Int32} (hi : i < N) (K : Rel r (nightAt L i) N ra) (ht : t = brn L i) (k0 : Int32 → Int32 → (Nat → Int32) → Option (Int32 × (Nat → Int32))) : ∃ r', f_X6_night_38 k0 (nI i) s t r = k0 (nI (i + 1)) (s + t) r' ∧ Rel r' (nightAt L (i + 1)) N ra := by
  have hN := I.2.1
  have h8 : i < 8 := by omega
  have g := K.2.2.2.2 i hi
  refine ⟨upd r (23 + 6 * i + 3) (r (23 + 6 * i + 3) - t), ?_, ?_⟩
  · unfold f_X6_night_38
    simp only [of_3, Option.bind_some, in71 h8 (show 3 < 6 by decide), cl71 h8 (show 3 < 6 by decide), ↓reduceIte, nm, nI_1]
  · refine Rel_wk K hi rfl rfl rfl rfl rfl rfl rfl rfl ?_ (fun o ho hne => ?_)
    · rw [wkAt_s, if_pos rfl, g.2.2.2.1, wkAt_i, ht]
      unfold brn
      by_cases q : litB L i = true
      · rw [if_pos q, if_pos q]
      · rw [if_neg q, if_neg q]; exact (Int32.sub_zero _).symm
    · rw [wkAt_s, if_neg hne]
theorem nr_loop (I : InvL L N T) (hT : T < 2 ^ 31) : ∀ (n i : Nat) (r : Nat → Int32), i ≤ N → N - i < n → Rel r (nightAt L i) N ra → ∃ r', f_X6_night_9 (nI (mask (litB L) N)) n (nI i) (sumI (brn L) i) r = some (burntL L N, r') ∧ Rel r' (nightL L N) N ra := by
  have hN := I.2.1
  intro n
  induction n with
  | zero => intro i r h1 h2; exact absurd h2 (Nat.not_lt_zero _)
  | succ n ih =>
    intro i r h1 h2 K
    rw [f_X6_night_9]
    have hn : r 0 = nI N := K.1.trans I.1
    by_cases hi : i = N
    · subst hi
      simp only [r71_0, r71_1, z71_0, z71_1, hn, le_self, ↓reduceIte]
      exact ⟨_, rfl, nr_end I K⟩
    · have hlt : i < N := by omega
      have h8 : i < 8 := by omega
      have g := K.2.2.2.2 i hlt
      simp only [r71_0, z71_0, hn, ge_N (show N < 2 ^ 31 by omega) hlt, ↓reduceIte]
      rw [tab_has6 _ (mask_256 _ hN) i h8, Option.bind_some, mask_tb]
      simp only [hlt, decide_true, Bool.true_and]
      have go : ∀ t : Int32, t = brn L i → ∃ r', f_X6_night_38 (fun a0 a1 a2 => f_X6_night_9 (nI (mask (litB L) N)) n a0 a1 a2) (nI i) (sumI (brn L) i) t r = some (burntL L N, r') ∧ Rel r' (nightL L N) N ra := by
        intro t ht
        obtain ⟨r1, e1, K1⟩ := nr_38 (s := sumI (brn L) i) I hlt K ht (fun a0 a1 a2 => f_X6_night_9 (nI (mask (litB L) N)) n a0 a1 a2)
        rw [e1, ht]
        exact ih (i + 1) r1 hlt (by omega) K1
      have h71 := in71z h8
      have hc71 := cl71z h8
      cases q : litB L i with
      | true =>
        rw [if_neg tt_ne]
        rw [of_0, Option.bind_some, if_pos h71, hc71, g.1, burns6, Option.bind_some]
        exact go _ (by unfold brn; rw [if_pos q]; rfl)
      | false =>
        rw [if_pos ff_eq]
        exact go 0 (by unfold brn; rw [if_neg (by rw [q]; decide)])
theorem night6 (I : InvL L N T) (hT : T < 2 ^ 31) (K : Rel r L N ra) : ∃ r', f_X6_night r = some (burntL L N, r') ∧ Rel r' (nightL L N) N ra := by
  unfold f_X6_night
  rw [lit6 I hT K, Option.bind_some]
  have h0 : nightAt L 0 = L := by
    unfold nightAt
    have : (fun h => if h < 0 ∧ litB L h = true then Lwk L h - burns (Lks L h) else Lwk L h) = Lwk L := by
      funext h
      rw [if_neg (by omega)]
    rw [this]
  exact nr_loop I hT 200 0 r (Nat.zero_le _) (by have := I.2.1; omega) (by rw [h0]; exact K)
def burntsL (L : LD) (N : Nat) : Nat → Int32
  | 0 => 0
  | k + 1 => burntsL L N k + burntL (nightsL L N k) N
theorem nights6 (I : InvL L N T) {m : Nat} (hT : T + m < 2 ^ 31) (hm : m < 200) (K : Rel r L N ra) : ∃ r', f_X6_nightsOn r (nI m) = some (burntsL L N m, r') ∧ Rel r' (nightsL L N m) N ra := by
  have key : ∀ (n i : Nat) (r : Nat → Int32), i ≤ m → m - i < n → Rel r (nightsL L N i) N ra → ∃ r', f_X6_nightsOn_4 (nI m) n (nI i) (burntsL L N i) r = some (burntsL L N m, r') ∧ Rel r' (nightsL L N m) N ra := by
    intro n
    induction n with
    | zero => intro i r h1 h2; exact absurd h2 (Nat.not_lt_zero _)
    | succ n ih =>
      intro i r h1 h2 K
      rw [f_X6_nightsOn_4]
      by_cases hi : i = m
      · subst hi
        rw [if_pos (le_self i)]
        exact ⟨r, rfl, K⟩
      · have hlt : i < m := by omega
        obtain ⟨r1, q1, q2⟩ := night6 (inv_nights I i) (by omega) K
        rw [if_neg (ge_N (by omega) hlt), q1, Option.bind_some, nm, nI_1]
        exact ih (i + 1) r1 hlt (by omega) q2
  unfold f_X6_nightsOn
  exact key 200 0 r (Nat.zero_le _) (by omega) K
theorem allWicks6 (I : InvL L N T) (K : Rel r L N ra) : f_X6_allWicks r = some (sumI (Lwk L) N) := by
  have hN := I.2.1
  unfold f_X6_allWicks
  refine loopS (fun n i (s : Int32) => f_X6_allWicks_4 r n (nI i) s) N (fun i => sumI (Lwk L) i) _ ?_ ?_ 200 0 (Nat.zero_le _) (by omega)
  · intro n
    show f_X6_allWicks_4 r (n + 1) (nI N) _ = _
    rw [f_X6_allWicks_4]
    simp only [r71_0, z71_0, K.1, I.1, le_self, ↓reduceIte]
  · intro n i hi
    have h8 : i < 8 := by omega
    show f_X6_allWicks_4 r (n + 1) (nI i) _ = f_X6_allWicks_4 r n (nI (i + 1)) _
    rw [f_X6_allWicks_4]
    simp only [r71_0, z71_0, K.1, I.1, ge_N (show N < 2 ^ 31 by omega) hi, ↓reduceIte, of_3, Option.bind_some, in71 h8 (show 3 < 6 by decide), cl71 h8 (show 3 < 6 by decide), nm, nI_1, (K.2.2.2.2 i hi).2.2.2.1]
    rfl
end NR
theorem sumI_ext {f g : Nat → Int32} : ∀ {n : Nat}, (∀ i, i < n → f i = g i) → sumI f n = sumI g n
  | 0, _ => rfl
  | n + 1, h => by
    unfold sumI
    rw [sumI_ext (fun i hi => h i (by omega)), h n (by omega)]
theorem add4 (a b c d : Int32) : (a + b) + (c + d) = (a + c) + (b + d) := by
  rw [Int32.add_assoc, Int32.add_assoc, ← Int32.add_assoc b, Int32.add_comm b c, Int32.add_assoc]
theorem sumI_add (f g : Nat → Int32) : ∀ n, sumI (fun i => f i + g i) n = sumI f n + sumI g n
  | 0 => rfl
  | n + 1 => by
    unfold sumI
    rw [sumI_add f g n, add4]
theorem burnt_wicks (L : LD) (N : Nat) : sumI (Lwk L) N = sumI (Lwk (nightL L N)) N + burntL L N := by
  unfold burntL
  rw [← sumI_add]
  refine sumI_ext fun h hh => ?_
  show Lwk L h = (if h < N ∧ litB L h = true then Lwk L h - burns (Lks L h) else Lwk L h) + (if litB L h = true then burns (Lks L h) else 0)
  by_cases q : litB L h = true
  · rw [if_pos ⟨hh, q⟩, if_pos q, Int32.sub_add_cancel]
  · rw [if_neg (fun z => q z.2), if_neg q, Int32.add_zero]
theorem burnts_wicks (L : LD) (N : Nat) : ∀ k, sumI (Lwk L) N = sumI (Lwk (nightsL L N k)) N + burntsL L N k
  | 0 => (Int32.add_zero _).symm
  | k + 1 => by
    rw [burnts_wicks L N k, burnt_wicks (nightsL L N k) N, burntsL, Int32.add_assoc, Int32.add_comm (burntL _ _)]
    rfl
