/-! pure: a land, as both sides have it. Class side. -/
abbrev Lhs (L : LD) : Nat → Int32 := L.1
abbrev Lks (L : LD) : Nat → Int32 := L.2.1
abbrev Lfs (L : LD) : Nat → Int32 := L.2.2.1
abbrev Lcs (L : LD) : Nat → Int32 := L.2.2.2.1
abbrev Lwk (L : LD) : Nat → Int32 := L.2.2.2.2.1
abbrev Ln (L : LD) : Int32 := L.2.2.2.2.2.1
abbrev Lcl (L : LD) : Int32 := L.2.2.2.2.2.2.1
abbrev Lfg (L : LD) : Int32 := L.2.2.2.2.2.2.2.1
abbrev Lnt (L : LD) : Int32 := L.2.2.2.2.2.2.2.2
def candle (k f : Int32) : Int32 := if k = 1 then 1 + f / 2 else if k = 2 then 1 else if k = 3 then 0 else if k = 4 then (1 + f / 2) + 2 else 1
def burns (k : Int32) : Int32 := if k = 1 then 2 else if k = 4 then 2 else if k = 5 then 2 else 1
def sleeps (k f t : Int32) : Bool := if k = 2 then decide (remI t (f + 2) = 0) else if k = 3 then decide (remI t (f + 2) = 0) else if k = 4 then !decide (remI t 2 = 0) else if k = 5 then decide (remI t (f + 2) = 0) || decide (remI t 3 = 0) else false
theorem candle5 (k f : Int32) : f_X0_candleOf k f = some (candle k f) := by
  unfold f_X0_candleOf candle
  repeat' split
  all_goals rfl
theorem burns5 (k : Int32) : f_X0_burnsOf k = some (burns k) := by
  unfold f_X0_burnsOf burns
  by_cases h1 : k = 1
  · simp [h1]
  by_cases h2 : k = 2
  · simp [h2]
  by_cases h3 : k = 3
  · simp [h3]
  by_cases h4 : k = 4
  · simp [h4]
  by_cases h5 : k = 5
  · simp [h5]
  simp [h1, h2, h3, h4, h5]
def b01 (b : Bool) : Int32 := if b then 1 else 0
theorem b01_0 (b : Bool) : (b01 b = 0) ↔ b = false := by cases b <;> decide
theorem ite01 {c : Prop} [Decidable c] : (if c then some (1 : Int32) else some 0) = some (b01 (decide c)) := by
  by_cases h : c <;> simp [h, b01]
theorem ite10 {c : Prop} [Decidable c] : (if c then some (0 : Int32) else some 1) = some (b01 (!decide c)) := by
  by_cases h : c <;> simp [h, b01]
theorem sleeps5 {k f t : Int32} (hf : ∃ F, F < 10 ∧ f = nI F) : f_X0_sleepsIn k f t = some (b01 (sleeps k f t)) := by
  obtain ⟨F, hF, rfl⟩ := hf
  have e : nI F + 2 = nI (F + 2) := nI_add F 2
  have h1 : ¬ nI (F + 2) ≤ 0 := nI_nle (by omega) (by omega)
  have h0 : ¬ nI (F + 2) = 0 := nI_ne0 (by omega) (by omega)
  unfold f_X0_sleepsIn sleeps nm
  simp only [e, h1, h0, ↓reduceIte, ite01, ite10]
  repeat' split
  all_goals first | rfl | (rename_i h; simp [h]; done) | (rename_i h; simp only [h, decide_true, decide_false, Bool.true_or, Bool.false_or]; rfl)
/-- what is so of a land of N houses in night T -/
def InvL (L : LD) (N T : Nat) : Prop := Ln L = nI N ∧ N ≤ 8 ∧ (∀ h, h < N → (∃ c, c < 20 ∧ Lcs L h = nI c) ∧ ∃ f, f < 10 ∧ Lfs L h = nI f) ∧ (∃ C, C < 2 ^ N ∧ Lcl L = nI C) ∧ (∃ F, F ≤ 9 ∧ Lfg L = nI F) ∧ Lnt L = nI T
def calledB (L : LD) (h : Nat) : Bool := (Lcl L).toNatClampNeg.testBit h
def litB (L : LD) (h : Nat) : Bool := !decide (Lwk L h < burns (Lks L h)) && (calledB L h || !sleeps (Lks L h) (Lfs L h) (Lnt L))
theorem c256 {C N : Nat} (h : C < 2 ^ N) (hN : N ≤ 8) : C < 256 := Nat.lt_of_lt_of_le h (Nat.pow_le_pow_right (by decide) hN)
theorem inR8 {h N : Nat} (hh : h < N) (hN : N ≤ 8) : inR (nI h) 8 = true := inR_nI (by omega) (by decide)
theorem called5 {L : LD} {N T : Nat} (I : InvL L N T) {h : Nat} (hh : h < N) : f_X5_has (Lcl L) (nI h) = some (b01 (calledB L h)) := by
  obtain ⟨h1, h2, h3, ⟨C, hC, h4⟩, h5⟩ := I
  have hc := c256 hC h2
  rw [calledB, h4, nI_clamp (by omega), tab_has5 C hc h (by omega)]
  rfl
theorem isLit5 {L : LD} {N T : Nat} (I : InvL L N T) {h : Nat} (hh : h < N) : f_X1_isLit L (nI h) = some (b01 (litB L h)) := by
  have hin := inR8 hh I.2.1
  have hc : (nI h).toNatClampNeg = h := nI_clamp (by have := I.2.1; omega)
  have hcl := called5 I hh
  have hsl := sleeps5 (k := Lks L h) (t := Lnt L) (I.2.2.1 h hh).2
  unfold f_X1_isLit litB
  simp only [hin, hc, ↓reduceIte, burns5, Option.bind_some, hcl, hsl, b01_0]
  by_cases h1 : Lwk L h < burns (Lks L h)
  · simp [h1, b01]
  · cases h2 : calledB L h <;> cases h3 : sleeps (Lks L h) (Lfs L h) (Lnt L) <;> simp [h1, b01]
def litM (L : LD) (N : Nat) : Nat := mask (litB L) N
theorem pl_lit {L : LD} {N T : Nat} (I : InvL L N T) : f_X1_lit L = some (nI (litM L N)) := by
  unfold f_X1_lit litM
  refine loopS (fun n i (s : Nat) => f_X1_lit_4 L n (nI i) (nI s)) N (fun i => mask (litB L) i) _ ?_ ?_ 200 0 (Nat.zero_le _) (by have := I.2.1; omega)
  · intro n
    show f_X1_lit_4 L (n + 1) (nI N) _ = _
    unfold f_X1_lit_4
    rw [if_pos (by rw [show L.2.2.2.2.2.1 = nI N from I.1]; exact le_self N)]
  · intro n i hi
    show f_X1_lit_4 L (n + 1) (nI i) _ = f_X1_lit_4 L n (nI (i + 1)) _
    rw [f_X1_lit_4, if_neg (by rw [show L.2.2.2.2.2.1 = nI N from I.1]; exact ge_N (by have := I.2.1; omega) hi), isLit5 I hi, Option.bind_some, nI_1]
    cases hb : litB L i with
    | false => rw [if_pos (by rfl), mask_no _ _ hb]
    | true => rw [if_neg (by decide), nm, one_shl i (by have := I.2.1; omega), fa_or, mask_or _ _ hb]

/-! a night goes by -/
def nightL (L : LD) (N : Nat) : LD := (Lhs L, Lks L, Lfs L, Lcs L, (fun h => if h < N ∧ litB L h = true then Lwk L h - burns (Lks L h) else Lwk L h), Ln L, Lcl L, Lfg L, Lnt L + 1)
def nightAt (L : LD) (i : Nat) : LD := (Lhs L, Lks L, Lfs L, Lcs L, (fun h => if h < i ∧ litB L h = true then Lwk L h - burns (Lks L h) else Lwk L h), Ln L, Lcl L, Lfg L, Lnt L)
theorem inv_wk {L L' : LD} {N T : Nat} (I : InvL L N T) (h1 : Lfs L' = Lfs L) (h2 : Lcs L' = Lcs L) (h3 : Ln L' = Ln L) (h4 : Lcl L' = Lcl L) (h5 : Lfg L' = Lfg L) (h6 : Lnt L' = Lnt L) : InvL L' N T := by
  obtain ⟨i1, i2, i3, i4, i5, i6⟩ := I
  exact ⟨h3.trans i1, i2, fun h hh => ⟨by rw [h2]; exact (i3 h hh).1, by rw [h1]; exact (i3 h hh).2⟩, by rw [h4]; exact i4, by rw [h5]; exact i5, h6.trans i6⟩
theorem inv_nightAt {L : LD} {N T : Nat} (I : InvL L N T) (i : Nat) : InvL (nightAt L i) N T := inv_wk I rfl rfl rfl rfl rfl rfl
theorem inv_night {L : LD} {N T : Nat} (I : InvL L N T) : InvL (nightL L N) N (T + 1) := by
  obtain ⟨i1, i2, i3, i4, i5, i6⟩ := I
  refine ⟨i1, i2, i3, i4, i5, ?_⟩
  show Lnt L + 1 = _
  rw [i6, nI_1]
theorem litB_nightAt (L : LD) {i h : Nat} (hi : i ≤ h) : litB (nightAt L i) h = litB L h := by
  have e : Lwk (nightAt L i) h = Lwk L h := by
    show (if h < i ∧ _ then _ else _) = _
    rw [if_neg (by omega)]
  unfold litB
  rw [e]
  rfl
theorem pl_night {L : LD} {N T : Nat} (I : InvL L N T) : f_X1_passNight L = some (nightL L N) := by
  unfold f_X1_passNight
  have h0 : nightAt L 0 = L := by
    unfold nightAt
    have : (fun h => if h < 0 ∧ litB L h = true then Lwk L h - burns (Lks L h) else Lwk L h) = Lwk L := by
      funext h
      rw [if_neg (by omega)]
    rw [this]
  rw [show f_X1_passNight_2 200 (0 : Int32) L = f_X1_passNight_2 200 (nI 0) (nightAt L 0) by rw [h0]; rfl]
  refine loopS (fun n i (s : LD) => f_X1_passNight_2 n (nI i) s) N (fun i => nightAt L i) _ ?_ ?_ 200 0 (Nat.zero_le _) (by have := I.2.1; omega)
  · intro n
    show f_X1_passNight_2 (n + 1) (nI N) _ = _
    rw [f_X1_passNight_2, if_pos (by rw [show (nightAt L N).2.2.2.2.2.1 = nI N from I.1]; exact le_self N)]
    rfl
  · intro n i hi
    have hN := I.2.1
    have hc : (nI i).toNatClampNeg = i := nI_clamp (by omega)
    show f_X1_passNight_2 (n + 1) (nI i) _ = f_X1_passNight_2 n (nI (i + 1)) _
    rw [f_X1_passNight_2, if_neg (by rw [show (nightAt L i).2.2.2.2.2.1 = nI N from I.1]; exact ge_N (by omega) hi), isLit5 (inv_nightAt I i) hi, Option.bind_some, nI_1, litB_nightAt L (Nat.le_refl i)]
    cases hb : litB L i with
    | false =>
      rw [if_pos (by rfl)]
      have : nightAt L i = nightAt L (i + 1) := by
        unfold nightAt
        have : (fun h => if h < i ∧ litB L h = true then Lwk L h - burns (Lks L h) else Lwk L h) = (fun h => if h < i + 1 ∧ litB L h = true then Lwk L h - burns (Lks L h) else Lwk L h) := by
          funext h
          by_cases he : h = i
          · subst he; rw [if_neg (by omega), if_neg (by rw [hb]; simp)]
          · by_cases hl : h < i ∧ litB L h = true
            · rw [if_pos hl, if_pos ⟨by omega, hl.2⟩]
            · rw [if_neg hl, if_neg (fun q => hl ⟨by omega, q.2⟩)]
        rw [this]
      rw [this]
    | true =>
      rw [if_neg (by decide), if_pos (inR8 hi hN), if_pos (inR8 hi hN), burns5, Option.bind_some, if_pos (inR8 hi hN), hc]
      have : (upd (nightAt L i).2.2.2.2.1 i ((nightAt L i).2.2.2.2.1 i - burns ((nightAt L i).2.1 i))) = (fun h => if h < i + 1 ∧ litB L h = true then Lwk L h - burns (Lks L h) else Lwk L h) := by
        funext h
        by_cases he : h = i
        · subst he
          rw [pk_us, if_pos ⟨by omega, hb⟩]
          show (if h < h ∧ _ then _ else _) - burns (Lks L h) = _
          rw [if_neg (by omega)]
        · rw [pk_un he]
          show (if h < i ∧ _ then _ else _) = _
          by_cases hl : h < i ∧ litB L h = true
          · rw [if_pos hl, if_pos ⟨by omega, hl.2⟩]
          · rw [if_neg hl, if_neg (fun q => hl ⟨by omega, q.2⟩)]
      rw [this]
      rfl
def nightsL (L : LD) (N : Nat) : Nat → LD
  | 0 => L
  | k + 1 => nightL (nightsL L N k) N
theorem inv_nights {L : LD} {N T : Nat} (I : InvL L N T) : ∀ k, InvL (nightsL L N k) N (T + k)
  | 0 => I
  | k + 1 => inv_night (inv_nights I k)
theorem pl_nights {L : LD} {N T : Nat} (I : InvL L N T) {k : Nat} (hk : k < 200) : f_X1_passNights L (nI k) = some (nightsL L N k) := by
  unfold f_X1_passNights
  refine loopS (fun n i (s : LD) => f_X1_passNights_2 (nI k) n (nI i) s) k (fun i => nightsL L N i) _ ?_ ?_ 200 0 (Nat.zero_le _) (by omega)
  · intro n
    show f_X1_passNights_2 (nI k) (n + 1) (nI k) _ = _
    rw [f_X1_passNights_2, if_pos (le_self k)]
  · intro n i hi
    show f_X1_passNights_2 (nI k) (n + 1) (nI i) _ = f_X1_passNights_2 (nI k) n (nI (i + 1)) _
    rw [f_X1_passNights_2, if_neg (ge_N (by omega) hi), pl_night (inv_nights I i), Option.bind_some, nI_1]
    rfl
/-- all WICKS -/
def sumI (f : Nat → Int32) : Nat → Int32
  | 0 => 0
  | n + 1 => sumI f n + f n
theorem pl_allWicks {L : LD} {N T : Nat} (I : InvL L N T) : f_X1_allWicks L = some (sumI (Lwk L) N) := by
  unfold f_X1_allWicks
  refine loopS (fun n i (s : Int32) => f_X1_allWicks_4 L n (nI i) s) N (fun i => sumI (Lwk L) i) _ ?_ ?_ 200 0 (Nat.zero_le _) (by have := I.2.1; omega)
  · intro n
    show f_X1_allWicks_4 L (n + 1) (nI N) _ = _
    rw [f_X1_allWicks_4, if_pos (by rw [show L.2.2.2.2.2.1 = nI N from I.1]; exact le_self N)]
  · intro n i hi
    have hN := I.2.1
    show f_X1_allWicks_4 L (n + 1) (nI i) _ = f_X1_allWicks_4 L n (nI (i + 1)) _
    rw [f_X1_allWicks_4, if_neg (by rw [show L.2.2.2.2.2.1 = nI N from I.1]; exact ge_N (by omega) hi), if_pos (inR8 hi hN), nm, nI_1, nI_clamp (by omega)]
    rfl
/-! sight -/
def eyeL (L : LD) (h : Nat) : Int32 := Lhs L (Lcs L h).toNatClampNeg + candle (Lks L h) (Lfs L h)
theorem pl_eye {L : LD} {N T : Nat} (I : InvL L N T) {h : Nat} (hh : h < N) : f_X1_eyeOf L (nI h) = some (eyeL L h) := by
  have hN := I.2.1
  obtain ⟨⟨c, hc, hcc⟩, -⟩ := I.2.2.1 h hh
  have hcl : (nI h).toNatClampNeg = h := nI_clamp (by omega)
  have hin := inR8 hh hN
  unfold f_X1_eyeOf eyeL
  have hin2 : inR (Lcs L h) 20 = true := by rw [hcc]; exact inR_nI hc (by decide)
  simp only [hin, hcl, hin2, ↓reduceIte, candle5, Option.bind_some]
def aboveV (L : LD) (c : Nat) (a eA b eB : Int32) : Int32 := (Lhs L c * (b - a) - eA * (b - nI c)) - eB * (nI c - a)
theorem pl_above (L : LD) {c : Nat} (hc : c < 20) (a eA b eB : Int32) : f_X3_aboveLine L (nI c) a eA b eB = some (aboveV L c a eA b eB) := by
  unfold f_X3_aboveLine f_X3_aboveLine_20
  rw [if_neg (nI_pos (by omega)), if_neg (show ¬ (20 : Int32) ≤ nI c from nI_ge (b := 20) hc (by decide)), if_pos (inR_nI hc (by decide)), nI_clamp (by omega)]
  rfl
def allR (p : Nat → Bool) : Nat → Nat → Bool
  | 0, _ => true
  | k + 1, lo => p lo && allR p k (lo + 1)
def clearB (L : LD) (a b : Nat) (eA eB : Int32) : Bool := allR (fun c => decide (aboveV L c (nI a) eA (nI b) eB < 0)) (b - (a + 1)) (a + 1)
def openB (L : LD) (a b : Nat) (eA eB : Int32) : Bool := decide (nI b - nI a ≤ 20 - 2 * Lfg L) && clearB L a b eA eB
def seeB (L : LD) (a : Nat) (e1 : Int32) (b : Nat) (e2 : Int32) : Bool := if a ≤ b then openB L a b e1 e2 else openB L b a e2 e1
theorem pl_clear (L : LD) {a b : Nat} (hb : b ≤ 20) (eA eB : Int32) : ∀ (n c : Nat), c ≤ b → b - c < n → f_X3_isOpen_65 (nI b) L (nI a) eA eB n (nI c) = some (b01 (allR (fun c => decide (aboveV L c (nI a) eA (nI b) eB < 0)) (b - c) c))
  | 0, c, h1, h2 => absurd h2 (Nat.not_lt_zero _)
  | n + 1, c, h1, h2 => by
    rw [f_X3_isOpen_65]
    by_cases hc : c = b
    · subst hc
      rw [if_pos (le_self c), Nat.sub_self]
      rfl
    · have hlt : c < b := by omega
      rw [if_neg (ge_N (by omega) hlt), pl_above L (by omega), Option.bind_some, nI_1, show b - c = (b - (c + 1)) + 1 by omega]
      unfold allR
      by_cases hp : aboveV L c (nI a) eA (nI b) eB < 0
      · rw [if_pos hp, pl_clear L hb eA eB n (c + 1) hlt (by omega)]
        simp [hp]
      · rw [if_neg hp]
        simp [hp, b01]
