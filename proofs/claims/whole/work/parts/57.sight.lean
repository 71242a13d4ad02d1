/-! pure: who sees whom; class side -/
theorem pl_clear2 (L : LD) {a b : Nat} (hab : a ≤ b) (hb : b ≤ 20) (eA eB : Int32) : f_X3_isOpen_57 L eA (nI b) (nI a) eB = some (b01 (clearB L a b eA eB)) := by
  unfold f_X3_isOpen_57 clearB
  rw [nm, nI_1]
  by_cases h : a = b
  · subst h
    rw [f_X3_isOpen_65, if_pos (nI_le (Nat.le_succ a) (by omega)), show a - (a + 1) = 0 by omega]
    rfl
  · exact pl_clear L hb eA eB 200 (a + 1) (by omega) (by omega)
theorem pl_open (L : LD) {a b : Nat} (ha : a ≤ 20) (hb : b ≤ 20) (e1 e2 : Int32) : f_X3_isOpen L (nI a) e1 (nI b) e2 = some (b01 (seeB L a e1 b e2)) := by
  unfold f_X3_isOpen seeB openB
  simp only [nm, minI, maxI]
  by_cases h : a ≤ b
  · have h1 : ¬ nI b < nI a := nI_nlt h (by omega)
    have h2 : (if nI a < nI b then nI b else nI a) = nI b := by
      by_cases he : a = b
      · subst he; simp
      · rw [if_pos (nI_lt (by omega) (by omega))]
    simp only [h1, h2, h, ↓reduceIte, f_X3_isOpen_44, pl_clear2 L h hb]
    by_cases hc : nI b - nI a ≤ 20 - 2 * Lfg L
    · simp [hc]
    · simp [hc, b01]
  · have h1 : nI b < nI a := nI_lt (by omega) (by omega)
    have h2 : ¬ nI a < nI b := nI_nlt (by omega) (by omega)
    simp only [h1, h2, h, ↓reduceIte, f_X3_isOpen_44, pl_clear2 L (show b ≤ a by omega) ha]
    by_cases hc : nI a - nI b ≤ 20 - 2 * Lfg L
    · simp [hc]
    · simp [hc, b01]
theorem seeB_symm (L : LD) (a : Nat) (e1 : Int32) (b : Nat) (e2 : Int32) : seeB L a e1 b e2 = seeB L b e2 a e1 := by
  unfold seeB
  by_cases h : a = b
  · subst h
    have hz : a - (a + 1) = 0 := by omega
    simp only [Nat.le_refl, ↓reduceIte, openB, clearB, hz, allR]
  · by_cases hl : a ≤ b
    · rw [if_pos hl, if_neg (by omega)]
    · rw [if_neg hl, if_pos (by omega)]
def cellN (L : LD) (h : Nat) : Nat := (Lcs L h).toNatClampNeg
theorem cellN_of {L : LD} {N T : Nat} (I : InvL L N T) {h : Nat} (hh : h < N) : cellN L h < 20 ∧ Lcs L h = nI (cellN L h) := by
  obtain ⟨⟨c, hc, e⟩, -⟩ := I.2.2.1 h hh
  unfold cellN
  rw [e, nI_clamp (by omega)]
  exact ⟨hc, rfl⟩
/-- by eyes e: h sees o, h sees the sea -/
def seesB (L : LD) (e : Nat → Int32) (h o : Nat) : Bool := seeB L (cellN L h) (e h) (cellN L o) (e o)
def adjB (L : LD) (e : Nat → Int32) (h o : Nat) : Bool := !decide (o = h) && seesB L e h o
def seaB (L : LD) (e : Nat → Int32) (h : Nat) : Bool := seeB L (cellN L h) (e h) 20 0
theorem adjB_symm (L : LD) (e : Nat → Int32) (h o : Nat) : adjB L e h o = adjB L e o h := by
  unfold adjB seesB
  rw [seeB_symm]
  by_cases q : o = h
  · simp [q]
  · simp [q, Ne.symm q]
abbrev Sey (S : SG) : Nat → Int32 := S.1
abbrev Sse (S : SG) : Nat → Int32 := S.2.1
abbrev Sss (S : SG) : Int32 := S.2.2.1
abbrev Sn (S : SG) : Int32 := S.2.2.2
def LookOK (S : SG) (L : LD) (e : Nat → Int32) (N : Nat) : Prop := Sn S = nI N ∧ (∀ h, h < N → Sey S h = e h) ∧ (∀ h, h < N → Sse S h = nI (mask (adjB L e h) N)) ∧ Sss S = nI (mask (seaB L e) N)
theorem pl_measure {L : LD} {N T : Nat} (I : InvL L N T) (S : SG) : ∃ S', f_X3_measure S L = some S' ∧ Sn S' = nI N ∧ ∀ h, h < N → Sey S' h = eyeL L h := by
  have hN := I.2.1
  have key : ∀ (n i : Nat) (S : SG), i ≤ N → N - i < n → Sn S = nI N → (∀ h, h < i → Sey S h = eyeL L h) → ∃ S', f_X3_measure_10 L n (nI i) S = some S' ∧ Sn S' = nI N ∧ ∀ h, h < N → Sey S' h = eyeL L h := by
    intro n
    induction n with
    | zero => intro i S h1 h2; exact absurd h2 (Nat.not_lt_zero _)
    | succ n ih =>
      intro i S h1 h2 hn he
      rw [f_X3_measure_10]
      by_cases hi : i = N
      · subst hi
        rw [if_pos (by rw [show S.2.2.2 = nI i from hn]; exact le_self i)]
        exact ⟨S, rfl, hn, he⟩
      · have hlt : i < N := by omega
        rw [if_neg (by rw [show S.2.2.2 = nI N from hn]; exact ge_N (by omega) hlt), pl_eye I hlt, Option.bind_some, if_pos (inR8 hlt hN), nI_1, nI_clamp (by omega)]
        refine ih (i + 1) _ hlt (by omega) hn (fun h hh => ?_)
        show upd _ i (eyeL L i) h = _
        by_cases e : h = i
        · subst e; rw [pk_us]
        · rw [pk_un e]; exact he h (by omega)
  unfold f_X3_measure
  exact key 200 0 _ (Nat.zero_le _) (by omega) I.1 (fun h hh => absurd hh (Nat.not_lt_zero _))
theorem b01f : b01 false = 0 := rfl
theorem b01t : ¬ b01 true = 0 := by decide
theorem mask_step (p : Nat → Bool) (n : Nat) (b : Bool) (hb : p n = b) : (if b01 b = 0 then nI (mask p n) else nI (mask p n) ||| nI (2 ^ n)) = nI (mask p (n + 1)) := by
  cases b with
  | false => rw [if_pos b01f, mask_no p n hb]
  | true => rw [if_neg b01t, fa_or, mask_or p n hb]
/-- behind i houses of look, with j of the i-th -/
def seAt (L : LD) (e : Nat → Int32) (i j : Nat) (g : Nat → Int32) : Prop := (∀ h, h < j → g h = nI (mask (adjB L e h) (i + 1))) ∧ (∀ h, j ≤ h → h < i → g h = nI (mask (adjB L e h) i)) ∧ g i = nI (mask (adjB L e i) j)
theorem pl_look_in {L : LD} {N T : Nat} (I : InvL L N T) {e : Nat → Int32} {i : Nat} (hi : i < N) (k : Int32 → SG → Option SG) : ∀ (n j : Nat) (S : SG), j ≤ i → i - j < n → (∀ h, h < N → Sey S h = e h) → seAt L e i j (Sse S) →
    ∃ S', f_X3_look_58 k (nI i) L n (nI j) S = k (nI (i + 1)) S' ∧ Sn S' = Sn S ∧ Sss S' = Sss S ∧ Sey S' = Sey S ∧ seAt L e i i (Sse S') := by
  have hN := I.2.1
  intro n
  induction n with
  | zero => intro j S h1 h2; exact absurd h2 (Nat.not_lt_zero _)
  | succ n ih =>
    intro j S h1 h2 he hs
    rw [f_X3_look_58]
    by_cases hj : j = i
    · subst hj
      rw [if_pos (le_self j), nI_1]
      exact ⟨S, rfl, rfl, rfl, rfl, hs⟩
    · have hlt : j < i := by omega
      have ci := cellN_of I hi
      have cj := cellN_of I (show j < N by omega)
      have ri := inR8 hi hN
      have rj := inR8 (show j < N by omega) hN
      rw [if_neg (ge_N (by omega) hlt)]
      simp only [ri, rj, ↓reduceIte, nI_clamp (show i < 2 ^ 31 by omega), nI_clamp (show j < 2 ^ 31 by omega)]
      rw [show L.2.2.2.1 i = nI (cellN L i) from ci.2, show L.2.2.2.1 j = nI (cellN L j) from cj.2, pl_open L (by omega) (by omega), Option.bind_some, show S.1 i = e i from he i hi, show S.1 j = e j from he j (by omega), nI_1, one_shl i (by omega), one_shl j (by omega)]
      have hab : seeB L (cellN L i) (e i) (cellN L j) (e j) = adjB L e i j := by
        unfold adjB seesB
        rw [decide_eq_false (by omega)]
        rfl
      rw [hab]
      have hji : adjB L e j i = adjB L e i j := adjB_symm L e j i
      cases hb : adjB L e i j with
      | false =>
        rw [if_pos b01f]
        refine ih (j + 1) S hlt (by omega) he ⟨fun h hh => ?_, fun h g1 g2 => hs.2.1 h (by omega) g2, ?_⟩
        · by_cases q : h = j
          · subst q; rw [hs.2.1 h (Nat.le_refl _) hlt, mask_no _ _ (hji.trans hb)]
          · exact hs.1 h (by omega)
        · rw [hs.2.2, mask_no _ _ hb]
      | true =>
        rw [if_neg b01t]
        have hs' : seAt L e i (j + 1) (upd (upd S.2.1 i (S.2.1 i ||| nI (2 ^ j))) j (upd S.2.1 i (S.2.1 i ||| nI (2 ^ j)) j ||| nI (2 ^ i))) := by
          refine ⟨fun h hh => ?_, fun h g1 g2 => ?_, ?_⟩
          · by_cases q : h = j
            · subst q
              rw [pk_us, pk_un (by omega), show S.2.1 h = _ from hs.2.1 h (Nat.le_refl _) hlt, fa_or, mask_or _ _ (hji.trans hb)]
            · rw [pk_un q, pk_un (by omega)]
              exact hs.1 h (by omega)
          · rw [pk_un (by omega), pk_un (by omega)]
            exact hs.2.1 h (by omega) g2
          · rw [pk_un (by omega), pk_us, show S.2.1 i = _ from hs.2.2, fa_or, mask_or _ _ hb]
        exact ih (j + 1) (S.1, upd (upd S.2.1 i (S.2.1 i ||| nI (2 ^ j))) j (upd S.2.1 i (S.2.1 i ||| nI (2 ^ j)) j ||| nI (2 ^ i)), S.2.2.1, S.2.2.2) hlt (by omega) he hs'
theorem adjB_self (L : LD) (e : Nat → Int32) (h : Nat) : adjB L e h h = false := by simp [adjB]
theorem pl_look {L : LD} {N T : Nat} (I : InvL L N T) {e : Nat → Int32} (S : SG) (hn : Sn S = nI N) (he : ∀ h, h < N → Sey S h = e h) : ∃ S', f_X3_look S L = some S' ∧ LookOK S' L e N := by
  have hN := I.2.1
  have key : ∀ (n i : Nat) (S : SG), i ≤ N → N - i < n → Sn S = nI N → (∀ h, h < N → Sey S h = e h) → (∀ h, h < i → Sse S h = nI (mask (adjB L e h) i)) → Sss S = nI (mask (seaB L e) i) → ∃ S', f_X3_look_7 L n (nI i) S = some S' ∧ LookOK S' L e N := by
    intro n
    induction n with
    | zero => intro i S h1 h2; exact absurd h2 (Nat.not_lt_zero _)
    | succ n ih =>
      intro i S h1 h2 hn he hs hss
      rw [f_X3_look_7]
      by_cases hi : i = N
      · subst hi
        rw [if_pos (by rw [show S.2.2.2 = nI i from hn]; exact le_self i)]
        exact ⟨S, rfl, hn, he, hs, hss⟩
      · have hlt : i < N := by omega
        have ci := cellN_of I hlt
        rw [if_neg (by rw [show S.2.2.2 = nI N from hn]; exact ge_N (by omega) hlt)]
        simp only [inR8 hlt hN, ↓reduceIte, nI_clamp (show i < 2 ^ 31 by omega)]
        rw [show L.2.2.2.1 i = nI (cellN L i) from ci.2, show S.1 i = e i from he i hlt, show f_X3_isOpen L (nI (cellN L i)) (e i) (20 : Int32) (0 : Int32) = _ from pl_open L (b := 20) (by omega) (Nat.le_refl _) _ _, Option.bind_some, one_shl i (by omega)]
        have fin : ∀ ss : Int32, ss = nI (mask (seaB L e) (i + 1)) → ∃ S', f_X3_look_56 (fun a0 a1 => f_X3_look_7 L n a0 a1) L (nI i) (S.1, upd S.2.1 i 0, ss, S.2.2.2) = some S' ∧ LookOK S' L e N := by
          intro ss hss2
          unfold f_X3_look_56
          obtain ⟨S', q1, q2, q3, q4, q5⟩ := pl_look_in I (e := e) hlt (fun a0 a1 => f_X3_look_7 L n a0 a1) 200 0 (S.1, upd S.2.1 i 0, ss, S.2.2.2) (Nat.zero_le _) (by omega) he ⟨fun h hh => absurd hh (Nat.not_lt_zero _), fun h g1 g2 => by
            show upd S.2.1 i 0 h = _
            rw [pk_un (by omega)]; exact hs h g2, by
            show upd S.2.1 i 0 i = _
            rw [pk_us]; rfl⟩
          rw [show f_X3_look_58 (fun a0 a1 => f_X3_look_7 L n a0 a1) (nI i) L 200 (0 : Int32) _ = _ from q1]
          refine ih (i + 1) S' hlt (by omega) (q2.trans hn) (fun h hh => by rw [q4]; exact he h hh) (fun h hh => ?_) (q3.trans hss2)
          by_cases q : h = i
          · subst q; rw [q5.2.2, mask_no _ _ (adjB_self L e h)]
          · exact q5.1 h (by omega)
        have hsb : seeB L (cellN L i) (e i) 20 0 = seaB L e i := rfl
        rw [hsb]
        have hms := mask_step (seaB L e) i (seaB L e i) rfl
        cases hb : seaB L e i with
        | false =>
          rw [if_pos b01f]
          rw [hb, if_pos b01f] at hms
          exact fin _ (by rw [show S.2.2.1 = _ from hss]; exact hms)
        | true =>
          rw [if_neg b01t]
          rw [hb, if_neg b01t] at hms
          exact fin _ (by rw [show S.2.2.1 = _ from hss]; exact hms)
  unfold f_X3_look
  exact key 200 0 _ (Nat.zero_le _) (by omega) hn he (fun h hh => absurd hh (Nat.not_lt_zero _)) rfl
theorem pl_lookOver {L : LD} {N T : Nat} (I : InvL L N T) (S : SG) : ∃ S', f_X3_lookOver S L = some S' ∧ LookOK S' L (eyeL L) N := by
  obtain ⟨S1, h1, h2, h3⟩ := pl_measure I S
  obtain ⟨S2, h4, h5⟩ := pl_look I S1 h2 h3
  unfold f_X3_lookOver
  rw [h1, Option.bind_some, h4, Option.bind_some]
  exact ⟨S2, rfl, h5⟩
