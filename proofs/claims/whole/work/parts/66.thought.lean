/-! pure: the thought over a land, night by night -/
theorem hang_n (L : LD) (N : Nat) (e : Nat → Int32) (p : Nat → Bool) : ∀ k, hangS (nightsL L N k) e N p = hangS L e N p
  | 0 => rfl
  | k + 1 => (show hangS (nightL (nightsL L N k) N) e N p = hangS (nightsL L N k) e N p from rfl).trans (hang_n L N e p k)
theorem eye_n (L : LD) (N : Nat) : ∀ k, eyeL (nightsL L N k) = eyeL L
  | 0 => rfl
  | k + 1 => (show eyeL (nightL (nightsL L N k) N) = eyeL (nightsL L N k) from rfl).trans (eye_n L N k)
/-- who hangs a lantern out k nights on -/
def hg (L : LD) (N k : Nat) : Nat → Bool := hangS L (eyeL L) N (litB (nightsL L N k))
def ThOK (t : TW) (L : LD) (N k : Nat) : Prop := t.1 = L ∧ t.2.1 = nightsL L N k ∧ LookOK t.2.2.1 L (eyeL L) N
section TH
variable {r : Nat → Int32} {L : LD} {N T : Nat}
theorem th_begin (I : InvL L N T) (t : TW) (h : t.1 = L) : ∃ t', f_X4_begin t = some t' ∧ ThOK t' L N 0 := by
  obtain ⟨S1, e1, n1, y1⟩ := pl_measure I t.2.2.1
  obtain ⟨S2, e2, k2⟩ := pl_look I S1 n1 y1
  unfold f_X4_begin f_X1_become
  rw [Option.bind_some, h]
  rw [show f_X3_measure t.2.2.1 (L.1, L.2.1, L.2.2.1, L.2.2.2.1, L.2.2.2.2.1, L.2.2.2.2.2.1, L.2.2.2.2.2.2.1, L.2.2.2.2.2.2.2.1, L.2.2.2.2.2.2.2.2) = some S1 from e1, Option.bind_some]
  rw [show f_X3_look S1 (L.1, L.2.1, L.2.2.1, L.2.2.2.1, L.2.2.2.2.1, L.2.2.2.2.2.1, L.2.2.2.2.2.2.1, L.2.2.2.2.2.2.2.1, L.2.2.2.2.2.2.2.2) = some S2 from e2, Option.bind_some]
  exact ⟨_, rfl, rfl, rfl, k2⟩
theorem th_hangers (I : InvL L N T) {t : TW} {k : Nat} (h : ThOK t L N k) : f_X4_hangers t = some (nI (mask (hg L N k) N)) := by
  unfold f_X4_hangers
  rw [h.2.1, pl_lit (inv_nights I k), Option.bind_some, litM, pl_hanging I.2.1 h.2.2, Option.bind_some]
  rfl
theorem th_night (I : InvL L N T) {t : TW} {k : Nat} (h : ThOK t L N k) : f_X1_passNight t.2.1 = some (nightsL L N (k + 1)) := by
  rw [h.2.1]; exact pl_night (inv_nights I k)
theorem th_next {t : TW} {k : Nat} (h : ThOK t L N k) (j : Nat) : ThOK (t.1, nightsL L N j, t.2.2) L N j := ⟨h.1, rfl, h.2.2⟩
theorem hangIn_k (I : InvL L N T) {k : Nat} (hT : T + k < 2 ^ 31) (K : Rel r (nightsL L N k) N zr) : f_X6_hangIn r = some (nI (mask (hg L N k) N)) := by
  rw [hangIn6 (inv_nights I k) hT K]
  unfold hangL hg
  rw [eyeR_0, eye_n, hang_n]
theorem night_k (I : InvL L N T) {k : Nat} (hT : T + k < 2 ^ 31) (K : Rel r (nightsL L N k) N zr) : ∃ r', f_X6_night r = some (burntL (nightsL L N k) N, r') ∧ Rel r' (nightsL L N (k + 1)) N zr := night6 (inv_nights I k) hT K
theorem th_behind (I : InvL L N T) (t : TW) (h : t.1 = L) {k : Nat} (hk : k < 200) : ∃ t', f_X4_hangingBehind t (nI k) = some (nI (mask (hg L N k) N), t') ∧ ThOK t' L N k := by
  obtain ⟨t1, e1, k1⟩ := th_begin I t h
  unfold f_X4_hangingBehind
  rw [e1, Option.bind_some, k1.2.1, show nightsL L N 0 = L from rfl, pl_nights I hk, Option.bind_some]
  rw [show f_X4_hangers (t1.1, nightsL L N k, t1.2.2.1, t1.2.2.2.1, t1.2.2.2.2.1, t1.2.2.2.2.2.1, t1.2.2.2.2.2.2) = _ from th_hangers I (th_next k1 k), Option.bind_some]
  exact ⟨_, rfl, th_next k1 k⟩
theorem th_litBehind (I : InvL L N T) (t : TW) (h : t.1 = L) {k : Nat} (hk : k < 200) : ∃ t', f_X4_litBehind t (nI k) = some (nI (mask (litB (nightsL L N k)) N), t') ∧ t'.1 = L := by
  unfold f_X4_litBehind f_X1_become
  rw [Option.bind_some, h]
  rw [show f_X1_passNights (L.1, L.2.1, L.2.2.1, L.2.2.2.1, L.2.2.2.2.1, L.2.2.2.2.2.1, L.2.2.2.2.2.2.1, L.2.2.2.2.2.2.2.1, L.2.2.2.2.2.2.2.2) (nI k) = _ from pl_nights I hk, Option.bind_some, pl_lit (inv_nights I k), Option.bind_some]
  exact ⟨_, rfl, rfl⟩
theorem th_wicksBehind (I : InvL L N T) (t : TW) (h : t.1 = L) {k : Nat} (hk : k < 200) {o : Nat} (ho : o < N) : ∃ t', f_X4_wicksBehind t (nI o) (nI k) = some (Lwk (nightsL L N k) o, t') ∧ t'.1 = L := by
  unfold f_X4_wicksBehind f_X1_become
  rw [Option.bind_some, h]
  rw [show f_X1_passNights (L.1, L.2.1, L.2.2.1, L.2.2.2.1, L.2.2.2.2.1, L.2.2.2.2.2.1, L.2.2.2.2.2.2.1, L.2.2.2.2.2.2.2.1, L.2.2.2.2.2.2.2.2) (nI k) = _ from pl_nights I hk, Option.bind_some, if_pos (inR8 ho I.2.1), nI_clamp (by have := I.2.1; omega)]
  exact ⟨_, rfl, rfl⟩
theorem takes_k (I : InvL L N T) (v : MW) (K : Rel v.1 L N zr) {k : Nat} (hT : T + k < 2 ^ 31) (hk : k < 200) : ∃ r', f_X6_takes v (nI k) = some (burntsL L N k, (v.1, r', v.2.2)) ∧ Rel r' (nightsL L N k) N zr := by
  obtain ⟨r1, e1, K1⟩ := nights6 I hT hk K
  unfold f_X6_takes f_X6_copies
  rw [Option.bind_some, e1, Option.bind_some]
  exact ⟨_, rfl, K1⟩
end TH
theorem Inv_t {w : EW} {v : MW} (h : Inv w v) (t : TW) (ht : t.1 = w.1.1) (r : Nat → Int32) : Inv (t, w.2) (v.1, r, v.2.2) := by
  obtain ⟨⟨N, T, q⟩, b⟩ := h
  exact ⟨⟨N, T, by show LOK t.1 v.1 N T; rw [ht]; exact q⟩, b⟩
theorem Inv_w {w : EW} {v : MW} (h : Inv w v) (t : TW) (ht : t.1 = w.1.1) : Inv (t, w.2) v := Inv_t h t ht v.2.1
theorem op_litThen : E_litThen Inv := by
  intro w v hI y
  have hI' := hI
  obtain ⟨⟨N, T, n1, n2, I, n4, n5, K⟩, b⟩ := hI
  show Eq2 Inv _ _
  unfold f_X5_litThen f_X6_litThen
  rcases wb6 y 60 (by decide) with ⟨d, hd, g1, g2⟩ | ⟨k, hk, rfl, g1, g2⟩
  · rw [show f_X5_outside y (0 : Int32) (60 : Int32) = _ from g1, show f_X6_wrongBy y (0 : Int32) (60 : Int32) = _ from g2, Option.bind_some, Option.bind_some, if_neg (neg_ne hd), if_neg (neg_ne hd)]
    exact ref_no hI' d (by omega) (by omega) (neg_neg6 d)
  · rw [show f_X5_outside (nI k) (0 : Int32) (60 : Int32) = _ from g1, show f_X6_wrongBy (nI k) (0 : Int32) (60 : Int32) = _ from g2, Option.bind_some, Option.bind_some, if_pos rfl, if_pos rfl]
    obtain ⟨t', e1, h1⟩ := th_litBehind I w.1 rfl (show k < 200 by omega)
    obtain ⟨r', e2, K2⟩ := takes_k I v K (show T + k < 2 ^ 31 by omega) (show k < 200 by omega)
    rw [e1, e2, Option.bind_some, Option.bind_some]
    simp only [nm]
    rw [lit6 (inv_nights I k) (show T + k < 2 ^ 31 by omega) K2, Option.bind_some]
    exact Eq2_some rfl (Inv_t hI' t' h1 r')
theorem op_hangThen : E_hangThen Inv := by
  intro w v hI y
  have hI' := hI
  obtain ⟨⟨N, T, n1, n2, I, n4, n5, K⟩, b⟩ := hI
  show Eq2 Inv _ _
  unfold f_X5_hangThen f_X6_hangThen
  rcases wb6 y 60 (by decide) with ⟨d, hd, g1, g2⟩ | ⟨k, hk, rfl, g1, g2⟩
  · rw [show f_X5_outside y (0 : Int32) (60 : Int32) = _ from g1, show f_X6_wrongBy y (0 : Int32) (60 : Int32) = _ from g2, Option.bind_some, Option.bind_some, if_neg (neg_ne hd), if_neg (neg_ne hd)]
    exact ref_no hI' d (by omega) (by omega) (neg_neg6 d)
  · rw [show f_X5_outside (nI k) (0 : Int32) (60 : Int32) = _ from g1, show f_X6_wrongBy (nI k) (0 : Int32) (60 : Int32) = _ from g2, Option.bind_some, Option.bind_some, if_pos rfl, if_pos rfl]
    obtain ⟨t', e1, h1⟩ := th_behind I w.1 rfl (show k < 200 by omega)
    obtain ⟨r', e2, K2⟩ := takes_k I v K (show T + k < 2 ^ 31 by omega) (show k < 200 by omega)
    rw [e1, e2, Option.bind_some, Option.bind_some]
    simp only [nm]
    rw [hangIn_k I (show T + k < 2 ^ 31 by omega) K2, Option.bind_some]
    exact Eq2_some rfl (Inv_t hI' t' h1.1 r')
theorem op_wicksThen : E_wicksThen Inv := by
  intro w v hI x y
  have hI' := hI
  obtain ⟨⟨N, T, n1, n2, I, n4, n5, K⟩, b⟩ := hI
  show Eq2 Inv _ _
  unfold f_X5_wicksThen f_X6_wicksThen f_X6_wicksThen_19
  rcases hs6 I K x with ⟨h1, h2⟩ | ⟨h, hh, rfl, h1, h2⟩
  · rw [h1, h2, Option.bind_some, Option.bind_some, if_pos rfl, if_pos rfl]
    exact ref_no (x := (-1 : Int32)) hI' 1 (by decide) (by decide) rfl
  · rw [h1, h2, Option.bind_some, Option.bind_some, if_neg one_ne, if_neg one_ne]
    rcases wb6 y 60 (by decide) with ⟨d, hd, g1, g2⟩ | ⟨k, hk, rfl, g1, g2⟩
    · rw [show f_X5_outside y (0 : Int32) (60 : Int32) = _ from g1, show f_X6_wrongBy y (0 : Int32) (60 : Int32) = _ from g2, Option.bind_some, Option.bind_some, if_neg (neg_ne hd), if_neg (neg_ne hd)]
      exact ref_no hI' d (by omega) (by omega) (neg_neg6 d)
    · rw [show f_X5_outside (nI k) (0 : Int32) (60 : Int32) = _ from g1, show f_X6_wrongBy (nI k) (0 : Int32) (60 : Int32) = _ from g2, Option.bind_some, Option.bind_some, if_pos rfl, if_pos rfl]
      have h8 : h < 8 := by omega
      obtain ⟨t', e1, q1⟩ := th_wicksBehind I w.1 rfl (show k < 200 by omega) hh
      obtain ⟨r', e2, K2⟩ := takes_k I v K (show T + k < 2 ^ 31 by omega) (show k < 200 by omega)
      rw [e1, e2, Option.bind_some, Option.bind_some]
      simp only [nm, of_3, Option.bind_some, in71 h8 (show 3 < 6 by decide), cl71 h8 (show 3 < 6 by decide), ↓reduceIte]
      exact Eq2_some (K2.2.2.2.2 h hh).2.2.2.1.symm (Inv_t hI' t' q1 r')
