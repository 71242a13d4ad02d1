/-! pure: hill -/
theorem areTwo_k {w : EW} {v : MW} {N T : Nat} (I : InvL w.1.1 N T) (K : Rel v.1 w.1.1 N zr) (x y : Int32) : (f_X5_areTwo w x y = some 0 ∧ (f_X6_isHouse v x = some 0 ∨ (f_X6_isHouse v x = some 1 ∧ (f_X6_isHouse v y = some 0 ∨ (f_X6_isHouse v y = some 1 ∧ x = y))))) ∨ ∃ h o, h < N ∧ o < N ∧ h ≠ o ∧ x = nI h ∧ y = nI o ∧ f_X5_areTwo w x y = some 1 ∧ f_X6_isHouse v x = some 1 ∧ f_X6_isHouse v y = some 1 := by
  have hN := I.2.1
  unfold f_X5_areTwo
  rcases hs6 I K x with ⟨h1, h2⟩ | ⟨h, hh, rfl, h1, h2⟩
  · rw [h1, Option.bind_some, if_pos rfl]
    exact .inl ⟨rfl, .inl h2⟩
  · rw [h1, Option.bind_some, if_neg one_ne]
    rcases hs6 I K y with ⟨g1, g2⟩ | ⟨o, ho, rfl, g1, g2⟩
    · rw [g1, Option.bind_some, if_pos rfl]
      exact .inl ⟨rfl, .inr ⟨h2, .inl g2⟩⟩
    · rw [g1, Option.bind_some, if_neg one_ne]
      by_cases e : h = o
      · subst e
        rw [if_pos rfl]
        exact .inl ⟨rfl, .inr ⟨h2, .inr ⟨g2, rfl⟩⟩⟩
      · rw [if_neg (nz (by omega) (by omega) e)]
        exact .inr ⟨h, o, hh, ho, e, rfl, rfl, rfl, h2, g2⟩
section HL
variable {L : LD} {N T : Nat}
def abF (L : LD) (p q c : Nat) : Int32 := aboveV L c (nI (cellN L p)) (eyeL L p) (nI (cellN L q)) (eyeL L q)
theorem hill_k (I : InvL L N T) {v : MW} (K : Rel v.1 L N zr) {p q : Nat} (hp : p < N) (hq : q < N) {t : TW} (ht2 : t.2.1 = L) (hs : LookOK t.2.2.1 L (eyeL L) N) : ∀ (n i m : Nat) (best arg : Int32), cellN L q ≤ i + m → m < n → i ≤ 21 → ((arg = -9) ∨ ∃ j, j < 20 ∧ arg = nI j ∧ best = abF L p q j) → ∃ x, f_X4_cellInTheWay_79 (nI (cellN L q)) t (nI p) (nI q) (nI (cellN L p)) n (nI i) best arg = some (x, t) ∧ f_X6_hill_95 (nI (cellN L q)) v (nI p) (nI q) (nI (cellN L p)) n (nI i) arg = some (x, v) := by
  have hN := I.2.1
  obtain ⟨hcq, ecq⟩ := cellN_of I hq
  intro n
  induction n with
  | zero => intro i m best arg _ h2; exact absurd h2 (Nat.not_lt_zero _)
  | succ n ih =>
    intro i m best arg hi hm hi21 hq2
    rw [f_X4_cellInTheWay_79, f_X6_hill_95]
    by_cases e : cellN L q ≤ i
    · rw [if_pos (nI_le e (by omega)), if_pos (nI_le e (by omega))]
      exact ⟨arg, rfl, rfl⟩
    · have hi20 : i < 20 := by omega
      have np : (nI p).toNatClampNeg = p := nI_clamp (by omega)
      have nq : (nI q).toNatClampNeg = q := nI_clamp (by omega)
      rw [if_neg (ge_N (by omega) (by omega)), if_neg (ge_N (by omega) (by omega)), if_pos (inR8 hp hN), if_pos (inR8 hq hN), np, nq, show t.2.2.1.1 p = eyeL L p from hs.2.1 p hp, show t.2.2.1.1 q = eyeL L q from hs.2.1 q hq, ht2, pl_above L hi20, Option.bind_some]
      rw [show aboveV L i (nI (cellN L p)) (eyeL L p) (nI (cellN L q)) (eyeL L q) = abF L p q i from rfl]
      rcases hq2 with z | ⟨j, j1, j2, j3⟩
      · rw [if_pos z, if_pos (show arg < 0 by rw [z]; decide), nI_1]
        exact ih (i + 1) (m - 1) _ _ (by omega) (by omega) (by omega) (.inr ⟨i, hi20, rfl, rfl⟩)
      · rw [if_neg (by rw [j2]; exact nI_ne9 (by omega)), if_neg (show ¬ arg < 0 by rw [j2]; exact nI_pos (by omega)), eye6 I K hp, eye6 I K hq, eyeR_0, Option.bind_some, Option.bind_some, above6 K hi20, Option.bind_some, Option.bind_some, Option.bind_some, j2, above6 K j1, Option.bind_some, nI_1, j3]
        rw [show aboveV L i (nI (cellN L p)) (eyeL L p) (nI (cellN L q)) (eyeL L q) = abF L p q i from rfl, show aboveV L j (nI (cellN L p)) (eyeL L p) (nI (cellN L q)) (eyeL L q) = abF L p q j from rfl]
        by_cases z : abF L p q i ≤ abF L p q j
        · rw [if_pos z, if_pos z]
          exact ih (i + 1) (m - 1) _ _ (by omega) (by omega) (by omega) (.inr ⟨j, j1, rfl, rfl⟩)
        · rw [if_neg z, if_neg z]
          exact ih (i + 1) (m - 1) _ _ (by omega) (by omega) (by omega) (.inr ⟨i, hi20, rfl, rfl⟩)
theorem hill_2 (I : InvL L N T) {v : MW} (K : Rel v.1 L N zr) {p q : Nat} (hp : p < N) (hq : q < N) {t : TW} (ht2 : t.2.1 = L) (hs : LookOK t.2.2.1 L (eyeL L) N) : ∃ x, f_X4_cellInTheWay_41 (nI p) (nI q) t = some (x, t) ∧ f_X6_hill_62 (nI p) (nI q) v = some (x, v) := by
  have hN := I.2.1
  obtain ⟨hcp, ecp⟩ := cellN_of I hp
  obtain ⟨hcq, ecq⟩ := cellN_of I hq
  have np : (nI p).toNatClampNeg = p := nI_clamp (by omega)
  have nq : (nI q).toNatClampNeg = q := nI_clamp (by omega)
  unfold f_X4_cellInTheWay_41 f_X6_hill_62
  rw [if_pos (inR8 hp hN), np, ht2, show L.2.2.2.1 p = _ from ecp, cellOf6 I K hp, cellOf6 I K hq, Option.bind_some, Option.bind_some]
  simp only [nm]
  rw [if_pos (inR8 hq hN), nq, show L.2.2.2.1 q = _ from ecq, nI_1]
  exact hill_k I K hp hq ht2 hs 200 (cellN L p + 1) (cellN L q) 0 (-9) (by omega) (by omega) (by omega) (.inl rfl)
end HL
theorem op_hill : E_hill Inv := by
  intro w v hI x y
  have hI' := hI
  obtain ⟨⟨N, T, n1, n2, I, n4, n5, K⟩, b⟩ := hI
  have hN := I.2.1
  show Eq2 Inv _ _
  unfold f_X5_hill f_X6_hill
  have r1 := ref_no (x := (-1 : Int32)) hI' 1 (by decide) (by decide) rfl
  rcases areTwo_k I K x y with ⟨h1, h2⟩ | ⟨h, o, hh, ho, ne, rfl, rfl, h1, h2, h3⟩
  · rw [h1, Option.bind_some, if_pos rfl]
    rcases h2 with h2 | ⟨h2, h3 | ⟨h3, rfl⟩⟩
    · rw [h2, Option.bind_some, if_pos rfl]; exact r1
    · rw [h2, Option.bind_some, if_neg one_ne, h3, Option.bind_some, if_pos rfl]; exact r1
    · rw [h2, Option.bind_some, if_neg one_ne, Option.bind_some, if_neg one_ne, if_pos rfl]; exact r1
  · obtain ⟨t1, e1, q1⟩ := th_begin I w.1 rfl
    obtain ⟨hch, ech⟩ := cellN_of I hh
    obtain ⟨hco, eco⟩ := cellN_of I ho
    rw [h1, Option.bind_some, if_neg one_ne, h2, Option.bind_some, if_neg one_ne, h3, Option.bind_some, if_neg one_ne, if_neg (nz (by omega) (by omega) ne), cellOf6 I K hh, cellOf6 I K ho, Option.bind_some, Option.bind_some]
    unfold f_X4_cellInTheWay f_X4_cellInTheWay_30 f_X6_hill_51
    have q2 : t1.2.1 = w.1.1 := q1.2.1
    rw [e1, Option.bind_some, if_pos (inR8 hh hN), if_pos (inR8 ho hN), nI_clamp (show h < 2 ^ 31 by omega), nI_clamp (show o < 2 ^ 31 by omega), q2, show w.1.1.2.2.2.1 h = _ from ech, show w.1.1.2.2.2.1 o = _ from eco, if_neg (nz (show o < 2 ^ 31 by omega) (show h < 2 ^ 31 by omega) (Ne.symm ne)), if_pos (rfl : nI h = nI h)]
    by_cases z : nI (cellN w.1.1 o) < nI (cellN w.1.1 h)
    · rw [if_pos z, if_pos z]
      obtain ⟨a, g1, g2⟩ := hill_2 I K ho hh q2 q1.2.2
      rw [g1, g2, Option.bind_some, if_neg (nz (show o < 2 ^ 31 by omega) (show h < 2 ^ 31 by omega) (Ne.symm ne))]
      exact Eq2_some rfl (Inv_w hI' t1 q1.1)
    · rw [if_neg z, if_neg z]
      obtain ⟨a, g1, g2⟩ := hill_2 I K hh ho q2 q1.2.2
      rw [g1, g2, Option.bind_some, if_pos (rfl : nI h = nI h)]
      exact Eq2_some rfl (Inv_w hI' t1 q1.1)
