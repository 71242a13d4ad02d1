/-! pure: what the two worlds keep in common -/
def LOK (L : LD) (r : Nat → Int32) (N T : Nat) : Prop := N ≤ 7 ∧ T ≤ 999 ∧ InvL L N T ∧ (∀ c, c < 20 → ∃ H, H ≤ 9 ∧ Lhs L c = nI H) ∧ (∀ h, h < N → ∃ W, W ≤ 99 ∧ Lwk L h = nI W) ∧ Rel r L N zr
def LetOK (w : LT) (a : Nat → Int32) (n : Int32) : Prop := ∃ k, k ≤ 96 ∧ w.2.1 = nI k ∧ n = nI k ∧ ∀ i, i < k → w.1 i = a i ∧ ∃ b, b ≤ 255 ∧ a i = nI b
def RowOK (f : Nat → Int32) (m : Int32) (a : Nat → Int32) (n : Int32) : Prop := ∃ k, k ≤ 16 ∧ m = nI k ∧ n = nI k ∧ ∀ i, i < k → f i = a i ∧ ∃ b, b ≤ 99 ∧ a i = nI b
def RefOK (f a : Nat → Int32) : Prop := ∀ i, 1 ≤ i → i ≤ 6 → f i = a i
def Inv (w : EW) (v : MW) : Prop := (∃ N T, LOK w.1.1 v.1 N T) ∧ (w.2.2.2.2.2.2.1 = v.2.2.2.2.2.2.2.2.2.1 ∧ (w.2.2.2.2.2.2.1 = 0 ∨ ∃ N T, LOK w.2.2.1 v.2.2.1 N T)) ∧ LetOK w.2.2.2.1 v.2.2.2.2.1 v.2.2.2.2.2.2.2.2.2.2.1 ∧ RowOK w.2.2.2.2.1 w.2.2.2.2.2.2.2 v.2.2.2.2.2.1 v.2.2.2.2.2.2.2.2.2.2.2.1 ∧ RefOK w.2.2.2.2.2.1 v.2.2.2.2.2.2.1
def Eq2 {α : Type} (J : EW → MW → Prop) (a : Option (α × EW)) (b : Option (α × MW)) : Prop := ∃ o p, a = some o ∧ b = some p ∧ o.1 = p.1 ∧ J o.2 p.2
theorem Eq2_some {α : Type} {J : EW → MW → Prop} {x y : α} {w : EW} {v : MW} (h : x = y) (j : J w v) : Eq2 J (some (x, w)) (some (y, v)) := ⟨_, _, rfl, rfl, h, j⟩
theorem refOK_up {f a : Nat → Int32} (h : RefOK f a) (c : Nat) : RefOK (upd f c (f c + 1)) (upd a c (a c + 1)) ∨ c = 0 ∨ 6 < c := by
  by_cases h1 : c = 0
  · exact .inr (.inl h1)
  by_cases h2 : 6 < c
  · exact .inr (.inr h2)
  refine .inl fun i i1 i6 => ?_
  by_cases e : i = c
  · subst e; rw [pk_us, pk_us, h i i1 i6]
  · rw [pk_un e, pk_un e]; exact h i i1 i6
theorem ref_no {w : EW} {v : MW} (hI : Inv w v) (c : Nat) (h1 : 1 ≤ c) (h6 : c ≤ 6) {x : Int32} (hx : -x = nI c) : Eq2 Inv ((f_X5_refuse w x).bind fun p => some (p.1, p.2)) ((f_X6_no v x).bind fun p => some (p.1, p.2)) := by
  have hn : inR (-x) 7 = true := by rw [hx]; exact inR_nI (by omega) (by decide)
  have hc : (-x).toNatClampNeg = c := by rw [hx]; exact nI_clamp (by omega)
  have n1 : ¬ (-x) ≤ 0 := by rw [hx]; exact nI_nle (by omega) (by omega)
  have n2 : ¬ (6 : Int32) < -x := by rw [hx]; exact nI_nlt (b := c) (a := 6) h6 (by decide)
  unfold f_X5_refuse f_X6_no
  simp only [n1, n2, hn, hc, ↓reduceIte]
  obtain ⟨a, b, d, e, g⟩ := hI
  refine ⟨_, _, rfl, rfl, rfl, a, b, d, e, ?_⟩
  rcases refOK_up g c with q | q | q
  · exact q
  · omega
  · omega
section HS
variable {r : Nat → Int32} {L : LD} {N T : Nat} {ra : Nat → Int32}
theorem isIn_0 (x : Int32) (n : Nat) (hn : n < 2 ^ 31) : f_X6_isIn x (0 : Int32) (nI n) = some 0 ∧ (x < 0 ∨ nI (n + 1) ≤ x ∨ n + 1 = 2 ^ 31) ∨ ∃ h, h ≤ n ∧ x = nI h ∧ f_X6_isIn x (0 : Int32) (nI n) = some 1 := by
  unfold f_X6_isIn
  by_cases h0 : x < 0
  · exact .inl ⟨if_pos h0, .inl h0⟩
  · obtain ⟨j, hj, rfl⟩ := nI_of h0
    rw [if_neg h0]
    by_cases h1 : j ≤ n
    · exact .inr ⟨j, h1, rfl, if_neg (nI_nlt h1 hn)⟩
    · exact .inl ⟨if_pos (nI_lt (by omega) hj), .inr (.inl (nI_le (by omega) hj))⟩
theorem hs6 {v : MW} (I : InvL L N T) (K : Rel v.1 L N ra) (x : Int32) : (f_X1_isHouse L x = some 0 ∧ f_X6_isHouse v x = some 0) ∨ ∃ h, h < N ∧ x = nI h ∧ f_X1_isHouse L x = some 1 ∧ f_X6_isHouse v x = some 1 := by
  have hN := I.2.1
  unfold f_X1_isHouse f_X6_isHouse
  rw [if_pos r71_0, z71_0, K.1, show L.2.2.2.2.2.1 = nI N from I.1, show Ln L = nI N from I.1]
  unfold f_X6_isIn
  by_cases h0 : x < 0
  · exact .inl ⟨if_pos h0, by rw [if_pos h0]; rfl⟩
  · obtain ⟨j, hj, rfl⟩ := nI_of h0
    rw [if_neg h0, if_neg h0]
    by_cases h1 : j < N
    · obtain ⟨n, rfl⟩ : ∃ n, N = n + 1 := ⟨N - 1, by omega⟩
      exact .inr ⟨j, h1, rfl, if_neg (ge_N (by omega) h1), by rw [nI_pred, if_neg (nI_nlt (by omega) (by omega))]; rfl⟩
    · refine .inl ⟨if_pos (nI_le (by omega) hj), ?_⟩
      have : nI N - 1 < nI j := by
        cases N with
        | zero => exact Int32.lt_of_lt_of_le (show nI 0 - 1 < 0 by decide) (nI_pos' hj)
        | succ n => rw [nI_pred]; exact nI_lt (by omega) hj
      rw [if_pos this]; rfl
theorem cl6 (x : Int32) : (f_X1_isCell x = some 0 ∧ f_X6_isCell x = some 0) ∨ ∃ c, c < 20 ∧ x = nI c ∧ f_X1_isCell x = some 1 ∧ f_X6_isCell x = some 1 := by
  unfold f_X1_isCell f_X6_isCell f_X6_isIn
  by_cases h0 : x < 0
  · exact .inl ⟨if_pos h0, by rw [if_pos h0]; rfl⟩
  · obtain ⟨j, hj, rfl⟩ := nI_of h0
    rw [if_neg h0, if_neg h0]
    by_cases h1 : j < 20
    · exact .inr ⟨j, h1, rfl, if_neg (nI_ge (b := 20) h1 (by decide)), by rw [if_neg (show ¬ (19 : Int32) < nI j from nI_nlt (a := 19) (by omega) (by decide))]; rfl⟩
    · exact .inl ⟨if_pos (nI_le (a := 20) (by omega) hj), by rw [if_pos (show (19 : Int32) < nI j from nI_lt (a := 19) (by omega) hj)]; rfl⟩
/-- a number from 0 to n, or one refusal, on both sides -/
theorem wb6 (x : Int32) (n : Nat) (hn : n < 2 ^ 31) : (∃ c, (c = 4 ∨ c = 6) ∧ f_X5_outside x (0 : Int32) (nI n) = some (-nI c) ∧ f_X6_wrongBy x (0 : Int32) (nI n) = some (-nI c)) ∨ ∃ h, h ≤ n ∧ x = nI h ∧ f_X5_outside x (0 : Int32) (nI n) = some 0 ∧ f_X6_wrongBy x (0 : Int32) (nI n) = some 0 := by
  unfold f_X5_outside f_X6_wrongBy
  by_cases h0 : x < 0
  · have : ¬ (0 : Int32) ≤ x := fun z => Int32.lt_irrefl (Int32.lt_of_lt_of_le h0 z)
    rw [if_neg this]
    exact .inl ⟨4, .inl rfl, rfl, rfl⟩
  · obtain ⟨j, hj, rfl⟩ := nI_of h0
    rw [if_pos (nI_pos' hj)]
    by_cases h1 : j ≤ n
    · exact .inr ⟨j, h1, rfl, if_pos (nI_le h1 hn), if_pos (nI_le h1 hn)⟩
    · have : ¬ nI j ≤ nI n := nI_ge (by omega) hj
      exact .inl ⟨6, .inr rfl, if_neg this, if_neg this⟩
theorem neg_ne {c : Nat} (hc : c = 4 ∨ c = 6) : ¬ (-nI c) = (0 : Int32) := by rcases hc with rfl | rfl <;> decide
theorem neg_neg6 (c : Nat) : - -nI c = nI c := Int32.neg_neg
end HS
theorem one_ne : ¬ (1 : Int32) = 0 := by decide
