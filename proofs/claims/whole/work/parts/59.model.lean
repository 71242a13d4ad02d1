/-! pure: the reference's row of 71, a land told in it -/
def Rel (r : Nat → Int32) (L : LD) (N : Nat) (ra : Nat → Int32) : Prop := r 0 = Ln L ∧ r 1 = Lnt L ∧ r 2 = Lfg L ∧ (∀ c, c < 20 → r (3 + c) = Lhs L c) ∧ ∀ h, h < N → r (23 + 6 * h) = Lks L h ∧ r (23 + 6 * h + 1) = Lfs L h ∧ r (23 + 6 * h + 2) = Lcs L h ∧ r (23 + 6 * h + 3) = Lwk L h ∧ r (23 + 6 * h + 4) = b01 (calledB L h) ∧ r (23 + 6 * h + 5) = ra h
theorem of_k (h k : Nat) : f_X6_of (nI h) (nI k) = some (nI (23 + 6 * h + k)) := by
  unfold f_X6_of
  rw [show ((23 : Int32) + (6 : Int32) * nI h) + nI k = (nI 23 + nI 6 * nI h) + nI k from rfl, pk_mul, nI_add, nI_add]
theorem of_0 (h : Nat) : f_X6_of (nI h) (0 : Int32) = some (nI (23 + 6 * h)) := of_k h 0
theorem of_1 (h : Nat) : f_X6_of (nI h) (1 : Int32) = some (nI (23 + 6 * h + 1)) := of_k h 1
theorem of_2 (h : Nat) : f_X6_of (nI h) (2 : Int32) = some (nI (23 + 6 * h + 2)) := of_k h 2
theorem of_3 (h : Nat) : f_X6_of (nI h) (3 : Int32) = some (nI (23 + 6 * h + 3)) := of_k h 3
theorem of_4 (h : Nat) : f_X6_of (nI h) (4 : Int32) = some (nI (23 + 6 * h + 4)) := of_k h 4
theorem of_5 (h : Nat) : f_X6_of (nI h) (5 : Int32) = some (nI (23 + 6 * h + 5)) := of_k h 5
theorem in71 {h k : Nat} (hh : h < 8) (hk : k < 6) : inR (nI (23 + 6 * h + k)) 71 = true := inR_nI (by omega) (by decide)
theorem in71z {h : Nat} (hh : h < 8) : inR (nI (23 + 6 * h)) 71 = true := inR_nI (by omega) (by decide)
theorem cl71 {h k : Nat} (hh : h < 8) (hk : k < 6) : (nI (23 + 6 * h + k)).toNatClampNeg = 23 + 6 * h + k := nI_clamp (by omega)
theorem cl71z {h : Nat} (hh : h < 8) : (nI (23 + 6 * h)).toNatClampNeg = 23 + 6 * h := nI_clamp (by omega)
theorem r71_0 : inR (0 : Int32) 71 = true := by decide
theorem r71_1 : inR (1 : Int32) 71 = true := by decide
theorem r71_2 : inR (2 : Int32) 71 = true := by decide
theorem z71_0 : (0 : Int32).toNatClampNeg = 0 := by decide
theorem z71_1 : (1 : Int32).toNatClampNeg = 1 := by decide
theorem z71_2 : (2 : Int32).toNatClampNeg = 2 := by decide
theorem b01_1 (b : Bool) : (b01 b = 1) ↔ b = true := by cases b <;> decide
theorem b01_or (b : Bool) : b01 b = 0 ∨ b01 b = 1 := by cases b <;> decide
theorem candle6 (k f : Int32) : f_X6_candleBy k f = some (candle k f) := by
  have e : (3 : Int32) + f / 2 = (1 + f / 2) + 2 := by
    rw [Int32.add_comm 1, Int32.add_assoc, Int32.add_comm]
    rfl
  unfold f_X6_candleBy candle
  rw [e]
  repeat' split
  all_goals rfl
theorem burns6 (k : Int32) : f_X6_burnsBy k = some (burns k) := by
  unfold f_X6_burnsBy burns
  repeat' split
  all_goals rfl
theorem rem_nat {T d : Nat} (hT : T < 2 ^ 31) (h0 : 0 < d) (hd : d < 2 ^ 31) : remI (nI T) (nI d) = nI (T % d) := pk_rem hT h0 hd
theorem sleeps6 {k f t : Int32} (hf : ∃ F, F < 10 ∧ f = nI F) (ht : ∃ T, T < 2 ^ 31 ∧ t = nI T) : f_X6_doesSleep k f t = some (b01 (sleeps k f t)) := by
  obtain ⟨F, hF, rfl⟩ := hf
  obtain ⟨T, hT, rfl⟩ := ht
  have e : nI F + 2 = nI (F + 2) := nI_add F 2
  have h0 : ¬ nI (F + 2) = 0 := nI_ne0 (by omega) (by omega)
  have h2 : remI (nI T) 2 = nI (T % 2) := rem_nat hT (by decide) (by decide)
  have h21 : (remI (nI T) 2 = 1) ↔ ¬ (remI (nI T) 2 = 0) := by
    rw [h2, show ((1 : Int32)) = nI 1 from rfl, show ((0 : Int32)) = nI 0 from rfl, nI_eq (by omega) (by decide), nI_eq (by omega) (by decide)]
    omega
  have key : f_X6_doesSleep k (nI F) (nI T) = f_X6_doesSleep_13 k (nI T) (b01 (decide (remI (nI T) (nI (F + 2)) = 0))) := by
    unfold f_X6_doesSleep
    rw [e, if_neg h0]
    by_cases q : remI (nI T) (nI (F + 2)) = 0
    · rw [if_pos q]; simp [q, b01]
    · rw [if_neg q]; simp [q, b01]
  rw [key]
  unfold f_X6_doesSleep_13 sleeps
  rw [e]
  simp only [b01_or, ↓reduceIte, ite01, h21, b01_0]
  by_cases k2 : k = 2
  · simp [k2]; intro q; simp [q, b01]
  by_cases k3 : k = 3
  · simp [k3]; intro q; simp [q, b01]
  by_cases k4 : k = 4
  · simp [k4]
  by_cases k5 : k = 5
  · simp only [k2, k3, k4, k5, ↓reduceIte]
    by_cases q : remI (nI T) (nI (F + 2)) = 0
    · simp [q, b01]
    · simp [q]
  simp [k2, k3, k4, k5, b01]
section MD
variable {r : Nat → Int32} {L : LD} {N T : Nat} {ra : Nat → Int32}
theorem isLit6 (I : InvL L N T) (hT : T < 2 ^ 31) (K : Rel r L N ra) {h : Nat} (hh : h < N) : f_X6_isLit r (nI h) = some (b01 (litB L h)) := by
  have hN := I.2.1
  have h8 : h < 8 := by omega
  obtain ⟨k0, k1, k2, k3, k4⟩ := K
  obtain ⟨g0, g1, g2, g3, g4, g5⟩ := k4 h hh
  have hs := sleeps6 (k := Lks L h) (t := Lnt L) (I.2.2.1 h hh).2 ⟨T, hT, I.2.2.2.2.2⟩
  unfold f_X6_isLit litB
  simp only [of_0, of_1, of_3, of_4, Option.bind_some, in71z h8, in71 h8 (show 1 < 6 by decide), in71 h8 (show 3 < 6 by decide), in71 h8 (show 4 < 6 by decide), ↓reduceIte, nm, cl71z h8, cl71 h8 (show 1 < 6 by decide), cl71 h8 (show 3 < 6 by decide), cl71 h8 (show 4 < 6 by decide), g0, g1, g3, g4, burns6, r71_1, z71_1, k1, hs, b01_0, b01_1]
  by_cases q : Lwk L h < burns (Lks L h)
  · simp [q, b01]
  · cases hc : calledB L h <;> cases h3 : sleeps (Lks L h) (Lfs L h) (Lnt L) <;> simp [q, b01]
def eyeR (L : LD) (ra : Nat → Int32) (h : Nat) : Int32 := eyeL L h + ra h
theorem ne99 {h : Nat} (hh : h < 8) : ¬ nI h = (99 : Int32) := by
  rw [show (99 : Int32) = nI 99 from rfl, nI_eq (by omega) (by decide)]
  omega
theorem cellOf6 (I : InvL L N T) (K : Rel r L N ra) {h : Nat} (hh : h < N) : f_X6_cellOf r (nI h) = some (nI (cellN L h)) := by
  have h8 : h < 8 := by have := I.2.1; omega
  unfold f_X6_cellOf
  simp only [ne99 h8, ↓reduceIte, of_2, Option.bind_some, in71 h8 (show 2 < 6 by decide), cl71 h8 (show 2 < 6 by decide), (K.2.2.2.2 h hh).2.2.1]
  rw [(cellN_of I hh).2]
theorem cellOut : f_X6_cellOf r (99 : Int32) = some (nI 20) := by
  unfold f_X6_cellOf
  rw [if_pos rfl]
  rfl
theorem eye6 (I : InvL L N T) (K : Rel r L N ra) {h : Nat} (hh : h < N) : f_X6_eye r (nI h) = some (eyeR L ra h) := by
  have h8 : h < 8 := by have := I.2.1; omega
  obtain ⟨k0, k1, k2, k3, k4⟩ := K
  obtain ⟨g0, g1, g2, g3, g4, g5⟩ := k4 h hh
  have hc := cellN_of I hh
  have e3 : (3 : Int32) + nI (cellN L h) = nI (3 + cellN L h) := nI_add 3 _
  have i3 : inR (nI (3 + cellN L h)) 71 = true := inR_nI (by omega) (by decide)
  unfold f_X6_eye eyeR eyeL
  simp only [ne99 h8, ↓reduceIte, of_0, of_1, of_2, of_5, Option.bind_some, in71z h8, in71 h8 (show 1 < 6 by decide), in71 h8 (show 2 < 6 by decide), in71 h8 (show 5 < 6 by decide), cl71z h8, cl71 h8 (show 1 < 6 by decide), cl71 h8 (show 2 < 6 by decide), cl71 h8 (show 5 < 6 by decide), g0, g1, g2, g5, candle6]
  rw [hc.2, e3]
  simp only [i3, ↓reduceIte, nI_clamp (show 3 + cellN L h < 2 ^ 31 by omega), nI_clamp (show cellN L h < 2 ^ 31 by omega), k3 _ hc.1]
theorem eyeOut : f_X6_eye r (99 : Int32) = some 0 := by
  unfold f_X6_eye
  rw [if_pos rfl]
theorem above6 (K : Rel r L N ra) {c : Nat} (hc : c < 20) (a eA b eB : Int32) : f_X6_above r a eA b eB (nI c) = some (aboveV L c a eA b eB) := by
  have e3 : (3 : Int32) + nI c = nI (3 + c) := nI_add 3 _
  unfold f_X6_above
  rw [e3, if_pos (inR_nI (by omega) (by decide)), nI_clamp (by omega), K.2.2.2.1 c hc]
  rfl
theorem clear6 (K : Rel r L N ra) {x y : Int32} {a b : Nat} {eA eB : Int32} (hb : b ≤ 20) (hx : f_X6_eye r x = some eA) (hy : f_X6_eye r y = some eB) : ∀ (n c : Nat), c ≤ b → b - c < n → f_X6_doesSee_88 (nI b) r x y (nI a) n (nI c) = some (b01 (allR (fun c => decide (aboveV L c (nI a) eA (nI b) eB < 0)) (b - c) c))
  | 0, c, h1, h2 => absurd h2 (Nat.not_lt_zero _)
  | n + 1, c, h1, h2 => by
    rw [f_X6_doesSee_88]
    by_cases hc : c = b
    · subst hc
      rw [if_pos (le_self c), Nat.sub_self]
      rfl
    · have hlt : c < b := by omega
      rw [if_neg (ge_N (by omega) hlt), hx, Option.bind_some, hy, Option.bind_some, above6 K (by omega), Option.bind_some, nI_1, show b - c = (b - (c + 1)) + 1 by omega]
      unfold allR
      by_cases hp : aboveV L c (nI a) eA (nI b) eB < 0
      · rw [if_pos hp, clear6 K hb hx hy n (c + 1) hlt (by omega)]
        simp [hp]
      · rw [if_neg hp]
        simp [hp, b01]
theorem clear62 (K : Rel r L N ra) {x y : Int32} {a b : Nat} {eA eB : Int32} (hab : a ≤ b) (hb : b ≤ 20) (hx : f_X6_eye r x = some eA) (hy : f_X6_eye r y = some eB) : f_X6_doesSee_82 r (nI b) (nI a) y x = some (b01 (clearB L a b eA eB)) := by
  unfold f_X6_doesSee_82 clearB
  rw [nm, nI_1]
  by_cases h : a = b
  · subst h
    rw [f_X6_doesSee_88, if_pos (nI_le (Nat.le_succ a) (by omega)), show a - (a + 1) = 0 by omega]
    rfl
  · exact clear6 K hb hx hy 200 (a + 1) (by omega) (by omega)
theorem far_0 (I : InvL L N T) (a : Int32) : a - a ≤ 20 - 2 * Lfg L := by
  obtain ⟨F, hF, e⟩ := I.2.2.2.2.1
  rw [e, Int32.sub_self, show (20 : Int32) - 2 * nI F = nI 20 - nI 2 * nI F from rfl, pk_mul, pk_sub (by omega)]
  exact nI_pos' (by omega)
theorem see39 (I : InvL L N T) (K : Rel r L N ra) {x y : Int32} {a b : Nat} {eA eB : Int32} (hab : a ≤ b) (hb : b ≤ 20) (hx : f_X6_eye r x = some eA) (hy : f_X6_eye r y = some eB) (cx : f_X6_cellOf r x = some (nI a)) (cy : f_X6_cellOf r y = some (nI b)) : f_X6_doesSee_39 r x y = some (b01 (openB L a b eA eB)) := by
  unfold f_X6_doesSee_39 openB
  rw [cx, Option.bind_some, cy, Option.bind_some]
  simp only [r71_2, ↓reduceIte, z71_2, K.2.2.1, clear62 K hab hb hx hy]
  by_cases q : nI b - nI a ≤ 20 - 2 * Lfg L
  · simp [q]
  · have hne : ¬ nI a = nI b := by
      intro e
      rw [e] at q
      exact q (far_0 I _)
    simp [q, hne, b01]
theorem see6 (I : InvL L N T) (K : Rel r L N ra) {x y : Int32} {a b : Nat} {eA eB : Int32} (ha : a ≤ 20) (hb : b ≤ 20) (hx : f_X6_eye r x = some eA) (hy : f_X6_eye r y = some eB) (cx : f_X6_cellOf r x = some (nI a)) (cy : f_X6_cellOf r y = some (nI b)) : f_X6_doesSee r x y = some (b01 (seeB L a eA b eB)) := by
  unfold f_X6_doesSee seeB
  rw [cx, Option.bind_some, cy, Option.bind_some]
  by_cases h : a ≤ b
  · rw [if_neg (nI_nlt h (by omega)), if_pos h]
    unfold f_X6_doesSee_18
    rw [if_neg (by decide)]
    unfold f_X6_doesSee_28
    rw [if_neg (by decide)]
    exact see39 I K h hb hx hy cx cy
  · rw [if_pos (nI_lt (by omega) (by omega)), if_neg h]
    unfold f_X6_doesSee_18
    rw [if_pos rfl]
    unfold f_X6_doesSee_28
    rw [if_pos rfl]
    exact see39 I K (by omega) ha hy hx cy cx
theorem sees6 (I : InvL L N T) (K : Rel r L N ra) {h o : Nat} (hh : h < N) (ho : o < N) : f_X6_doesSee r (nI h) (nI o) = some (b01 (seesB L (eyeR L ra) h o)) := see6 I K (by have := (cellN_of I hh).1; omega) (by have := (cellN_of I ho).1; omega) (eye6 I K hh) (eye6 I K ho) (cellOf6 I K hh) (cellOf6 I K ho)
theorem sea6 (I : InvL L N T) (K : Rel r L N ra) {h : Nat} (hh : h < N) : f_X6_doesSee r (nI h) (99 : Int32) = some (b01 (seaB L (eyeR L ra) h)) := see6 I K (by have := (cellN_of I hh).1; omega) (Nat.le_refl _) (eye6 I K hh) eyeOut (cellOf6 I K hh) cellOut
theorem or_0 (m : Nat) : nI m ||| (0 : Int32) = nI m := by
  rw [show (0 : Int32) = nI 0 from rfl, fa_or, Nat.or_zero]
theorem lit6 (I : InvL L N T) (hT : T < 2 ^ 31) (K : Rel r L N ra) : f_X6_litIn r = some (nI (litM L N)) := by
  have hN := I.2.1
  unfold f_X6_litIn litM
  refine loopS (fun n i (s : Nat) => f_X6_litIn_4 r n (nI i) (nI s)) N (fun i => mask (litB L) i) _ ?_ ?_ 200 0 (Nat.zero_le _) (by omega)
  · intro n
    show f_X6_litIn_4 r (n + 1) (nI N) _ = _
    rw [f_X6_litIn_4]
    simp only [r71_0, z71_0, K.1, I.1, le_self, ↓reduceIte]
  · intro n i hi
    show f_X6_litIn_4 r (n + 1) (nI i) _ = f_X6_litIn_4 r n (nI (i + 1)) _
    rw [f_X6_litIn_4]
    simp only [r71_0, z71_0, K.1, I.1, ge_N (show N < 2 ^ 31 by omega) hi, ↓reduceIte]
    rw [isLit6 I hT K hi, Option.bind_some, nI_1]
    cases hb : litB L i with
    | false => rw [if_pos b01f, nm, or_0, mask_no _ _ hb]
    | true => rw [if_neg b01t, nm, one_shl i (by omega), fa_or, mask_or _ _ hb]
end MD
