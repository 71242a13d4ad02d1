/-! pure: cut -/
theorem ndiff_pow (p : Nat → Bool) (N h : Nat) : ndiff (mask p N) (2 ^ h) = mask (fun o => p o && !decide (o = h)) N := by
  apply Nat.eq_of_testBit_eq
  intro i
  rw [ndiff_tb, mask_tb, mask_tb]
  by_cases e : i = h
  · subst e
    rw [Nat.testBit_two_pow_self, decide_eq_true (rfl : i = i)]
    simp
  · rw [Nat.testBit_two_pow_of_ne (Ne.symm e), decide_eq_false e]
    simp
theorem without_m (p : Nat → Bool) (N : Nat) {h : Nat} (h8 : h < 31) : nI (mask p N) &&& (((1 : Int32) <<< (nI h &&& 31)) ^^^ (-1 : Int32)) = nI (mask (fun o => p o && !decide (o = h)) N) := by
  rw [one_shl h h8, fa_diff, ndiff_pow]
def wo (p : Nat → Bool) (h o : Nat) : Bool := p o && !decide (o = h)
section CU
variable {L : LD} {N T : Nat}
/-- how many hang a lantern out without h's -/
def cutF (L : LD) (N h : Nat) : Int32 := nI (pop (mask (hangS L (eyeL L) N (wo (litB L) h)) N))
def cutB (L : LD) (N : Nat) : Nat → Int32 × Int32
  | 0 => (0, -9)
  | i + 1 => if litB L i = true then (if (cutB L N i).2 = -9 then (cutF L N i, nI i) else if (cutB L N i).1 ≤ cutF L N i then cutB L N i else (cutF L N i, nI i)) else cutB L N i
theorem cutB_or (L : LD) (N : Nat) : ∀ i, (cutB L N i).2 = -9 ∨ ∃ a, a < i ∧ (cutB L N i).2 = nI a ∧ (cutB L N i).1 = cutF L N a
  | 0 => .inl rfl
  | i + 1 => by
    have ih := cutB_or L N i
    have keep : (cutB L N i).2 = -9 ∨ ∃ a, a < i + 1 ∧ (cutB L N i).2 = nI a ∧ (cutB L N i).1 = cutF L N a := by
      rcases ih with z | ⟨a, h1, h2, h3⟩
      · exact .inl z
      · exact .inr ⟨a, by omega, h2, h3⟩
    rw [cutB]
    split
    · split
      · exact .inr ⟨i, by omega, rfl, rfl⟩
      · split
        · exact keep
        · exact .inr ⟨i, by omega, rfl, rfl⟩
    · exact keep
/-- whom some other one's lantern needs -/
def ndB (L : LD) (N h : Nat) : Bool := !decide (mask (fun o => (hg L N 0 o && !decide (o = h)) && !(hangS L (eyeL L) N (wo (litB L) h) o)) N = 0)
theorem hangWithout_k (I : InvL L N T) {t : TW} (q : LookOK t.2.2.1 L (eyeL L) N) {h : Nat} (h8 : h < 8) : f_X4_hangingWithout t (nI (mask (litB L) N)) (nI h) = some (cutF L N h) := by
  unfold f_X4_hangingWithout
  rw [without_m _ _ (by omega), pl_hanging I.2.1 q, Option.bind_some, bits5m I.2.1, Option.bind_some]
  rfl
theorem nI_ne9 {a : Nat} (h : a < 2 ^ 31) : ¬ nI a = (-9 : Int32) := fun y => absurd (nI_pos' h) (by rw [y]; decide)
theorem cut5 (I : InvL L N T) {t : TW} (q : LookOK t.2.2.1 L (eyeL L) N) (q2 : t.2.1 = L) : ∀ (n i m : Nat), i + m = N → m < n → f_X4_cutHouse_20 (nI (mask (litB L) N)) n (nI i) (cutB L N i).1 (cutB L N i).2 t = some ((cutB L N N).2, t) := by
  intro n
  induction n with
  | zero => intro i m _ h2; exact absurd h2 (Nat.not_lt_zero _)
  | succ n ih =>
    intro i m hi hm
    have hN := I.2.1
    rw [f_X4_cutHouse_20, q2, show L.2.2.2.2.2.1 = nI N from I.1]
    by_cases e : i = N
    · subst e; rw [if_pos (le_self i)]
    · have hi2 : i < N := by omega
      rw [if_neg (ge_N (by omega) hi2), has5m hN hi2, Option.bind_some]
      have st := ih (i + 1) (m - 1) (by omega) (by omega)
      rw [cutB] at st
      cases g : litB L i with
      | false =>
        rw [g, if_neg (by decide)] at st
        rw [if_pos b01f, nI_1]
        exact st
      | true =>
        rw [g, if_pos rfl] at st
        rw [if_neg b01t, hangWithout_k I q (by omega), Option.bind_some, nI_1]
        by_cases z : (cutB L N i).2 = -9
        · rw [if_pos z] at st
          rw [if_pos z]; exact st
        · rw [if_neg z] at st
          rw [if_neg z]
          by_cases y : (cutB L N i).1 ≤ cutF L N i
          · rw [if_pos y] at st
            rw [if_pos y]; exact st
          · rw [if_neg y] at st
            rw [if_neg y]; exact st
theorem nd_eq (I : InvL L N T) {h : Nat} (h8 : h < 8) : ((nI (mask (hg L N 0) N) &&& (((1 : Int32) <<< (nI h &&& 31)) ^^^ (-1 : Int32))) &&& (nI (mask (hangS L (eyeL L) N (wo (litB L) h)) N) ^^^ (-1 : Int32)) = 0) ↔ ndB L N h = false := by
  rw [without_m _ _ (by omega), fa_diff, mask_diff, nI_z (by have := mask_256 (fun i => (hg L N 0 i && !decide (i = h)) && !hangS L (eyeL L) N (wo (litB L) h) i) I.2.1; omega)]
  unfold ndB
  by_cases z : mask (fun i => (hg L N 0 i && !decide (i = h)) && !hangS L (eyeL L) N (wo (litB L) h) i) N = 0
  · simp [z]
  · simp [z]
theorem nd_eq5 (I : InvL L N T) {h : Nat} (h8 : h < 8) : ((nI (mask (hg L N 0) N) &&& (nI (mask (hangS L (eyeL L) N (wo (litB L) h)) N) ^^^ (-1 : Int32))) &&& (((1 : Int32) <<< (nI h &&& 31)) ^^^ (-1 : Int32)) = 0) ↔ ndB L N h = false := by
  rw [fa_diff, mask_diff, without_m _ _ (by omega), nI_z (by have := mask_256 (fun i => (hg L N 0 i && !hangS L (eyeL L) N (wo (litB L) h) i) && !decide (i = h)) I.2.1; omega)]
  unfold ndB
  have hx : mask (fun i => (hg L N 0 i && !hangS L (eyeL L) N (wo (litB L) h) i) && !decide (i = h)) N = mask (fun i => (hg L N 0 i && !decide (i = h)) && !hangS L (eyeL L) N (wo (litB L) h) i) N := mask_ext fun i _ => by
    cases hg L N 0 i <;> cases hangS L (eyeL L) N (wo (litB L) h) i <;> cases decide (i = h) <;> rfl
  rw [hx]
  by_cases z : mask (fun i => (hg L N 0 i && !decide (i = h)) && !hangS L (eyeL L) N (wo (litB L) h) i) N = 0
  · simp [z]
  · simp [z]
theorem need5 (I : InvL L N T) {t : TW} (q : LookOK t.2.2.1 L (eyeL L) N) (q2 : t.2.1 = L) : ∀ (n i m : Nat), i + m = N → m < n → f_X4_needed_26 (nI (mask (litB L) N)) (nI (mask (hg L N 0) N)) n (nI i) (nI (mask (ndB L N) i)) t = some (nI (mask (ndB L N) N), t) := by
  intro n
  induction n with
  | zero => intro i m _ h2; exact absurd h2 (Nat.not_lt_zero _)
  | succ n ih =>
    intro i m hi hm
    have hN := I.2.1
    rw [f_X4_needed_26, q2, show L.2.2.2.2.2.1 = nI N from I.1]
    by_cases e : i = N
    · subst e; rw [if_pos (le_self i)]
    · have hi2 : i < N := by omega
      have st := ih (i + 1) (m - 1) (by omega) (by omega)
      rw [if_neg (ge_N (by omega) hi2), without_m _ _ (by omega), pl_hanging hN q, Option.bind_some]
      simp only [nm]
      rw [show (fun o => litB L o && !decide (o = i)) = wo (litB L) i from rfl]
      have c := nd_eq5 (L := L) (N := N) I (show i < 8 by omega)
      cases g : ndB L N i with
      | false =>
        rw [if_pos (c.2 g), nI_1]
        rw [show mask (ndB L N) (i + 1) = mask (ndB L N) i from by rw [mask, if_neg (by rw [g]; decide)]] at st
        exact st
      | true =>
        rw [if_neg (fun z => by rw [c.1 z] at g; exact absurd g (by decide)), one_shl i (by omega), fa_or, mask_or _ _ g, nI_1]
        exact st
def cut6v (b : Int32 × Int32) : Int32 := if b.2 = -9 then 1000000000 else b.1
theorem cutF_lt (L : LD) (N h : Nat) : cutF L N h < (1000000000 : Int32) := nI_lt (b := 1000000000) (by have := pop_le (mask (hangS L (eyeL L) N (wo (litB L) h)) N); omega) (by decide)
theorem cut6 (I : InvL L N T) (v : MW) (K : Rel v.1 L N zr) (x1 : Int32) : ∀ (n i m : Nat), i + m = N → m < n → f_X6_cut_46 v x1 (nI (mask (litB L) N)) (nI (mask (hg L N 0) N)) n (nI i) (nI (mask (ndB L N) i)) (cut6v (cutB L N i)) (cutB L N i).2 = (if x1 = (2 : Int32) then some (nI (mask (ndB L N) N), v) else if (cutB L N N).2 < 0 then some ((cutB L N N).2, v) else if x1 = 0 then some ((cutB L N N).2, v) else some (cut6v (cutB L N N), v)) := by
  intro n
  induction n with
  | zero => intro i m _ h2; exact absurd h2 (Nat.not_lt_zero _)
  | succ n ih =>
    intro i m hi hm
    have hN := I.2.1
    rw [f_X6_cut_46, if_pos r71_0, z71_0, show v.1 0 = nI N from K.1.trans I.1]
    by_cases e : i = N
    · subst e; rw [if_pos (le_self i)]
    · have hi2 : i < N := by omega
      have st := ih (i + 1) (m - 1) (by omega) (by omega)
      rw [if_neg (ge_N (by omega) hi2), without_m _ _ (by omega), hangBy6 I K, Option.bind_some, eyeR_0]
      have c := nd_eq (L := L) (N := N) I (show i < 8 by omega)
      have go : ∀ t0 : Int32, t0 ||| nI (mask (ndB L N) i) = nI (mask (ndB L N) (i + 1)) → f_X6_cut_100 (fun a0 a1 a2 a3 => f_X6_cut_46 v x1 (nI (mask (litB L) N)) (nI (mask (hg L N 0) N)) n a0 a1 a2 a3) (nI (mask (litB L) N)) (nI (mask (hangS L (eyeL L) N (wo (litB L) i)) N)) (nI i) (cut6v (cutB L N i)) (cutB L N i).2 t0 (nI (mask (ndB L N) i)) = (if x1 = (2 : Int32) then some (nI (mask (ndB L N) N), v) else if (cutB L N N).2 < 0 then some ((cutB L N N).2, v) else if x1 = 0 then some ((cutB L N N).2, v) else some (cut6v (cutB L N N), v)) := by
        intro t0 ht
        unfold f_X6_cut_100
        simp only [nm]
        rw [Int32.or_comm, ht, has6m hN hi2, Option.bind_some, bits6m hN, Option.bind_some, Option.bind_some, nI_1]
        rw [cutB] at st
        cases g : litB L i with
        | false =>
          rw [g, if_neg (by decide)] at st
          rw [if_pos b01f]
          exact st
        | true =>
          rw [g, if_pos rfl] at st
          rw [if_neg b01t]
          have hF : nI (pop (mask (hangS L (eyeL L) N (wo (litB L) i)) N)) = cutF L N i := rfl
          rw [hF]
          by_cases z : (cutB L N i).2 = -9
          · rw [if_pos z] at st
            have hv : cut6v (cutB L N i) = 1000000000 := if_pos z
            rw [hv, if_pos (cutF_lt L N i)]
            rw [show cut6v (cutF L N i, nI i) = cutF L N i from if_neg (nI_ne9 (by omega))] at st
            exact st
          · rw [if_neg z] at st
            have hv : cut6v (cutB L N i) = (cutB L N i).1 := if_neg z
            rw [hv]
            by_cases y : (cutB L N i).1 ≤ cutF L N i
            · rw [if_pos y, hv] at st
              rw [if_neg (Int32.not_lt.mpr y)]; exact st
            · rw [if_neg y, show cut6v (cutF L N i, nI i) = cutF L N i from if_neg (nI_ne9 (by omega))] at st
              rw [if_pos (Int32.not_le.mp y)]; exact st
      have e1 : mask (fun o => litB L o && !decide (o = i)) N = mask (wo (litB L) i) N := rfl
      have e2 : hangS L (eyeL L) N (fun o => litB L o && !decide (o = i)) = hangS L (eyeL L) N (wo (litB L) i) := rfl
      rw [e2]
      cases g : ndB L N i with
      | false =>
        have c2 := c.2 g
        rw [without_m _ _ (by omega)] at c2
        rw [if_pos (by first | exact c2 | (rw [without_m _ _ (by omega)]; exact c2))]
        refine go 0 ?_
        rw [Int32.or_comm, or_0, show mask (ndB L N) (i + 1) = mask (ndB L N) i from by rw [mask, if_neg (by rw [g]; decide)]]
      | true =>
        have c2 : ¬ _ := fun z => absurd (c.1 z) (by rw [g]; decide)
        rw [without_m _ _ (by omega)] at c2
        rw [if_neg (by first | exact c2 | (rw [without_m _ _ (by omega)]; exact c2))]
        refine go _ ?_
        rw [Int32.or_comm, one_shl i (by omega), fa_or, mask_or _ _ g]
end CU
theorem op_cut : E_cut Inv := by
  intro w v hI x
  have hI' := hI
  obtain ⟨⟨N, T, n1, n2, I, n4, n5, K⟩, b⟩ := hI
  show Eq2 Inv _ _
  obtain ⟨t1, e1, q1⟩ := th_begin I w.1 rfl
  have hlit : f_X1_lit t1.2.1 = some (nI (mask (litB w.1.1) N)) := by rw [q1.2.1]; exact pl_lit I
  have c0 := cut5 I q1.2.2 q1.2.1 200 0 N (by omega) (by omega)
  have c6 := cut6 I v K x 200 0 N (by omega) (by omega)
  have isI : ∀ k : Nat, k < 3 → f_X6_isIn (nI k) (0 : Int32) (2 : Int32) = some 1 := by decide +kernel
  have hcutH : f_X4_cutHouse w.1 = some ((cutB w.1.1 N N).2, t1) := by
    unfold f_X4_cutHouse
    rw [e1, Option.bind_some, hlit, Option.bind_some]
    exact c0
  have c62 : f_X6_cut_46 v x (nI (mask (litB w.1.1) N)) (nI (mask (hg w.1.1 N 0) N)) 200 (0 : Int32) (0 : Int32) (1000000000 : Int32) (-9 : Int32) = _ := c6
  have lit : f_X6_litIn v.1 = some (nI (mask (litB w.1.1) N)) := lit6 I (by omega) K
  unfold f_X5_cut f_X6_cut
  have h9 : ((-9 : Int32) < 0) := by decide
  by_cases y0 : x = 0
  · subst y0
    rw [if_pos rfl, hcutH, Option.bind_some, show f_X6_isIn (0 : Int32) (0 : Int32) (2 : Int32) = some 1 from isI 0 (by decide), Option.bind_some, if_neg one_ne, lit, Option.bind_some, hangIn_k (k := 0) I (by omega) K, Option.bind_some, c62, if_neg (by decide), if_pos rfl, ite_self]
    exact Eq2_some rfl (Inv_w hI' t1 q1.1)
  by_cases y1 : x = 1
  · subst y1
    rw [if_neg (by decide), if_pos rfl, show f_X6_isIn (1 : Int32) (0 : Int32) (2 : Int32) = some 1 from isI 1 (by decide), Option.bind_some, if_neg one_ne, lit, Option.bind_some, hangIn_k (k := 0) I (by omega) K, Option.bind_some, c62, if_neg (show ¬ (1 : Int32) = 2 by decide)]
    unfold f_X4_hangingAfterCut
    rw [hcutH, Option.bind_some]
    simp only [nm]
    rcases cutB_or w.1.1 N N with z | ⟨a, ha, h2, h3⟩
    · rw [if_pos z, if_pos (show (cutB w.1.1 N N).2 < 0 by rw [z]; exact h9), Option.bind_some]
      exact Eq2_some z.symm (Inv_w hI' t1 q1.1)
    · rw [if_neg (by rw [h2]; exact nI_ne9 (by omega)), if_neg (show ¬ (cutB w.1.1 N N).2 < 0 by rw [h2]; exact nI_pos (by omega)), if_neg one_ne, hlit, Option.bind_some, h2, hangWithout_k I q1.2.2 (by omega), Option.bind_some, Option.bind_some]
      refine Eq2_some ?_ (Inv_w hI' t1 q1.1)
      unfold cut6v
      rw [if_neg (by rw [h2]; exact nI_ne9 (by omega)), h3]
  by_cases y2 : x = 2
  · subst y2
    rw [if_neg (by decide), if_neg (by decide), if_pos rfl, show f_X6_isIn (2 : Int32) (0 : Int32) (2 : Int32) = some 1 from isI 2 (by decide), Option.bind_some, if_neg one_ne, lit, Option.bind_some, hangIn_k (k := 0) I (by omega) K, Option.bind_some, c62, if_pos rfl]
    unfold f_X4_needed
    have hh := pl_hanging I.2.1 q1.2.2 (litB w.1.1)
    have n5' : f_X4_needed_26 (nI (mask (litB w.1.1) N)) (nI (mask (hg w.1.1 N 0) N)) 200 (0 : Int32) (0 : Int32) t1 = _ := need5 I q1.2.2 q1.2.1 200 0 N (by omega) (by omega)
    rw [e1, Option.bind_some, hlit, Option.bind_some, hh, Option.bind_some, show f_X4_needed_26 (nI (mask (litB w.1.1) N)) (nI (mask (hangS w.1.1 (eyeL w.1.1) N (litB w.1.1)) N)) 200 (0 : Int32) (0 : Int32) t1 = _ from n5', Option.bind_some]
    exact Eq2_some rfl (Inv_w hI' t1 q1.1)
  have hIn : f_X6_isIn x (0 : Int32) (2 : Int32) = some 0 := by
    rcases isIn_0 x 2 (by decide) with q | ⟨k, hk, rfl, q⟩
    · exact q.1
    · exfalso
      have : k = 0 ∨ k = 1 ∨ k = 2 := by omega
      rcases this with rfl | rfl | rfl
      · exact y0 rfl
      · exact y1 rfl
      · exact y2 rfl
  rw [if_neg y0, if_neg y1, if_neg y2, hIn, Option.bind_some, if_pos rfl]
  exact ref_no (x := (-2 : Int32)) hI' 2 (by decide) (by decide) rfl
