/-! pure: lots -/
abbrev vs (v : MW) (r : Nat → Int32) (z : Int32) : MW := (v.1, r, v.2.2.1, v.2.2.2.1, v.2.2.2.2.1, v.2.2.2.2.2.1, v.2.2.2.2.2.2.1, v.2.2.2.2.2.2.2.1, v.2.2.2.2.2.2.2.2.1, v.2.2.2.2.2.2.2.2.2.1, v.2.2.2.2.2.2.2.2.2.2.1, v.2.2.2.2.2.2.2.2.2.2.2.1, v.2.2.2.2.2.2.2.2.2.2.2.2.1, z)
def seedF (z : Int32) : Int32 := (z * (1664525 : Int32)) + (1013904223 : Int32)
def drawF (z x : Int32) : Int32 := remI ((z &&& (2147483647 : Int32)) / (256 : Int32)) x
theorem and_pos (z : Int32) : ∃ j, j < 2 ^ 31 ∧ z &&& (2147483647 : Int32) = nI j := by
  refine ⟨z.toBitVec.toNat % 2 ^ 31, Nat.mod_lt _ (by decide), ?_⟩
  apply Int32.toBitVec_inj.1
  apply BitVec.eq_of_toNat_eq
  show (z.toBitVec &&& 2147483647#32).toNat = (BitVec.ofNat 32 (z.toBitVec.toNat % 2 ^ 31)).toNat
  rw [BitVec.toNat_and, BitVec.toNat_ofNat, BitVec.toNat_ofNat]
  rw [show 2147483647 % 2 ^ 32 = 2 ^ 31 - 1 from rfl, Nat.and_two_pow_sub_one_eq_mod]
  have : z.toBitVec.toNat % 2 ^ 31 < 2 ^ 31 := Nat.mod_lt _ (by decide)
  omega
theorem draw_lt (z : Int32) {n : Nat} (h0 : 0 < n) (hn : n < 2 ^ 31) : ∃ c, c < n ∧ drawF z (nI n) = nI c := by
  obtain ⟨j, hj, e⟩ := and_pos z
  unfold drawF
  rw [e, show (256 : Int32) = nI 256 from rfl, pk_div hj (by decide) (by decide), rem_nat (by omega) h0 hn]
  exact ⟨_, Nat.mod_lt _ h0, rfl⟩
theorem seed5 (z : Int32) : f_X4_nextSeed z = some (seedF z) := rfl
theorem draw5_20 (z : Int32) : f_X4_drawn z (20 : Int32) = some (drawF z 20) := by
  unfold f_X4_drawn
  rw [if_neg (show ¬ (20 : Int32) ≤ 0 by decide), if_neg (show ¬ (20 : Int32) = 0 by decide)]
  rfl
theorem draw5_5 (z : Int32) : f_X4_drawn z (5 : Int32) = some (drawF z 5) := by
  unfold f_X4_drawn
  rw [if_neg (show ¬ (5 : Int32) ≤ 0 by decide), if_neg (show ¬ (5 : Int32) = 0 by decide)]
  rfl
theorem draw6_20 (v : MW) (r : Nat → Int32) (z : Int32) : f_X6_drawn (vs v r z) (20 : Int32) = some (drawF (seedF z) 20, vs v r (seedF z)) := by
  unfold f_X6_drawn
  simp only [nm]
  rw [if_neg (show ¬ (20 : Int32) = 0 by decide)]
  rfl
theorem draw6_5 (v : MW) (r : Nat → Int32) (z : Int32) : f_X6_drawn (vs v r z) (5 : Int32) = some (drawF (seedF z) 5, vs v r (seedF z)) := by
  unfold f_X6_drawn
  simp only [nm]
  rw [if_neg (show ¬ (5 : Int32) = 0 by decide)]
  rfl
def Two3 (L : LD) (v : MW) (a : Option (Int32 × TW)) (b : Option (Int32 × MW)) : Prop := ∃ x t' r' z', a = some (x, t') ∧ t'.1 = L ∧ b = some (x, vs v r' z')
/-- two draws of the two sides, the seeds behind them told by name alone -/
theorem draws (z : Int32) : ∃ z1 z2 d1 d2 : Int32, ∃ c : Nat, c < 20 ∧ d1 = nI c ∧ f_X4_nextSeed z = some z1 ∧ f_X4_drawn z1 (20 : Int32) = some d1 ∧ f_X4_nextSeed z1 = some z2 ∧ f_X4_drawn z2 (5 : Int32) = some d2 ∧ (∀ v r, f_X6_drawn (vs v r z) (20 : Int32) = some (d1, vs v r z1)) ∧ ∀ v r, f_X6_drawn (vs v r z1) (5 : Int32) = some (d2, vs v r z2) := by
  obtain ⟨c, hc, ec⟩ := draw_lt (seedF z) (n := 20) (by decide) (by decide)
  exact ⟨seedF z, seedF (seedF z), _, _, c, hc, ec, seed5 z, draw5_20 _, seed5 _, draw5_5 _, fun v r => draw6_20 v r z, fun v r => draw6_5 v r (seedF z)⟩
section LO
variable {L : LD} {N T : Nat}
abbrev loL (M : LD) (i : Nat) (d1 d2 : Int32) : LD := (M.1, M.2.1, M.2.2.1, upd M.2.2.2.1 i d1, upd M.2.2.2.2.1 i d2, M.2.2.2.2.2)
theorem lot5_s {M : LD} {t : TW} (ht2 : t.2.1 = M) (hM : M.2.2.2.2.2.1 = nI N) (hN : N ≤ 8) {i : Nat} (hi : i < N) (K5 : Int32 → Int32 → Int32 → TW → Option (Int32 × TW)) (x3 acc j : Int32) (n : Nat) {z z1 z2 d1 d2 : Int32} (h1 : f_X4_nextSeed z = some z1) (h2 : f_X4_drawn z1 (20 : Int32) = some d1) (h3 : f_X4_nextSeed z1 = some z2) (h4 : f_X4_drawn z2 (5 : Int32) = some d2) : f_X4_nightsByLot_29 K5 x3 acc j (n + 1) (nI i) z t = f_X4_nightsByLot_29 K5 x3 acc j n (nI (i + 1)) z2 (t.1, loL M i d1 d2, t.2.2) := by
  have hi8 := inR8 hi hN
  have hc8 : (nI i).toNatClampNeg = i := nI_clamp (by omega)
  rw [f_X4_nightsByLot_29, ht2, if_neg (show ¬ M.2.2.2.2.2.1 ≤ nI i by rw [hM]; exact ge_N (by omega) hi), h1, Option.bind_some, h2, Option.bind_some, if_pos hi8, h3, Option.bind_some, h4, Option.bind_some, if_pos hi8, hc8, nI_1]
theorem lot6_s {v : MW} {r : Nat → Int32} (hv : v.1 0 = nI N) (hN : N ≤ 8) {i : Nat} (hi : i < N) (K6 : Int32 → Int32 → MW → Option (Int32 × MW)) (x3 acc j : Int32) (n : Nat) {z z1 z2 d1 d2 : Int32} (h1 : ∀ r, f_X6_drawn (vs v r z) (20 : Int32) = some (d1, vs v r z1)) (h2 : ∀ r, f_X6_drawn (vs v r z1) (5 : Int32) = some (d2, vs v r z2)) : f_X6_lots_72 K6 x3 acc j (n + 1) (nI i) (vs v r z) = f_X6_lots_72 K6 x3 acc j n (nI (i + 1)) (vs v (upd (upd r (23 + 6 * i + 2) d1) (23 + 6 * i + 3) d2) z2) := by
  have h8 : i < 8 := by omega
  rw [f_X6_lots_72, if_pos r71_0, z71_0, show (vs v r z).1 0 = nI N from hv, if_neg (ge_N (by omega) hi), of_2, Option.bind_some, h1, Option.bind_some, if_pos (in71 h8 (show 2 < 6 by decide)), cl71 h8 (show 2 < 6 by decide), of_3, Option.bind_some]
  rw [show f_X6_drawn _ (5 : Int32) = some (d2, vs v (upd r (23 + 6 * i + 2) d1) z2) from h2 (upd r (23 + 6 * i + 2) d1), Option.bind_some, if_pos (in71 h8 (show 3 < 6 by decide)), cl71 h8 (show 3 < 6 by decide), nI_1]
theorem lot_end (hT : T ≤ 999) {v : MW} {x3 : Int32} (hv : v.1 0 = nI N) {K5 : Int32 → Int32 → Int32 → TW → Option (Int32 × TW)} {K6 : Int32 → Int32 → MW → Option (Int32 × MW)} {acc j : Int32} (hk : ∀ a z t r, t.1 = L → Two3 L v (K5 (j + 1) a z t) (K6 (j + 1) a (vs v r z))) (n : Nat) {M : LD} {t : TW} {r : Nat → Int32} (z : Int32) (I : InvL M N T) (ht : t.1 = L) (ht2 : t.2.1 = M) (K : Rel r M N zr) : Two3 L v (f_X4_nightsByLot_29 K5 (if x3 = 0 then 1 else 0) acc j (n + 1) (nI N) z t) (f_X6_lots_72 K6 x3 acc j (n + 1) (nI N) (vs v r z)) := by
  have hN := I.2.1
  have hM : M.2.2.2.2.2.1 = nI N := I.1
  obtain ⟨S', q1, q2⟩ := pl_lookOver I t.2.2.1
  obtain ⟨r', g1, g2⟩ := nights6 (m := 4) I (show T + 4 < 2 ^ 31 by omega) (by decide) K
  rw [f_X4_nightsByLot_29, f_X6_lots_72, ht2, if_pos r71_0, z71_0, show (vs v r z).1 0 = nI N from hv, if_pos (show M.2.2.2.2.2.1 ≤ nI N by rw [hM]; exact le_self N), if_pos (le_self N), q1, Option.bind_some, show f_X1_passNights M (4 : Int32) = _ from pl_nights (k := 4) I (by decide), Option.bind_some, show f_X6_nightsOn (vs v r z).2.1 (4 : Int32) = _ from g1, Option.bind_some]
  simp only [nm]
  by_cases x0 : x3 = 0
  · rw [if_pos x0, if_pos x0, if_neg one_ne, hangIn_k I (show T + 4 < 2 ^ 31 by omega) g2, Option.bind_some, bits6m hN, Option.bind_some]
    rw [show f_X4_hangers (t.1, nightsL M N 4, S', t.2.2.2.1, t.2.2.2.2.1, t.2.2.2.2.2.1, t.2.2.2.2.2.2) = _ from mi_hangers (k := 4) (t := (t.1, nightsL M N 4, S', t.2.2.2)) I ⟨rfl, q2⟩, Option.bind_some, bits5m hN, Option.bind_some]
    exact hk _ _ _ _ ht
  · rw [if_neg x0, if_neg x0, if_pos rfl, pl_allWicks (inv_nights I 4), Option.bind_some, allWicks6 (inv_nights I 4) g2, Option.bind_some]
    exact hk _ _ _ _ ht
theorem lot_in (hT : T ≤ 999) (v : MW) (x3 : Int32) (hv : v.1 0 = nI N) (K5 : Int32 → Int32 → Int32 → TW → Option (Int32 × TW)) (K6 : Int32 → Int32 → MW → Option (Int32 × MW)) (acc j : Int32) (hk : ∀ a z t r, t.1 = L → Two3 L v (K5 (j + 1) a z t) (K6 (j + 1) a (vs v r z))) : ∀ (n i m : Nat) (M : LD) (t : TW) (r : Nat → Int32) (z : Int32), i + m = N → m < n → InvL M N T → t.1 = L → t.2.1 = M → Rel r M N zr → Two3 L v (f_X4_nightsByLot_29 K5 (if x3 = 0 then 1 else 0) acc j n (nI i) z t) (f_X6_lots_72 K6 x3 acc j n (nI i) (vs v r z)) := by
  intro n
  induction n with
  | zero => intro i m M t r z _ h2; exact absurd h2 (Nat.not_lt_zero _)
  | succ n ih =>
    intro i m M t r z hi hm I ht ht2 K
    have hN := I.2.1
    by_cases e : i = N
    · subst e
      exact lot_end hT hv hk n z I ht ht2 K
    · have hi2 : i < N := by omega
      obtain ⟨z1, z2, d1, d2, c, hc, ec, a1, a2, a3, a4, a5, a6⟩ := draws z
      rw [lot5_s ht2 I.1 hN hi2 K5 _ acc j n a1 a2 a3 a4, lot6_s hv hN hi2 K6 x3 acc j n (fun r => a5 v r) (fun r => a6 v r)]
      have I2 : InvL (loL M i d1 d2) N T := by
        subst ec
        exact inv_wk (inv_cs (h := i) I hc) rfl rfl rfl rfl rfl rfl
      exact ih (i + 1) (m - 1) (loL M i d1 d2) _ _ z2 (by omega) (by omega) I2 ht rfl (Up_wk (Up_cs K))
theorem lot_k (I : InvL L N T) (hT : T ≤ 999) (v : MW) (K : Rel v.1 L N zr) (x3 : Int32) {k : Nat} (hk : k ≤ 20) : ∀ (n j m : Nat) (acc z : Int32) (t : TW) (r : Nat → Int32), j + m = k → m < n → t.1 = L → Two3 L v (f_X4_nightsByLot_9 (nI k) (if x3 = 0 then 1 else 0) n (nI j) acc z t) (f_X6_lots_52 (nI k) x3 n (nI j) acc (vs v r z)) := by
  intro n
  induction n with
  | zero => intro j m acc z t r _ h2; exact absurd h2 (Nat.not_lt_zero _)
  | succ n ih =>
    intro j m acc z t r hj hm ht
    rw [f_X4_nightsByLot_9, f_X6_lots_52]
    by_cases e : j = k
    · subst e
      rw [if_pos (le_self j), if_pos (le_self j)]
      exact ⟨_, _, _, _, rfl, ht, rfl⟩
    · rw [if_neg (ge_N (by omega) (by omega)), if_neg (ge_N (by omega) (by omega)), become5, Option.bind_some]
      unfold f_X6_copies
      rw [Option.bind_some]
      refine lot_in hT v x3 (K.1.trans I.1) _ _ acc (nI j) (fun a z t r h => ?_) 200 0 N L _ _ z (by omega) (by have := I.2.1; omega) I ht ht K
      rw [nI_1]
      exact ih (j + 1) (m - 1) a z t r (by omega) (by omega) h
end LO
theorem op_lots : E_lots Inv := by
  intro w v hI x y u
  have hI' := hI
  obtain ⟨⟨N, T, n1, n2, I, n4, n5, K⟩, b⟩ := hI
  show Eq2 Inv _ _
  unfold f_X5_lots f_X6_lots f_X5_outside
  have isI : ∀ k : Nat, k < 2 → f_X6_isIn (nI k) (0 : Int32) (1 : Int32) = some 1 := by decide +kernel
  by_cases h0 : x < 1
  · have : ¬ (1 : Int32) ≤ x := fun z => Int32.lt_irrefl (Int32.lt_of_lt_of_le h0 z)
    rw [if_neg this, if_neg this, Option.bind_some, if_neg (by decide)]
    exact ref_no (x := (-4 : Int32)) hI' 4 (by decide) (by decide) rfl
  have h1 : (1 : Int32) ≤ x := Int32.not_lt.mp h0
  have h00 : ¬ x < 0 := fun z => h0 (Int32.lt_trans z (by decide))
  obtain ⟨k, hk, rfl⟩ := nI_of h00
  rw [if_pos h1, if_pos h1]
  by_cases h6 : k ≤ 20
  · have h20 : nI k ≤ (20 : Int32) := nI_le (b := 20) h6 (by decide)
    rw [if_pos h20, if_pos h20, Option.bind_some, if_pos rfl]
    obtain ⟨a, t', r', z', g1, g2, g3⟩ := lot_k I n2 v K u h6 200 0 k 0 y w.1 v.2.1 (by omega) (by omega) rfl
    have fin : Inv (t', w.2) (vs v r' z') := Inv_t hI' t' g2 r'
    unfold f_X5_lots_37 f_X4_nightsByLot
    by_cases y0 : u = 0
    · subst y0
      rw [if_pos rfl] at g1
      rw [if_pos rfl, if_pos rfl, show f_X6_isIn (0 : Int32) (0 : Int32) (1 : Int32) = some 1 from isI 0 (by decide), Option.bind_some, if_neg one_ne, show f_X4_nightsByLot_9 (nI k) (1 : Int32) 200 (0 : Int32) (0 : Int32) y w.1 = _ from g1, Option.bind_some, show f_X6_lots_52 (nI k) (0 : Int32) 200 (0 : Int32) (0 : Int32) (vs v v.2.1 y) = _ from g3]
      exact Eq2_some rfl fin
    by_cases y1 : u = 1
    · subst y1
      rw [if_neg one_ne] at g1
      rw [if_neg one_ne, if_pos rfl, if_neg one_ne, show f_X6_isIn (1 : Int32) (0 : Int32) (1 : Int32) = some 1 from isI 1 (by decide), Option.bind_some, if_neg one_ne, show f_X4_nightsByLot_9 (nI k) (0 : Int32) 200 (0 : Int32) (0 : Int32) y w.1 = _ from g1, Option.bind_some, show f_X6_lots_52 (nI k) (1 : Int32) 200 (0 : Int32) (0 : Int32) (vs v v.2.1 y) = _ from g3]
      exact Eq2_some rfl fin
    have hIn : f_X6_isIn u (0 : Int32) (1 : Int32) = some 0 := by
      rcases isIn_0 u 1 (by decide) with q | ⟨k, hk, rfl, q⟩
      · exact q.1
      · exfalso
        have : k = 0 ∨ k = 1 := by omega
        rcases this with rfl | rfl
        · exact y0 rfl
        · exact y1 rfl
    rw [if_neg y0, if_neg y1, hIn, Option.bind_some, if_pos rfl]
    exact ref_no (x := (-2 : Int32)) hI' 2 (by decide) (by decide) rfl
  · have h20 : ¬ nI k ≤ (20 : Int32) := nI_ge (a := 20) (by omega) hk
    rw [if_neg h20, if_neg h20, Option.bind_some, if_neg (by decide)]
    exact ref_no (x := (-6 : Int32)) hI' 6 (by decide) (by decide) rfl
