/-! pure: build -/
abbrev adL (L : LD) (N : Nat) (k f c : Int32) : LD := (L.1, upd L.2.1 N k, upd L.2.2.1 N f, upd L.2.2.2.1 N c, upd L.2.2.2.2.1 N 20, L.2.2.2.2.2.1 + 1, L.2.2.2.2.2.2)
section AD
variable {L : LD} {N T : Nat} {r : Nat → Int32}
theorem addHouse_k (I : InvL L N T) (hN : N < 8) (k f : Int32) {c : Nat} (hc : c < 20) : f_X1_addHouse L k f (nI c) = some (1, adL L N k f (nI c)) := by
  unfold f_X1_addHouse
  rw [show L.2.2.2.2.2.1 = nI N from I.1, if_neg (show ¬ (8 : Int32) ≤ nI N from nI_ge (b := 8) hN (by decide)), isCell_n hc, Option.bind_some, if_neg one_ne]
  have hi : inR (nI N) 8 = true := inR_nI hN (by decide)
  rw [if_pos hi, if_pos hi, if_pos hi, if_pos hi, nI_clamp (by omega)]
  show some _ = some (1, (L.1, upd L.2.1 N k, upd L.2.2.1 N f, upd L.2.2.2.1 N (nI c), upd L.2.2.2.2.1 N 20, L.2.2.2.2.2.1 + 1, L.2.2.2.2.2.2))
  rw [show L.2.2.2.2.2.1 = nI N from I.1]
theorem inv_ad (I : InvL L N T) (hN : N < 8) (k : Int32) {f c : Nat} (hf : f < 10) (hc : c < 20) : InvL (adL L N k (nI f) (nI c)) (N + 1) T := by
  obtain ⟨i1, i2, i3, ⟨C, hC, i4⟩, i5, i6⟩ := I
  refine ⟨?_, by omega, fun h hh => ?_, ⟨C, by rw [Nat.pow_succ]; omega, i4⟩, i5, i6⟩
  · show L.2.2.2.2.2.1 + 1 = _
    rw [show L.2.2.2.2.2.1 = nI N from i1, nI_1]
  · show (∃ d, d < 20 ∧ upd L.2.2.2.1 N (nI c) h = nI d) ∧ ∃ g, g < 10 ∧ upd L.2.2.1 N (nI f) h = nI g
    by_cases e : h = N
    · subst e; rw [pk_us, pk_us]; exact ⟨⟨c, hc, rfl⟩, f, hf, rfl⟩
    · rw [pk_un e, pk_un e]; exact i3 h (by omega)
def adR (r : Nat → Int32) (N : Nat) (k f c : Int32) : Nat → Int32 := upd (upd (upd (upd (upd (upd r (23 + 6 * N) k) (23 + 6 * N + 1) f) (23 + 6 * N + 2) c) (23 + 6 * N + 3) 20) (23 + 6 * N + 4) 0) (23 + 6 * N + 5) 0
theorem adR_un {k f c : Int32} {i : Nat} (h : i < 23 + 6 * N ∨ 23 + 6 * N + 5 < i) : adR r N k f c i = r i := by
  unfold adR
  rw [pk_un (by omega), pk_un (by omega), pk_un (by omega), pk_un (by omega), pk_un (by omega), pk_un (by omega)]
theorem adR_0 {k f c : Int32} : upd (adR r N k f c) 0 (r 0 + 1) (23 + 6 * N) = k := by
  unfold adR
  rw [pk_un (by omega), pk_un (by omega), pk_un (by omega), pk_un (by omega), pk_un (by omega), pk_un (by omega), pk_us]
theorem adR_1 {k f c : Int32} : upd (adR r N k f c) 0 (r 0 + 1) (23 + 6 * N + 1) = f := by
  unfold adR
  rw [pk_un (by omega), pk_un (by omega), pk_un (by omega), pk_un (by omega), pk_un (by omega), pk_us]
theorem adR_2 {k f c : Int32} : upd (adR r N k f c) 0 (r 0 + 1) (23 + 6 * N + 2) = c := by
  unfold adR
  rw [pk_un (by omega), pk_un (by omega), pk_un (by omega), pk_un (by omega), pk_us]
theorem adR_3 {k f c : Int32} : upd (adR r N k f c) 0 (r 0 + 1) (23 + 6 * N + 3) = 20 := by
  unfold adR
  rw [pk_un (by omega), pk_un (by omega), pk_un (by omega), pk_us]
theorem adR_4 {k f c : Int32} : upd (adR r N k f c) 0 (r 0 + 1) (23 + 6 * N + 4) = 0 := by
  unfold adR
  rw [pk_un (by omega), pk_un (by omega), pk_us]
theorem adR_5 {k f c : Int32} : upd (adR r N k f c) 0 (r 0 + 1) (23 + 6 * N + 5) = 0 := by
  unfold adR
  rw [pk_un (by omega), pk_us]
theorem adds_k (I : InvL L N T) (hN : N < 8) (K : Rel r L N zr) (k f c : Int32) : f_X6_adds r k f c = some (upd (adR r N k f c) 0 (r 0 + 1)) := by
  unfold f_X6_adds
  rw [if_pos r71_0, z71_0, K.1, show Ln L = nI N from I.1]
  simp only [nm, of_0, of_1, of_2, of_3, of_4, of_5, Option.bind_some, in71z hN, cl71z hN, in71 hN (show 1 < 6 by decide), cl71 hN (show 1 < 6 by decide), in71 hN (show 2 < 6 by decide), cl71 hN (show 2 < 6 by decide), in71 hN (show 3 < 6 by decide), cl71 hN (show 3 < 6 by decide), in71 hN (show 4 < 6 by decide), cl71 hN (show 4 < 6 by decide), in71 hN (show 5 < 6 by decide), cl71 hN (show 5 < 6 by decide), r71_0, ↓reduceIte]
  have z : adR r N k f c 0 = r 0 := adR_un (by omega)
  rw [K.1, show Ln L = nI N from I.1] at z
  show some (upd (adR r N k f c) 0 (adR r N k f c 0 + 1)) = _
  rw [z]
theorem rel_ad (I : InvL L N T) (hN : N < 8) (K : Rel r L N zr) (k f c : Int32) : Rel (upd (adR r N k f c) 0 (r 0 + 1)) (adL L N k f c) (N + 1) zr := by
  obtain ⟨k0, k1, k2, k3, k4⟩ := K
  obtain ⟨C, hC, eC⟩ := I.2.2.2.1
  have u : ∀ i, i ≠ 0 → (i < 23 + 6 * N ∨ 23 + 6 * N + 5 < i) → upd (adR r N k f c) 0 (r 0 + 1) i = r i := fun i h0 h => by rw [pk_un h0, adR_un h]
  refine ⟨?_, ?_, ?_, fun d hd => ?_, fun o ho => ?_⟩
  · rw [pk_us, k0]
  · rw [u 1 (by omega) (by omega)]; exact k1
  · rw [u 2 (by omega) (by omega)]; exact k2
  · rw [u (3 + d) (by omega) (by omega)]; exact k3 d hd
  · by_cases e : o = N
    · subst e
      refine ⟨?_, ?_, ?_, ?_, ?_, ?_⟩
      · show _ = upd L.2.1 o k o
        rw [adR_0, pk_us]
      · show _ = upd L.2.2.1 o f o
        rw [adR_1, pk_us]
      · show _ = upd L.2.2.2.1 o c o
        rw [adR_2, pk_us]
      · show _ = upd L.2.2.2.2.1 o 20 o
        rw [adR_3, pk_us]
      · rw [adR_4]
        have hc : calledB (adL L o k f c) o = false := by
          unfold calledB
          show (Lcl L).toNatClampNeg.testBit o = false
          have hp : 2 ^ o ≤ 2 ^ 8 := Nat.pow_le_pow_right (by decide) (by omega)
          rw [eC, nI_clamp (by omega)]
          exact Nat.testBit_lt_two_pow hC
        rw [hc]; rfl
      · rw [adR_5]; rfl
    · obtain ⟨g0, g1, g2, g3, g4, g5⟩ := k4 o (by omega)
      refine ⟨?_, ?_, ?_, ?_, ?_, ?_⟩
      · rw [u _ (by omega) (by omega)]; show _ = upd L.2.1 N k o; rw [pk_un e]; exact g0
      · rw [u _ (by omega) (by omega)]; show _ = upd L.2.2.1 N f o; rw [pk_un e]; exact g1
      · rw [u _ (by omega) (by omega)]; show _ = upd L.2.2.2.1 N c o; rw [pk_un e]; exact g2
      · rw [u _ (by omega) (by omega)]; show _ = upd L.2.2.2.2.1 N 20 o; rw [pk_un e]; exact g3
      · rw [u _ (by omega) (by omega)]; exact g4
      · rw [u _ (by omega) (by omega)]; exact g5
/-- how many would hang with a fisher's house on cell c -/
def blF (L : LD) (N c : Nat) : Int32 := hpop (adL L N 0 0 (nI c)) (N + 1) 0
theorem built5 (I : InvL L N T) (hN : N < 8) {c : Nat} (hc : c < 20) (t : TW) (ht : t.1 = L) : ∃ t', f_X4_hangingIfBuilt t (nI c) = some (blF L N c, t') ∧ t'.1 = L := by
  have I2 := inv_ad (f := 0) I hN 0 (by decide) hc
  obtain ⟨S', q1, q2⟩ := pl_lookOver I2 t.2.2.1
  unfold f_X4_hangingIfBuilt
  rw [become5, Option.bind_some, ht, addHouse_k I hN _ _ hc, Option.bind_some]
  rw [show f_X3_lookOver t.2.2.1 ((1 : Int32), adL L N 0 0 (nI c)).2 = some S' from q1, Option.bind_some]
  rw [show f_X4_hangers (L, ((1 : Int32), adL L N 0 0 (nI c)).2, S', t.2.2.2.1, t.2.2.2.2.1, t.2.2.2.2.2.1, t.2.2.2.2.2.2) = _ from mi_hangers (k := 0) (t := (L, adL L N 0 0 (nI c), S', t.2.2.2)) I2 ⟨rfl, q2⟩, Option.bind_some, bits5m I2.2.1, Option.bind_some]
  exact ⟨_, rfl, rfl⟩
def BlOK (L : LD) (N i : Nat) (b5 b6 arg : Int32) : Prop := (i = 0 ∧ b5 = 0 ∧ b6 = -1 ∧ arg = 0) ∨ ∃ a, a < 20 ∧ arg = nI a ∧ b5 = blF L N a ∧ b6 = blF L N a
theorem build_k (I : InvL L N T) (hN : N < 8) (hT : T ≤ 999) (v : MW) (K : Rel v.1 L N zr) (x1 : Int32) : ∀ (n i m : Nat) (b5 b6 arg : Int32) (t : TW) (r : Nat → Int32), i + m = 20 → m < n → t.1 = L → BlOK L N i b5 b6 arg → ∃ t' r' a, a < 20 ∧ f_X4_buildCell_6 n (nI i) b5 arg t = some (nI a, t') ∧ t'.1 = L ∧ f_X6_build_23 x1 n (nI i) b6 arg (v.1, r, v.2.2) = some (if x1 = 0 then nI a else blF L N a, (v.1, r', v.2.2)) := by
  intro n
  induction n with
  | zero => intro i m b5 b6 arg t r _ h2; exact absurd h2 (Nat.not_lt_zero _)
  | succ n ih =>
    intro i m b5 b6 arg t r hi hm ht q
    rw [f_X4_buildCell_6, f_X6_build_23]
    by_cases e : i = 20
    · subst e
      rw [if_pos (show (20 : Int32) ≤ nI 20 by decide), if_pos (show (20 : Int32) ≤ nI 20 by decide)]
      rcases q with ⟨q1, _⟩ | ⟨a, a1, a2, a3, a4⟩
      · exact absurd q1 (by decide)
      · refine ⟨t, r, a, a1, by rw [a2], ht, ?_⟩
        rw [a2, a4]
        by_cases z : x1 = 0
        · rw [if_pos z, if_pos z]
        · rw [if_neg z, if_neg z]
    · have hi2 : i < 20 := by omega
      have I2 := inv_ad (f := 0) I hN 0 (by decide) hi2
      have K2 := rel_ad I hN K 0 0 (nI i)
      obtain ⟨t1, e1, h1⟩ := built5 I hN hi2 t ht
      rw [if_neg (ge20 hi2), if_neg (ge20 hi2), e1, Option.bind_some]
      unfold f_X6_copies
      rw [Option.bind_some, adds_k I hN K, Option.bind_some]
      rw [hangIn_k (k := 0) I2 (show T + 0 < 2 ^ 31 by omega) K2, Option.bind_some, bits6m I2.2.1, Option.bind_some]
      simp only [nm]
      have hb : nI (pop (mask (hg (adL L N 0 (nI 0) (nI i)) (N + 1) 0) (N + 1))) = blF L N i := rfl
      rw [hb, nI_1]
      rcases q with ⟨q1, q2, q3, q4⟩ | ⟨a, a1, a2, a3, a4⟩
      · subst q1
        rw [q3, if_pos (show (-1 : Int32) < blF L N 0 from Int32.lt_of_lt_of_le (show (-1 : Int32) < 0 by decide) (nI_pos' (by have := pop_le (mask (hg (adL L N 0 0 (nI 0)) (N + 1) 0) (N + 1)); omega))), q2, q4]
        by_cases z : blF L N 0 ≤ 0
        · rw [if_pos z]
          have z0 : blF L N 0 = 0 := Int32.le_antisymm z (nI_pos' (by have := pop_le (mask (hg (adL L N 0 0 (nI 0)) (N + 1) 0) (N + 1)); omega))
          exact ih (0 + 1) (m - 1) 0 _ 0 t1 _ (by omega) (by omega) h1 (.inr ⟨0, by decide, rfl, z0.symm, rfl⟩)
        · rw [if_neg z]
          exact ih (0 + 1) (m - 1) _ _ (nI 0) t1 _ (by omega) (by omega) h1 (.inr ⟨0, by decide, rfl, rfl, rfl⟩)
      · rw [a3, a4]
        by_cases z : blF L N i ≤ blF L N a
        · rw [if_pos z, if_neg (Int32.not_lt.mpr z)]
          exact ih (i + 1) (m - 1) _ _ _ t1 _ (by omega) (by omega) h1 (.inr ⟨a, a1, a2, rfl, rfl⟩)
        · rw [if_neg z, if_pos (Int32.not_le.mp z)]
          exact ih (i + 1) (m - 1) _ _ _ t1 _ (by omega) (by omega) h1 (.inr ⟨i, hi2, rfl, rfl, rfl⟩)
end AD
theorem op_build : E_build Inv := by
  intro w v hI x
  have hI' := hI
  obtain ⟨⟨N, T, n1, n2, I, n4, n5, K⟩, b⟩ := hI
  show Eq2 Inv _ _
  have hN : N < 8 := by omega
  have isI : ∀ k : Nat, k < 2 → f_X6_isIn (nI k) (0 : Int32) (1 : Int32) = some 1 := by decide +kernel
  obtain ⟨t', r', a, a1, e1, h1, e2⟩ := build_k I hN n2 v K x 200 0 20 0 (-1) 0 w.1 v.2.1 rfl (by decide) rfl (.inl ⟨rfl, rfl, rfl, rfl⟩)
  have c5 : f_X4_buildCell w.1 = some (nI a, t') := by unfold f_X4_buildCell; exact e1
  have c6 : f_X6_build_23 x 200 (0 : Int32) (-1 : Int32) (0 : Int32) v = _ := e2
  unfold f_X5_build f_X6_build
  by_cases y0 : x = 0
  · subst y0
    rw [if_pos rfl, c5, Option.bind_some, show f_X6_isIn (0 : Int32) (0 : Int32) (1 : Int32) = some 1 from isI 0 (by decide), Option.bind_some, if_neg one_ne, c6, if_pos rfl]
    exact Eq2_some rfl (Inv_t hI' t' h1 r')
  by_cases y1 : x = 1
  · subst y1
    obtain ⟨t2, e3, h3⟩ := built5 I hN a1 t' h1
    rw [if_neg (by decide), if_pos rfl, c5, Option.bind_some, e3, Option.bind_some, show f_X6_isIn (1 : Int32) (0 : Int32) (1 : Int32) = some 1 from isI 1 (by decide), Option.bind_some, if_neg one_ne, c6, if_neg one_ne]
    exact Eq2_some rfl (Inv_t hI' t2 h3 r')
  have hIn : f_X6_isIn x (0 : Int32) (1 : Int32) = some 0 := by
    rcases isIn_0 x 1 (by decide) with q | ⟨k, hk, rfl, q⟩
    · exact q.1
    · exfalso
      have : k = 0 ∨ k = 1 := by omega
      rcases this with rfl | rfl
      · exact y0 rfl
      · exact y1 rfl
  rw [if_neg y0, if_neg y1, hIn, Option.bind_some, if_pos rfl]
  exact ref_no (x := (-2 : Int32)) hI' 2 (by decide) (by decide) rfl
