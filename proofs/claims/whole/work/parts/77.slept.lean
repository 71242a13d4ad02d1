/-! pure: whoSlept -/
def soF (M : LD) (N : Nat) (f : Nat → Int32) : Nat → Nat → Bool
  | 0, _ => true
  | n + 1, k => decide (hpop M N k = f k) && soF M N f n (k + 1)
section SO
variable {M : LD} {N T : Nat}
theorem so5 (I : InvL M N T) {k : Nat} (hk : k ≤ 16) (f : Nat → Int32) (o : LD) : ∀ (n j m : Nat) (t : TW), j + m = k → m < n → MiOK t M N j → t.1 = o → ∃ t', f_X4_isSo_13 (nI k) f n (nI j) t = some (b01 (soF M N f m j), t') ∧ t'.1 = o := by
  intro n
  induction n with
  | zero => intro j m t _ h2; exact absurd h2 (Nat.not_lt_zero _)
  | succ n ih =>
    intro j m t hj hm q ho
    have hN := I.2.1
    rw [f_X4_isSo_13]
    cases m with
    | zero =>
      obtain rfl : j = k := by omega
      rw [if_pos (le_self j)]
      exact ⟨t, rfl, ho⟩
    | succ m =>
      rw [if_neg (ge_N (by omega) (by omega)), if_neg (show ¬ (16 : Int32) ≤ nI j from nI_ge (b := 16) (by omega) (by decide)), mi_hangers I q, Option.bind_some, bits5m hN, Option.bind_some, if_pos (inR16 (by omega)), nI_clamp (by omega), soF]
      by_cases z : hpop M N j = f j
      · rw [if_pos (show nI (pop (mask (hg M N j) N)) = f j from z), q.1, pl_night (inv_nights I j), Option.bind_some, nI_1, decide_eq_true z, Bool.true_and]
        exact ih (j + 1) m _ (by omega) (by omega) ⟨rfl, q.2⟩ ho
      · rw [if_neg (show ¬ nI (pop (mask (hg M N j) N)) = f j from z), decide_eq_false z, Bool.false_and]
        exact ⟨t, rfl, ho⟩
theorem isSo5 (I : InvL M N T) {k : Nat} (hk : k ≤ 16) (f : Nat → Int32) (t : TW) (ht : t.2.1 = M) : ∃ t', f_X4_isSo t f (nI k) = some (b01 (soF M N f k 0), t') ∧ t'.1 = t.1 := by
  obtain ⟨S', q1, q2⟩ := pl_lookOver I t.2.2.1
  unfold f_X4_isSo
  rw [ht, q1, Option.bind_some]
  exact so5 I hk f t.1 200 0 k (t.1, M, S', t.2.2.2) (by omega) (by omega) ⟨rfl, q2⟩ rfl
theorem b01_and1 (b : Bool) : b01 b &&& 1 = b01 b := by cases b <;> decide
theorem b01_and0 (b : Bool) : b01 b &&& 0 = b01 false := by cases b <;> decide
theorem soF_false {f a : Nat → Int32} : ∀ (m j : Nat), (∀ i, i < j + m → f i = a i) → soF M N f m j = soF M N a m j
  | 0, _, _ => rfl
  | m + 1, j, h => by rw [soF, soF, h j (by omega), soF_false m (j + 1) (fun i hi => h i (by omega))]
theorem so6 (I : InvL M N T) (hT : T ≤ 999) {k : Nat} (hk : k ≤ 16) (v : MW) (hv : v.2.2.2.2.2.2.2.2.2.2.2.1 = nI k) : ∀ (n j m : Nat) (b : Bool) (r : Nat → Int32), j + m = k → m < n → Rel r (nightsL M N j) N zr → ∃ r', f_X6_isHangSo_4 n (nI j) (b01 b) (v.1, r, v.2.2) = some (b01 (b && soF M N v.2.2.2.2.2.1 m j), (v.1, r', v.2.2)) := by
  intro n
  induction n with
  | zero => intro j m b r _ h2; exact absurd h2 (Nat.not_lt_zero _)
  | succ n ih =>
    intro j m b r hj hm q
    have hN := I.2.1
    rw [f_X6_isHangSo_4]
    have hv2 : (v.1, r, v.2.2).2.2.2.2.2.2.2.2.2.2.2.1 = nI k := hv
    cases m with
    | zero =>
      obtain rfl : j = k := by omega
      rw [if_pos (by rw [hv2]; exact le_self j), if_pos (b01_or b), soF, Bool.and_true]
      exact ⟨r, rfl⟩
    | succ m =>
      obtain ⟨r1, e1, K1⟩ := night_k I (show T + j < 2 ^ 31 by omega) q
      rw [if_neg (by rw [hv2]; exact ge_N (by omega) (by omega)), hangIn_k I (show T + j < 2 ^ 31 by omega) q, Option.bind_some, bits6m hN, Option.bind_some, if_pos (inR16 (by omega)), nI_clamp (by omega), soF]
      by_cases z : hpop M N j = v.2.2.2.2.2.1 j
      · rw [if_pos (show nI (pop (mask (hg M N j) N)) = v.2.2.2.2.2.1 j from z), decide_eq_true z, Bool.true_and]
        simp only [nm, e1, Option.bind_some, b01_and1, nI_1]
        exact ih (j + 1) m b r1 (by omega) (by omega) K1
      · rw [if_neg (show ¬ nI (pop (mask (hg M N j) N)) = v.2.2.2.2.2.1 j from z), decide_eq_false z, Bool.false_and, Bool.and_false]
        simp only [nm, e1, Option.bind_some, b01_and0, nI_1]
        obtain ⟨r', e2⟩ := ih (j + 1) m false r1 (by omega) (by omega) K1
        rw [Bool.false_and] at e2
        exact ⟨r', e2⟩
theorem isSo6 (I : InvL M N T) (hT : T ≤ 999) {k : Nat} (hk : k ≤ 16) (v : MW) (hv : v.2.2.2.2.2.2.2.2.2.2.2.1 = nI k) {f : Nat → Int32} (hf : ∀ i, i < k → f i = v.2.2.2.2.2.1 i) {r : Nat → Int32} (q : Rel r M N zr) : ∃ r', f_X6_isHangSo (v.1, r, v.2.2) = some (b01 (soF M N f k 0), (v.1, r', v.2.2)) := by
  obtain ⟨r', e⟩ := so6 I hT hk v hv 200 0 k true r (by omega) (by omega) q
  rw [Bool.true_and] at e
  exact ⟨r', by rw [soF_false (f := f) k 0 (fun i hi => hf i (by omega))]; exact e⟩
abbrev wk0 (L : LD) (h : Nat) : LD := (L.1, L.2.1, L.2.2.1, L.2.2.2.1, upd L.2.2.2.2.1 h 0, L.2.2.2.2.2)
theorem slept_k {L : LD} (I : InvL L N T) (hT : T ≤ 999) {k : Nat} (hk : k ≤ 16) (v : MW) (hv : v.2.2.2.2.2.2.2.2.2.2.2.1 = nI k) {f : Nat → Int32} (hf : ∀ i, i < k → f i = v.2.2.2.2.2.1 i) (K : Rel v.1 L N zr) : ∀ (n i m : Nat) (t : TW) (r : Nat → Int32), i + m = N → m < n → t.1 = L → Two L v (f_X4_housesThatSlept_5 f (nI k) n (nI i) (nI (mask (fun h => soF (wk0 L h) N f k 0) i)) t) (f_X6_whoSlept_4 n (nI i) (nI (mask (fun h => soF (wk0 L h) N f k 0) i)) (v.1, r, v.2.2)) := by
  intro n
  induction n with
  | zero => intro i m t r _ h2; exact absurd h2 (Nat.not_lt_zero _)
  | succ n ih =>
    intro i m t r hi hm ht
    have hN := I.2.1
    rw [f_X4_housesThatSlept_5, f_X6_whoSlept_4, ht, show L.2.2.2.2.2.1 = nI N from I.1, if_pos r71_0, z71_0, show (v.1, r, v.2.2).1 0 = nI N from K.1.trans I.1]
    by_cases e : i = N
    · subst e
      rw [if_pos (le_self i), if_pos (le_self i)]
      exact ⟨_, _, _, rfl, ht, rfl⟩
    · have hi2 : i < N := by omega
      have h8 : i < 8 := by omega
      have I2 : InvL (wk0 L i) N T := inv_wk I rfl rfl rfl rfl rfl rfl
      have K2 : Rel (upd v.1 (23 + 6 * i + 3) 0) (wk0 L i) N zr := Up_wk K
      obtain ⟨t', e1, q1⟩ := isSo5 I2 hk f (L, wk0 L i, t.2.2) rfl
      obtain ⟨r', e2⟩ := isSo6 I2 hT hk v hv hf K2
      have st := ih (i + 1) (m - 1) t' r' (by omega) (by omega) q1
      rw [if_neg (ge_N (by omega) hi2), if_neg (ge_N (by omega) hi2), become5, Option.bind_some, if_pos (inR8 hi2 hN), nI_clamp (by omega)]
      unfold f_X6_copies
      rw [Option.bind_some, of_3, Option.bind_some, if_pos (in71 h8 (show 3 < 6 by decide)), cl71 h8 (show 3 < 6 by decide)]
      rw [show f_X4_isSo (L, wk0 L i, t.2.2.1, t.2.2.2.1, t.2.2.2.2.1, t.2.2.2.2.2.1, t.2.2.2.2.2.2) f (nI k) = _ from e1, Option.bind_some]
      rw [show f_X6_isHangSo (v.1, upd v.1 (23 + 6 * i + 3) 0, v.2.2.1, v.2.2.2.1, v.2.2.2.2.1, v.2.2.2.2.2.1, v.2.2.2.2.2.2.1, v.2.2.2.2.2.2.2.1, v.2.2.2.2.2.2.2.2.1, v.2.2.2.2.2.2.2.2.2.1, v.2.2.2.2.2.2.2.2.2.2.1, v.2.2.2.2.2.2.2.2.2.2.2.1, v.2.2.2.2.2.2.2.2.2.2.2.2.1, v.2.2.2.2.2.2.2.2.2.2.2.2.2) = _ from e2, Option.bind_some]
      simp only [nm]
      cases g : soF (wk0 L i) N f k 0 with
      | false =>
        rw [show mask (fun h => soF (wk0 L h) N f k 0) (i + 1) = mask (fun h => soF (wk0 L h) N f k 0) i from by rw [mask, if_neg (by rw [g]; decide)]] at st
        rw [if_pos b01f, if_pos b01f, or_0, nI_1]
        exact st
      | true =>
        rw [if_neg b01t, if_neg b01t, one_shl i (by omega), fa_or, mask_or (fun h => soF (wk0 L h) N f k 0) _ g, nI_1]
        exact st
end SO
theorem op_whoSlept : E_whoSlept Inv := by
  intro w v hI
  have hI' := hI
  obtain ⟨⟨N, T, n1, n2, I, n4, n5, K⟩, b, d, ⟨k, hk, e1, e2, e3⟩, e⟩ := hI
  show Eq2 Inv _ _
  unfold f_X5_whoSlept f_X6_whoSlept f_X4_housesThatSlept
  obtain ⟨x, t', r', g1, g2, g3⟩ := slept_k I n2 hk v e2 (fun i hi => (e3 i hi).1) K 200 0 N w.1 v.2.1 (by omega) (by omega) rfl
  rw [show f_X4_housesThatSlept_5 w.2.2.2.2.1 w.2.2.2.2.2.2.2 200 (0 : Int32) (0 : Int32) w.1 = some (x, t') from by rw [e1]; exact g1, show f_X6_whoSlept_4 200 (0 : Int32) (0 : Int32) v = _ from g3, Option.bind_some]
  exact Eq2_some rfl (Inv_t hI' t' g2 r')
