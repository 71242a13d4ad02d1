/-! pure: whatIs -/
abbrev ksL (L : LD) (h j : Nat) : LD := (L.1, upd L.2.1 h (nI j), L.2.2)
abbrev fsL (L : LD) (h j : Nat) : LD := (L.1, L.2.1, upd L.2.2.1 h (nI j), L.2.2.2)
section WI
variable {L : LD} {N T : Nat}
theorem kinds_k (I : InvL L N T) (hT : T ≤ 999) {k : Nat} (hk : k ≤ 16) (v : MW) (hv : v.2.2.2.2.2.2.2.2.2.2.2.1 = nI k) {f : Nat → Int32} (hf : ∀ i, i < k → f i = v.2.2.2.2.2.1 i) (K : Rel v.1 L N zr) {h : Nat} (hh : h < N) : ∀ (n i m : Nat) (t : TW) (r : Nat → Int32), i + m = 6 → m < n → t.1 = L → Two L v (f_X4_kindsThatFit_6 (nI h) f (nI k) n (nI i) (nI (mask (fun j => soF (ksL L h j) N f k 0) i)) t) (f_X6_whatIs_35 (0 : Int32) (nI h) n (nI i) (nI (mask (fun j => soF (ksL L h j) N f k 0) i)) (v.1, r, v.2.2)) := by
  intro n
  induction n with
  | zero => intro i m t r _ h2; exact absurd h2 (Nat.not_lt_zero _)
  | succ n ih =>
    intro i m t r hi hm ht
    have hN := I.2.1
    have h8 : h < 8 := by omega
    rw [f_X4_kindsThatFit_6, f_X6_whatIs_35, if_pos rfl]
    unfold f_X6_whatIs_48
    by_cases e : i = 6
    · subst e
      rw [if_pos (show (6 : Int32) ≤ nI 6 by decide), if_pos (show (6 : Int32) ≤ nI 6 by decide)]
      exact ⟨_, _, _, rfl, ht, rfl⟩
    · have I2 : InvL (ksL L h i) N T := I
      have K2 : Rel (upd v.1 (23 + 6 * h) (nI i)) (ksL L h i) N zr := Up_ks K
      obtain ⟨t', e1, q1⟩ := isSo5 I2 hk f (L, ksL L h i, t.2.2) rfl
      obtain ⟨r', e2⟩ := isSo6 I2 hT hk v hv hf K2
      have st := ih (i + 1) (m - 1) t' r' (by omega) (by omega) q1
      rw [if_neg (show ¬ (6 : Int32) ≤ nI i from nI_ge (b := 6) (by omega) (by decide)), if_neg (show ¬ (6 : Int32) ≤ nI i from nI_ge (b := 6) (by omega) (by decide)), become5, Option.bind_some, if_pos (inR8 hh hN), nI_clamp (show h < 2 ^ 31 by omega), ht]
      unfold f_X6_copies
      rw [Option.bind_some, of_0, Option.bind_some, if_pos (in71z h8), cl71z h8]
      rw [show f_X4_isSo (L, ksL L h i, t.2.2.1, t.2.2.2.1, t.2.2.2.2.1, t.2.2.2.2.2.1, t.2.2.2.2.2.2) f (nI k) = _ from e1, Option.bind_some]
      rw [show f_X6_isHangSo (v.1, upd v.1 (23 + 6 * h) (nI i), v.2.2.1, v.2.2.2.1, v.2.2.2.2.1, v.2.2.2.2.2.1, v.2.2.2.2.2.2.1, v.2.2.2.2.2.2.2.1, v.2.2.2.2.2.2.2.2.1, v.2.2.2.2.2.2.2.2.2.1, v.2.2.2.2.2.2.2.2.2.2.1, v.2.2.2.2.2.2.2.2.2.2.2.1, v.2.2.2.2.2.2.2.2.2.2.2.2.1, v.2.2.2.2.2.2.2.2.2.2.2.2.2) = _ from e2, Option.bind_some]
      simp only [nm]
      cases g : soF (ksL L h i) N f k 0 with
      | false =>
        rw [show mask (fun j => soF (ksL L h j) N f k 0) (i + 1) = mask (fun j => soF (ksL L h j) N f k 0) i from by rw [mask, if_neg (by rw [g]; decide)]] at st
        rw [if_pos b01f, if_pos b01f, or_0, nI_1]
        exact st
      | true =>
        rw [if_neg b01t, if_neg b01t, one_shl i (by omega), fa_or, mask_or (fun j => soF (ksL L h j) N f k 0) _ g, nI_1]
        exact st
theorem figs_k (I : InvL L N T) (hT : T ≤ 999) {k : Nat} (hk : k ≤ 16) (v : MW) (hv : v.2.2.2.2.2.2.2.2.2.2.2.1 = nI k) {f : Nat → Int32} (hf : ∀ i, i < k → f i = v.2.2.2.2.2.1 i) (K : Rel v.1 L N zr) {h : Nat} (hh : h < N) : ∀ (n i m : Nat) (t : TW) (r : Nat → Int32), i + m = 10 → m < n → t.1 = L → Two L v (f_X4_figuresThatFit_6 (nI h) f (nI k) n (nI i) (nI (mask (fun j => soF (fsL L h j) N f k 0) i)) t) (f_X6_whatIs_35 (1 : Int32) (nI h) n (nI i) (nI (mask (fun j => soF (fsL L h j) N f k 0) i)) (v.1, r, v.2.2)) := by
  intro n
  induction n with
  | zero => intro i m t r _ h2; exact absurd h2 (Nat.not_lt_zero _)
  | succ n ih =>
    intro i m t r hi hm ht
    have hN := I.2.1
    have h8 : h < 8 := by omega
    rw [f_X4_figuresThatFit_6, f_X6_whatIs_35, if_neg one_ne]
    unfold f_X6_whatIs_48
    by_cases e : i = 10
    · subst e
      rw [if_pos (show (9 : Int32) < nI 10 by decide), if_pos (show (10 : Int32) ≤ nI 10 by decide)]
      exact ⟨_, _, _, rfl, ht, rfl⟩
    · have I2 : InvL (fsL L h i) N T := inv_fs I (by omega) _
      have K2 : Rel (upd v.1 (23 + 6 * h + 1) (nI i)) (fsL L h i) N zr := Up_fs K
      obtain ⟨t', e1, q1⟩ := isSo5 I2 hk f (L, fsL L h i, t.2.2) rfl
      obtain ⟨r', e2⟩ := isSo6 I2 hT hk v hv hf K2
      have st := ih (i + 1) (m - 1) t' r' (by omega) (by omega) q1
      rw [if_neg (show ¬ (9 : Int32) < nI i from nI_nlt (a := 9) (by omega) (by decide)), if_neg (show ¬ (10 : Int32) ≤ nI i from nI_ge (b := 10) (by omega) (by decide)), become5, Option.bind_some, if_pos (inR8 hh hN), nI_clamp (show h < 2 ^ 31 by omega), ht]
      unfold f_X6_copies
      rw [Option.bind_some, of_1, Option.bind_some, if_pos (in71 h8 (show 1 < 6 by decide)), cl71 h8 (show 1 < 6 by decide)]
      rw [show f_X4_isSo (L, fsL L h i, t.2.2.1, t.2.2.2.1, t.2.2.2.2.1, t.2.2.2.2.2.1, t.2.2.2.2.2.2) f (nI k) = _ from e1, Option.bind_some]
      rw [show f_X6_isHangSo (v.1, upd v.1 (23 + 6 * h + 1) (nI i), v.2.2.1, v.2.2.2.1, v.2.2.2.2.1, v.2.2.2.2.2.1, v.2.2.2.2.2.2.1, v.2.2.2.2.2.2.2.1, v.2.2.2.2.2.2.2.2.1, v.2.2.2.2.2.2.2.2.2.1, v.2.2.2.2.2.2.2.2.2.2.1, v.2.2.2.2.2.2.2.2.2.2.2.1, v.2.2.2.2.2.2.2.2.2.2.2.2.1, v.2.2.2.2.2.2.2.2.2.2.2.2.2) = _ from e2, Option.bind_some]
      simp only [nm]
      cases g : soF (fsL L h i) N f k 0 with
      | false =>
        rw [show mask (fun j => soF (fsL L h j) N f k 0) (i + 1) = mask (fun j => soF (fsL L h j) N f k 0) i from by rw [mask, if_neg (by rw [g]; decide)]] at st
        rw [if_pos b01f, if_pos b01f, or_0, nI_1]
        exact st
      | true =>
        rw [if_neg b01t, if_neg b01t, one_shl i (by omega), fa_or, mask_or (fun j => soF (fsL L h j) N f k 0) _ g, nI_1]
        exact st
end WI
theorem op_whatIs : E_whatIs Inv := by
  intro w v hI x y
  have hI' := hI
  obtain ⟨⟨N, T, n1, n2, I, n4, n5, K⟩, b, d, ⟨k, hk, e1, e2, e3⟩, e⟩ := hI
  show Eq2 Inv _ _
  unfold f_X5_whatIs f_X6_whatIs
  have isI : ∀ k : Nat, k < 2 → f_X6_isIn (nI k) (0 : Int32) (1 : Int32) = some 1 := by decide +kernel
  rcases hs6 I K x with ⟨h1, h2⟩ | ⟨h, hh, rfl, h1, h2⟩
  · rw [h1, h2, Option.bind_some, Option.bind_some, if_pos rfl, if_pos rfl]
    exact ref_no (x := (-1 : Int32)) hI' 1 (by decide) (by decide) rfl
  rw [h1, h2, Option.bind_some, Option.bind_some, if_neg one_ne, if_neg one_ne]
  by_cases y0 : y = 0
  · subst y0
    obtain ⟨x, t', r', g1, g2, g3⟩ := kinds_k I n2 hk v e2 (fun i hi => (e3 i hi).1) K hh 200 0 6 w.1 v.2.1 (by omega) (by omega) rfl
    unfold f_X4_kindsThatFit
    rw [if_pos rfl, show f_X6_isIn (0 : Int32) (0 : Int32) (1 : Int32) = some 1 from isI 0 (by decide), Option.bind_some, if_neg one_ne, show f_X4_kindsThatFit_6 (nI h) w.2.2.2.2.1 w.2.2.2.2.2.2.2 200 (0 : Int32) (0 : Int32) w.1 = some (x, t') from by rw [e1]; exact g1, show f_X6_whatIs_35 (0 : Int32) (nI h) 200 (0 : Int32) (0 : Int32) v = _ from g3, Option.bind_some]
    exact Eq2_some rfl (Inv_t hI' t' g2 r')
  by_cases y1 : y = 1
  · subst y1
    obtain ⟨x, t', r', g1, g2, g3⟩ := figs_k I n2 hk v e2 (fun i hi => (e3 i hi).1) K hh 200 0 10 w.1 v.2.1 (by omega) (by omega) rfl
    unfold f_X4_figuresThatFit
    rw [if_neg one_ne, if_pos rfl, show f_X6_isIn (1 : Int32) (0 : Int32) (1 : Int32) = some 1 from isI 1 (by decide), Option.bind_some, if_neg one_ne, show f_X4_figuresThatFit_6 (nI h) w.2.2.2.2.1 w.2.2.2.2.2.2.2 200 (0 : Int32) (0 : Int32) w.1 = some (x, t') from by rw [e1]; exact g1, show f_X6_whatIs_35 (1 : Int32) (nI h) 200 (0 : Int32) (0 : Int32) v = _ from g3, Option.bind_some]
    exact Eq2_some rfl (Inv_t hI' t' g2 r')
  have hIn : f_X6_isIn y (0 : Int32) (1 : Int32) = some 0 := by
    rcases isIn_0 y 1 (by decide) with q | ⟨k, hk, rfl, q⟩
    · exact q.1
    · exfalso
      have : k = 0 ∨ k = 1 := by omega
      rcases this with rfl | rfl
      · exact y0 rfl
      · exact y1 rfl
  rw [if_neg y0, if_neg y1, hIn, Option.bind_some, if_pos rfl]
  exact ref_no (x := (-2 : Int32)) hI' 2 (by decide) (by decide) rfl
