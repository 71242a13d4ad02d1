/-! pure: land -/
abbrev vz (v : MW) (r q : Nat → Int32) (pl : Int32) : MW := (r, v.2.1, v.2.2.1, v.2.2.2.1, v.2.2.2.2.1, v.2.2.2.2.2.1, v.2.2.2.2.2.2.1, q, v.2.2.2.2.2.2.2.2.1, v.2.2.2.2.2.2.2.2.2.1, (0 : Int32), v.2.2.2.2.2.2.2.2.2.2.2.1, pl, v.2.2.2.2.2.2.2.2.2.2.2.2.2)
abbrev vw (v : MW) (r : Nat → Int32) : MW := (v.1, v.2.1, v.2.2.1, r, v.2.2.2.2)
theorem tab_fa : ∀ e, e < 100 → (-1000 : Int32) - nI e ≠ (-9 : Int32) ∧ (-2000 : Int32) - nI e ≠ (-9 : Int32) := by decide +kernel
section LN
variable {v : MW} {A : Nat → Nat} {k : Nat} {f : Nat → Int32}
theorem brk_le (A : Nat → Nat) (k : Nat) : ∀ (n p c e : Nat), brkF A k n p c = .inl e → p ≤ k → e ≤ k
  | 0, p, c, e, h, hp => by cases h; exact hp
  | n + 1, p, c, e, h, hp => by
    have h1 := st_le A hp
    rw [brkF] at h
    by_cases z : (stF A k p).1 = true
    · rw [if_pos z] at h
      by_cases y : (stF A k p).2 < k
      · rw [if_pos y] at h
        exact brk_le A k n _ _ e h (by omega)
      · rw [if_neg y] at h; cases h
    · rw [if_neg z] at h
      cases h
      exact h1
theorem st_gt {p : Nat} (h : (stF A k p).1 = true) : p < k ∧ p < (stF A k p).2 := by
  unfold stF at h ⊢
  by_cases z : p < k ∧ fxF (A p) < 4
  · rw [if_pos z] at h ⊢
    have := (run_ok A k _ _ h).2
    exact ⟨z.1, by omega⟩
  · rw [if_neg z] at h; cases h
theorem l26 (k2 : Int32 → Int32 → MW → Option (Int32 × MW)) (v2 c : Int32) (r q : Nat → Int32) (pl : Int32) : f_X6_land_26 k2 v2 c (vl v r q pl) = if v2 = (-9 : Int32) then (if pl < v.2.2.2.2.2.2.2.2.2.2.1 then k2 v2 (c + 1) (vl v r q pl) else f_X6_land_46 (c + 1) v2 (vl v r q pl)) else f_X6_land_46 (c + 1) v2 (vl v r q pl) := rfl
theorem ld10 (X : TX v A k) (r : Nat → Int32) : ∀ (n p c : Nat) (q : Nat → Int32), k - p < n → p ≤ k →
    (∀ e, brkF A k n p c = .inl e → ∃ q' c', f_X6_land_10 n (-9 : Int32) (nI c) (vl v r q (nI p)) = f_X6_land_46 c' ((-1000 : Int32) - nI e) (vl v r q' (nI e))) ∧ (∀ m, brkF A k n p c = .inr m → ∃ q' pl, f_X6_land_10 n (-9 : Int32) (nI c) (vl v r q (nI p)) = f_X6_land_46 (nI m) (-9 : Int32) (vl v r q' pl)) := by
  have hk := X.2.1
  intro n
  induction n with
  | zero => intro p c q h2; exact absurd h2 (Nat.not_lt_zero _)
  | succ n ih =>
    intro p c q hn hp
    obtain ⟨q', e1, -⟩ := reads6 X r q hp
    have hle := st_le A hp
    rw [f_X6_land_10, brkF, e1, Option.bind_some]
    cases z : (stF A k p).1 with
    | false =>
      rw [if_pos b01f, if_neg ft_ne, nm]
      have tf := (tab_fa (stF A k p).2 (by omega)).1
      rw [show f_X6_land_26 (fun a0 a1 a2 => f_X6_land_10 n a0 a1 a2) ((-1000 : Int32) - nI (stF A k p).2) (nI c) (vl v r q' (nI (stF A k p).2)) = _ from l26 _ _ _ _ _ _, if_neg tf]
      refine ⟨fun e he => ?_, fun m hm => ?_⟩
      · cases he
        exact ⟨q', _, rfl⟩
      · cases hm
    | true =>
      have hg := st_gt z
      rw [if_neg b01t, if_pos rfl]
      rw [show f_X6_land_26 (fun a0 a1 a2 => f_X6_land_10 n a0 a1 a2) (-9 : Int32) (nI c) (vl v r q' (nI (stF A k p).2)) = _ from l26 _ _ _ _ _ _, if_pos rfl, X.1, nI_1]
      by_cases y : (stF A k p).2 < k
      · rw [if_pos (nI_lt y (by omega)), if_pos y]
        exact ih (stF A k p).2 (c + 1) q' (by omega) (by omega)
      · rw [if_neg (nI_nlt (by omega) (by omega)), if_neg y]
        refine ⟨fun e he => ?_, fun m hm => ?_⟩
        · cases he
        · cases hm
          exact ⟨q', _, rfl⟩
theorem l46 (c v2 : Int32) (r q : Nat → Int32) (pl : Int32) : f_X6_land_46 c v2 (vl v r q pl) = f_X6_land_62 c 200 v2 (vl (vw v r) r q (nI 0)) := by
  unfold f_X6_land_46 f_X6_copies
  rw [Option.bind_some]
  rfl
theorem TX_vw (X : TX v A k) (r : Nat → Int32) : TX (vw v r) A k := X
theorem l62_f {c v2 : Int32} (h : v2 ≠ (-9 : Int32)) (n : Nat) (r q : Nat → Int32) (pl : Int32) : f_X6_land_62 c (n + 1) v2 (vl v r q pl) = some (v2, vz v r q pl) := by
  rw [f_X6_land_62, if_neg h, if_neg h]
theorem l62_e (X : TX v A k) {c : Int32} (n : Nat) (r q : Nat → Int32) {p : Nat} (hp : k ≤ p) (hp2 : p < 2 ^ 31) : f_X6_land_62 c (n + 1) (-9 : Int32) (vl v r q (nI p)) = some (c, vz v r q (nI p)) := by
  rw [f_X6_land_62, if_pos rfl, show (vl v r q (nI p)).2.2.2.2.2.2.2.2.2.2.1 = nI k from X.1, if_pos (show nI k ≤ (vl v r q (nI p)).2.2.2.2.2.2.2.2.2.2.2.2.1 from nI_le hp hp2), if_pos rfl]
theorem l62_s (X : TX v A k) {c : Int32} (n : Nat) (r q : Nat → Int32) {p : Nat} (hp : p < k) {w : MW} {x y : Int32} {w2 : MW} (h1 : f_X6_readsStatement (vl v r q (nI p)) = some (x, w)) (h2 : f_X6_isDone w (nI (A p)) = some (y, w2)) : f_X6_land_62 c (n + 1) (-9 : Int32) (vl v r q (nI p)) = if y = 0 then f_X6_land_62 c n ((-2000 : Int32) - nI p) (w2.2.2.2.1, w2.2) else f_X6_land_62 c n (-9 : Int32) w2 := by
  have hk := X.2.1
  rw [f_X6_land_62, if_pos rfl, show (vl v r q (nI p)).2.2.2.2.2.2.2.2.2.2.1 = nI k from X.1, if_neg (show ¬ nI k ≤ (vl v r q (nI p)).2.2.2.2.2.2.2.2.2.2.2.2.1 from nI_ge hp (by omega)), nm, here6 X r q (by omega), Option.bind_some, h1, Option.bind_some, nm, show hereN A k p = nI (A p) from if_neg (by omega), h2, Option.bind_some]
  rfl
theorem p2 (X : TX v A k) (X5 : TeX5 f A k) (c0 : Int32) {mm : Nat} : ∀ (n p c : Nat) (M : LD) (r q : Nat → Int32), k - p < n → p < k → brkF A k n p c = .inr mm → LK M r →
    (∃ x M' cnt q' pl', x < 100 ∧ f_X2_refusedPlace_7 n (nI p) (f, nI k, nI c) M = some (nI x, (f, nI k, cnt), M') ∧ f_X6_land_62 c0 n (-9 : Int32) (vl v r q (nI p)) = some ((-2000 : Int32) - nI x, vz v v.2.2.2.1 q' pl')) ∨ (∃ M' r' q' pl', f_X2_refusedPlace_7 n (nI p) (f, nI k, nI c) M = some (-1, (f, nI k, nI mm), M') ∧ f_X6_land_62 c0 n (-9 : Int32) (vl v r q (nI p)) = some (c0, vz v r' q' pl') ∧ LK M' r') := by
  have hk := X.2.1
  intro n
  induction n with
  | zero => intro p c M r q h2; exact absurd h2 (Nat.not_lt_zero _)
  | succ n ih =>
    intro p c M r q hn hp hb hM
    obtain ⟨n, rfl⟩ : ∃ m, n = m + 1 := ⟨n - 1, by omega⟩
    rw [brkF] at hb
    have hle := st_le A (k := k) (p := p) (by omega)
    obtain ⟨q', e1, e2⟩ := reads6 X r q (show p ≤ k by omega)
    cases z : (stF A k p).1 with
    | false => rw [z, if_neg ft_ne] at hb; cases hb
    | true =>
      have hg := st_gt z
      rw [z, if_pos rfl] at hb
      have hA := (X.2.2 p hp).2
      have x1 := (X5.2 p hp).1
      have dk := done_k (v := v) (q := q') (pl := nI (stF A k p).2) (z := nI c) X5 hp z (e2 z) hM
      rw [f_X2_refusedPlace_7, if_neg (show ¬ nI k ≤ nI p from nI_ge hp (by omega))]
      rcases dk with ⟨M', g1, g2⟩ | ⟨M', r', g1, g2, g3⟩
      · refine .inl ⟨p, M', nI c, q', nI (stF A k p).2, by omega, ?_, ?_⟩
        · rw [g1, Option.bind_some, if_pos rfl]
        · rw [l62_s X (n + 1) r q hp e1 g2, if_pos rfl]
          exact l62_f (v := v) (tab_fa p (by omega)).2 n v.2.2.2.1 q' (nI (stF A k p).2)
      · have hfx : fxF (A p) < 5 := by
          by_cases g : fxF (A p) < 4
          · omega
          · have := (tab_fx4 _ hA g).1
            omega
        have g4 : fxF (A p) < 4 := by
          refine Classical.byContradiction fun g => ?_
          rw [show stF A k p = (false, p) from if_neg (fun z => g z.2)] at z
          cases z
        have he : (stF A k p).2 = p + (1 + (FL (fxF (A p))).length) := by
          have hs : stF A k p = runF A k (FL (fxF (A p))) (p + 1) := if_pos ⟨hp, g4⟩
          rw [hs] at z ⊢
          rw [(run_ok A k _ _ z).2]
          omega
        have s5 : f_X2_refusedPlace_7 (n + 1 + 1) (nI p) (f, nI k, nI c) M = f_X2_refusedPlace_7 (n + 1) (nI (stF A k p).2) (f, nI k, nI (c + 1)) M' := by
          rw [f_X2_refusedPlace_7, if_neg (show ¬ nI k ≤ nI p from nI_ge hp (by omega)), g1, Option.bind_some, if_neg one_ne, if_pos (inR96 (show p < 96 by omega)), nI_clamp (show p < 2 ^ 31 by omega), show (f, nI k, nI c).1 p = nI (A p) from x1, tab_form _ hA, Option.bind_some, (tab_len _ hfx).1, Option.bind_some, nm, show (1 : Int32) + nI (FL (fxF (A p))).length = nI (1 + (FL (fxF (A p))).length) from nI_add 1 _, nI_add, ← he]
          show f_X2_refusedPlace_7 (n + 1) (nI (stF A k p).2) (f, nI k, nI c + 1) M' = _
          rw [nI_1]
        have s6 : f_X6_land_62 c0 (n + 1 + 1) (-9 : Int32) (vl v r q (nI p)) = f_X6_land_62 c0 (n + 1) (-9 : Int32) (vl v r' q' (nI (stF A k p).2)) := by
          rw [l62_s X (n + 1) r q hp e1 g2, if_neg one_ne]
        rw [f_X2_refusedPlace_7, if_neg (show ¬ nI k ≤ nI p from nI_ge hp (by omega))] at s5
        rw [s5, s6]
        by_cases y : (stF A k p).2 < k
        · rw [if_pos y] at hb
          exact ih (stF A k p).2 (c + 1) M' r' q' (by omega) y hb g3
        · rw [if_neg y] at hb
          cases hb
          refine .inr ⟨M', r', q', nI (stF A k p).2, ?_, l62_e X n r' q' (by omega) (by omega), g3⟩
          rw [f_X2_refusedPlace_7, if_pos (show nI k ≤ nI (stF A k p).2 from nI_le (by omega) (by omega))]
end LN
theorem Inv_land {w : EW} {v : MW} (h : Inv w v) {t : TW} {r : Nat → Int32} (hl : LK t.1 r) (d : LD) (g q : Nat → Int32) (y pl : Int32) (s : Nat → Int32) : Inv (t, d, w.2.2.1, (g, (0 : Int32), y), w.2.2.2.2) (vz (vw v s) r q pl) := by
  obtain ⟨a, b, c, e⟩ := h
  exact ⟨hl, b, ⟨0, by decide, rfl, rfl, fun i hi => absurd hi (Nat.not_lt_zero _)⟩, e⟩
theorem op_land : E_land Inv := by
  intro w v hI
  have hI' := hI
  obtain ⟨a, b, ⟨k, hk, l1, l2, l3⟩, e⟩ := hI
  show Eq2 Inv _ _
  have hA : ∀ i, i < k → v.2.2.2.2.1 i = nI (v.2.2.2.2.1 i).toNatClampNeg ∧ (v.2.2.2.2.1 i).toNatClampNeg < 256 := by
    intro i hi
    obtain ⟨b, hb, eb⟩ := (l3 i hi).2
    rw [eb, nI_clamp (by omega)]
    exact ⟨rfl, by omega⟩
  have X : TX v (fun i => (v.2.2.2.2.1 i).toNatClampNeg) k := ⟨l2, hk, hA⟩
  have X5 : TeX5 w.2.2.2.1.1 (fun i => (v.2.2.2.2.1 i).toNatClampNeg) k := ⟨hk, fun i hi => ⟨(l3 i hi).1.trans (hA i hi).1, (hA i hi).2⟩⟩
  obtain ⟨A, hAe⟩ : ∃ A : Nat → Nat, A = fun i => (v.2.2.2.2.1 i).toNatClampNeg := ⟨_, rfl⟩
  rw [← hAe] at X X5
  have hw : w.2.2.2.1 = (w.2.2.2.1.1, nI k, w.2.2.2.1.2.2) := by rw [← l1]
  obtain ⟨f1, hf1⟩ : ∃ f1, f1 = w.2.2.2.1.1 := ⟨_, rfl⟩
  obtain ⟨z1, hz1⟩ : ∃ z1, z1 = w.2.2.2.1.2.2 := ⟨_, rfl⟩
  rw [← hf1] at X5
  rw [← hf1, ← hz1] at hw
  have c6 : f_X6_land v = f_X6_land_10 200 (-9 : Int32) (nI 0) (vl v v.1 v.2.2.2.2.2.2.2.1 (nI 0)) := by
    unfold f_X6_land
    rfl
  have c5 : f_X5_land w = if 0 ≤ codeF (brkF A k 200 0 0) then f_X5_land_38 (codeF (brkF A k 200 0 0)) (-1 : Int32) (w.1, w.1.1, w.2.2.1, (f1, nI k, z1), w.2.2.2.2) else Option.bind (f_X2_refusedPlace (f1, nI k, z1) w.1.1) fun p => f_X5_land_38 (codeF (brkF A k 200 0 0)) p.1 (w.1, p.2.2, w.2.2.1, p.2.1, w.2.2.2.2) := by
    unfold f_X5_land
    rw [hw, broken5 X5 z1, Option.bind_some, become5, Option.bind_some]
  have ld := ld10 X v.1 200 0 0 v.2.2.2.2.2.2.2.1 (by omega) (by omega)
  rw [c5, c6]
  cases hb : brkF A k 200 0 0 with
  | inl e0 =>
    have he := brk_le A k 200 0 0 e0 hb (by omega)
    obtain ⟨q', c', g1⟩ := ld.1 e0 hb
    rw [show codeF (.inl e0) = nI e0 from rfl, if_pos (nI_pos' (by omega)), g1, l46, l62_f (tab_fa e0 (by omega)).1]
    unfold f_X5_land_38 f_X2_forget
    rw [nm, Option.bind_some, if_neg (nI_pos (by omega))]
    exact Eq2_some rfl (Inv_land hI' (t := w.1) a _ _ _ _ _ _)
  | inr mm =>
    have hk0 : 0 < k := by
      refine Nat.pos_of_ne_zero fun z => ?_
      subst z
      rw [brkF, show stF A 0 0 = (false, 0) from if_neg (fun z => absurd z.1 (Nat.not_lt_zero _)), if_neg ft_ne] at hb
      cases hb
    obtain ⟨q', pl, g1⟩ := ld.2 mm hb
    rw [show codeF (.inr mm) = -1 from rfl, if_neg (show ¬ (0 : Int32) ≤ -1 by decide), g1, l46]
    have pp := p2 (TX_vw X v.1) X5 (nI mm) 200 0 0 w.1.1 v.1 q' (by omega) hk0 hb a
    have rp : f_X2_refusedPlace (f1, nI k, z1) w.1.1 = f_X2_refusedPlace_7 200 (nI 0) (f1, nI k, nI 0) w.1.1 := by
      unfold f_X2_refusedPlace
      rfl
    rw [rp]
    rcases pp with ⟨x, M', cnt, q2, pl2, hx, h1, h2⟩ | ⟨M', r', q2, pl2, h1, h2, h3⟩
    · rw [h1, h2, Option.bind_some]
      unfold f_X5_land_38 f_X2_forget
      rw [nm, Option.bind_some, if_pos (show (-1 : Int32) < 0 by decide), if_neg (nI_pos (by omega))]
      exact Eq2_some rfl (Inv_land hI' (t := w.1) a _ _ _ _ _ _)
    · rw [h1, h2, Option.bind_some]
      unfold f_X5_land_38 f_X2_forget
      rw [nm, Option.bind_some, if_pos (show (-1 : Int32) < 0 by decide), if_pos (show (-1 : Int32) < 0 by decide), become5, Option.bind_some]
      exact Eq2_some rfl (Inv_land hI' (t := (M', w.1.2)) h3 _ _ _ _ _ _)
