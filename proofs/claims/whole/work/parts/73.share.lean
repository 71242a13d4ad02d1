/-! pure: share; 99 wicks or 100 light alike for 31 nights -/
/-- B is A but for one wick more on h, which has a of them in A -/
def Near (A B : LD) (N h a : Nat) : Prop := B.1 = A.1 ∧ B.2.1 = A.2.1 ∧ B.2.2.1 = A.2.2.1 ∧ B.2.2.2.1 = A.2.2.2.1 ∧ B.2.2.2.2.2 = A.2.2.2.2.2 ∧ (∀ o, o < N → o ≠ h → Lwk B o = Lwk A o) ∧ Lwk A h = nI a ∧ Lwk B h = nI (a + 1)
theorem burns_2 (k : Int32) : ∃ B, B ≤ 2 ∧ burns k = nI B := by
  unfold burns
  split
  · exact ⟨2, by decide, rfl⟩
  · split
    · exact ⟨2, by decide, rfl⟩
    · split
      · exact ⟨2, by decide, rfl⟩
      · exact ⟨1, by decide, rfl⟩
theorem near_lit {A B : LD} {N h a : Nat} (q : Near A B N h a) (ha : 2 ≤ a) (ha2 : a < 1000) : ∀ o, o < N → litB B o = litB A o := by
  intro o ho
  obtain ⟨q1, q2, q3, q4, q5, q6, q7, q8⟩ := q
  have hk : Lks B o = Lks A o := congrFun q2 o
  have hf : Lfs B o = Lfs A o := congrFun q3 o
  have hn : Lnt B = Lnt A := by show B.2.2.2.2.2.2.2.2 = A.2.2.2.2.2.2.2.2; rw [q5]
  have hc : calledB B o = calledB A o := by unfold calledB; show B.2.2.2.2.2.2.1.toNatClampNeg.testBit o = A.2.2.2.2.2.2.1.toNatClampNeg.testBit o; rw [q5]
  unfold litB
  rw [hk, hf, hn, hc]
  by_cases e : o = h
  · subst e
    obtain ⟨b, hb, eb⟩ := burns_2 (Lks A o)
    rw [q7, q8, eb, decide_eq_false (nI_nlt (by omega) (by omega)), decide_eq_false (nI_nlt (by omega) (by omega))]
  · rw [q6 o ho e]
theorem near_night {A B : LD} {N h a : Nat} (q : Near A B N h a) (ha : 2 ≤ a) (ha2 : a < 1000) : ∃ a', a ≤ a' + 2 ∧ a' ≤ a ∧ Near (nightL A N) (nightL B N) N h a' := by
  have hl := near_lit q ha ha2
  obtain ⟨q1, q2, q3, q4, q5, q6, q7, q8⟩ := q
  have hk : ∀ o, Lks B o = Lks A o := fun o => congrFun q2 o
  have base : ∀ a', (Lwk (nightL A N) h = nI a' ∧ Lwk (nightL B N) h = nI (a' + 1)) → Near (nightL A N) (nightL B N) N h a' := by
    intro a' z
    refine ⟨q1, q2, q3, q4, ?_, ?_, z.1, z.2⟩
    · show (B.2.2.2.2.2.1, B.2.2.2.2.2.2.1, B.2.2.2.2.2.2.2.1, B.2.2.2.2.2.2.2.2 + 1) = (A.2.2.2.2.2.1, A.2.2.2.2.2.2.1, A.2.2.2.2.2.2.2.1, A.2.2.2.2.2.2.2.2 + 1)
      rw [q5]
    · intro o ho e
      show (if o < N ∧ litB B o = true then Lwk B o - burns (Lks B o) else Lwk B o) = (if o < N ∧ litB A o = true then Lwk A o - burns (Lks A o) else Lwk A o)
      rw [hl o ho, hk o, q6 o ho e]
  obtain ⟨b, hb, eb⟩ := burns_2 (Lks A h)
  by_cases z : h < N ∧ litB A h = true
  · refine ⟨a - b, by omega, by omega, base _ ⟨?_, ?_⟩⟩
    · show (if h < N ∧ litB A h = true then Lwk A h - burns (Lks A h) else Lwk A h) = _
      rw [if_pos z, q7, eb, pk_sub (by omega)]
    · show (if h < N ∧ litB B h = true then Lwk B h - burns (Lks B h) else Lwk B h) = _
      rw [if_pos ⟨z.1, by rw [hl h z.1]; exact z.2⟩, q8, hk, eb, pk_sub (by omega)]
      congr 1
      omega
  · refine ⟨a, by omega, by omega, base _ ⟨?_, ?_⟩⟩
    · show (if h < N ∧ litB A h = true then Lwk A h - burns (Lks A h) else Lwk A h) = _
      rw [if_neg z, q7]
    · show (if h < N ∧ litB B h = true then Lwk B h - burns (Lks B h) else Lwk B h) = _
      rw [if_neg (fun y => z ⟨y.1, by rw [← hl h y.1]; exact y.2⟩), q8]
theorem near_nights {A B : LD} {N h : Nat} (q : Near A B N h 99) : ∀ k, k ≤ 40 → ∃ a, 99 ≤ a + 2 * k ∧ a ≤ 99 ∧ Near (nightsL A N k) (nightsL B N k) N h a
  | 0, _ => ⟨99, by omega, by omega, q⟩
  | k + 1, hk => by
    obtain ⟨a, a1, a2, q1⟩ := near_nights q k (by omega)
    obtain ⟨a', b1, b2, q2⟩ := near_night q1 (by omega) (by omega)
    exact ⟨a', by omega, by omega, q2⟩
theorem hang_same {A B : LD} {N : Nat} (h1 : B.1 = A.1) (h3 : B.2.2.1 = A.2.2.1) (h2 : B.2.1 = A.2.1) (h4 : B.2.2.2.1 = A.2.2.2.1) (h5 : B.2.2.2.2.2 = A.2.2.2.2.2) {p q : Nat → Bool} (hpq : ∀ o, o < N → p o = q o) : ∀ i, i < N → hangS B (eyeL B) N p i = hangS A (eyeL A) N q i := by
  intro i hi
  obtain ⟨a1, a2, a3, a4, a5, a6⟩ := A
  obtain ⟨b1, b2, b3, b4, b5, b6⟩ := B
  simp only at h1 h2 h3 h4 h5
  subst h1 h2 h3 h4 h5
  have e1 : hangS (b1, b2, b3, b4, b5, b6) (eyeL (b1, b2, b3, b4, b5, b6)) N p = hangS (b1, b2, b3, b4, a5, b6) (eyeL (b1, b2, b3, b4, a5, b6)) N p := rfl
  rw [e1]
  exact hangK_ext (fun o _ p _ => rfl) (fun o _ => rfl) hpq _ _ hi
theorem near_hg {A B : LD} {N h : Nat} (q : Near A B N h 99) {k : Nat} (hk : k ≤ 40) : hpop B N k = hpop A N k := by
  obtain ⟨a, a1, a2, q1⟩ := near_nights q k hk
  have hl := near_lit q1 (by omega) (by omega)
  obtain ⟨z1, z2, z3, z4, z5, z6⟩ := q
  unfold hpop hg
  rw [mask_ext (hang_same (N := N) z1 z3 z2 z4 z5 hl)]
theorem near_tog {A B : LD} {N h : Nat} (q : Near A B N h 99) : ∀ k, k ≤ 40 → togF B N k = togF A N k
  | 0, _ => rfl
  | k + 1, hk => by rw [togF, togF, near_tog q k (by omega), near_hg q (by omega)]
/-- a wick more, and at most 99; a wick more -/
abbrev w5L (L : LD) (h : Nat) : LD := (L.1, L.2.1, L.2.2.1, L.2.2.2.1, upd L.2.2.2.2.1 h (minI (99 : Int32) (L.2.2.2.2.1 h + 1)), L.2.2.2.2.2)
abbrev w6L (L : LD) (h : Nat) : LD := (L.1, L.2.1, L.2.2.1, L.2.2.2.1, upd L.2.2.2.2.1 h (L.2.2.2.2.1 h + 1), L.2.2.2.2.2)
theorem w56 {L : LD} {N h W : Nat} (hW : W ≤ 99) (e : Lwk L h = nI W) {k : Nat} (hk : k ≤ 40) : togF (w5L L h) N k = togF (w6L L h) N k := by
  have e' : L.2.2.2.2.1 h = nI W := e
  by_cases z : W = 99
  · subst z
    have : minI (99 : Int32) (nI 99 + 1) = nI 99 := by decide
    refine (near_tog (A := w5L L h) (B := w6L L h) (N := N) (h := h) ?_ k hk).symm
    refine ⟨rfl, rfl, rfl, rfl, rfl, fun o ho eo => ?_, ?_, ?_⟩
    · show upd _ _ _ o = upd _ _ _ o
      rw [pk_un eo, pk_un eo]
    · show upd _ _ _ h = _
      rw [pk_us, e', this]
    · show upd _ _ _ h = _
      rw [pk_us, e']
      exact nI_1 99
  · have hm : minI (99 : Int32) (nI W + 1) = nI W + 1 := by
      rw [nI_1]
      unfold minI
      by_cases y : W + 1 = 99
      · rw [y]; rfl
      · rw [if_pos (show nI (W + 1) < (99 : Int32) from nI_lt (b := 99) (by omega) (by decide))]
    have : w5L L h = w6L L h := by
      show (L.1, L.2.1, L.2.2.1, L.2.2.2.1, upd L.2.2.2.2.1 h (minI (99 : Int32) (L.2.2.2.2.1 h + 1)), L.2.2.2.2.2) = (L.1, L.2.1, L.2.2.1, L.2.2.2.1, upd L.2.2.2.2.1 h (L.2.2.2.2.1 h + 1), L.2.2.2.2.2)
      rw [e', hm]
    rw [this]
section SH
variable {L : LD} {N T : Nat}
theorem addWicks_k (I : InvL L N T) {h : Nat} (hh : h < N) : f_X1_addWicks L (nI h) (1 : Int32) = some (1, w5L L h) := by
  have hN := I.2.1
  have h1 : f_X1_isHouse L (nI h) = some 1 := by
    unfold f_X1_isHouse
    rw [show L.2.2.2.2.2.1 = nI N from I.1, if_neg (nI_pos (by omega)), if_neg (ge_N (by omega) hh)]
  unfold f_X1_addWicks
  rw [h1, Option.bind_some, if_neg one_ne, if_pos (inR8 hh hN), if_pos (inR8 hh hN), nI_clamp (by omega)]
theorem share_k (I : InvL L N T) (hT : T ≤ 999) (n5 : ∀ h, h < N → ∃ W, W ≤ 99 ∧ Lwk L h = nI W) (v : MW) (K : Rel v.1 L N zr) {k : Nat} (hk : k ≤ 30) : ∀ (n i m : Nat) (best arg : Int32) (t : TW) (r : Nat → Int32), i + m = N → m < n → t.1 = L → LookOK t.2.2.1 L (eyeL L) N → Two L v (f_X4_bestForAWick_16 (nI k) n (nI i) arg best t) (f_X6_share_42 (nI k) n (nI i) arg best (v.1, r, v.2.2)) := by
  intro n
  induction n with
  | zero => intro i m best arg t r _ h2; exact absurd h2 (Nat.not_lt_zero _)
  | succ n ih =>
    intro i m best arg t r hi hm ht hs
    have hN := I.2.1
    rw [f_X4_bestForAWick_16, f_X6_share_42, ht, show L.2.2.2.2.2.1 = nI N from I.1, if_pos r71_0, z71_0, show (v.1, r, v.2.2).1 0 = nI N from K.1.trans I.1]
    by_cases e : i = N
    · subst e
      rw [if_pos (le_self i), if_pos (le_self i)]
      exact ⟨_, _, _, rfl, ht, rfl⟩
    · have hi2 : i < N := by omega
      have h8 : i < 8 := by omega
      obtain ⟨W, hW, eW⟩ := n5 i hi2
      have I5 : InvL (w5L L i) N T := inv_wk I rfl rfl rfl rfl rfl rfl
      have I6 : InvL (w6L L i) N T := inv_wk I rfl rfl rfl rfl rfl rfl
      obtain ⟨t', e1, q1, q2⟩ := together5 I5 (show k < 100 by omega) (t := (L, w5L L i, t.2.2)) ⟨rfl, hs⟩
      have K6 : Rel (upd v.1 (23 + 6 * i + 3) (v.1 (23 + 6 * i + 3) + 1)) (w6L L i) N zr := by
        rw [(K.2.2.2.2 i hi2).2.2.2.1]
        exact Up_wk K
      obtain ⟨r', e2⟩ := together6 I6 hT (show k < 100 by omega) v K6
      rw [if_neg (ge_N (by omega) hi2), if_neg (ge_N (by omega) hi2), become5, Option.bind_some, addWicks_k I hi2, Option.bind_some]
      unfold f_X6_copies
      rw [Option.bind_some, of_3, Option.bind_some, if_pos (in71 h8 (show 3 < 6 by decide)), if_pos (in71 h8 (show 3 < 6 by decide)), cl71 h8 (show 3 < 6 by decide)]
      rw [show f_X4_hangTogether (L, ((1 : Int32), w5L L i).2, t.2.2.1, t.2.2.2.1, t.2.2.2.2.1, t.2.2.2.2.2.1, t.2.2.2.2.2.2) (nI k) = _ from e1, Option.bind_some]
      rw [show f_X6_hangsIn (v.1, upd v.1 (23 + 6 * i + 3) (v.1 (23 + 6 * i + 3) + 1), v.2.2.1, v.2.2.2.1, v.2.2.2.2.1, v.2.2.2.2.2.1, v.2.2.2.2.2.2.1, v.2.2.2.2.2.2.2.1, v.2.2.2.2.2.2.2.2.1, v.2.2.2.2.2.2.2.2.2.1, v.2.2.2.2.2.2.2.2.2.2.1, v.2.2.2.2.2.2.2.2.2.2.2.1, v.2.2.2.2.2.2.2.2.2.2.2.2.1, v.2.2.2.2.2.2.2.2.2.2.2.2.2) (nI k) = _ from e2, Option.bind_some]
      simp only [nm]
      rw [w56 (N := N) hW eW (show k + 1 ≤ 40 by omega), nI_1]
      by_cases g : togF (w6L L i) N (k + 1) ≤ best
      · rw [if_pos g, if_neg (Int32.not_lt.mpr g)]
        exact ih (i + 1) (m - 1) _ _ _ _ (by omega) (by omega) q1 q2.2
      · rw [if_neg g, if_pos (Int32.not_le.mp g)]
        exact ih (i + 1) (m - 1) _ _ _ _ (by omega) (by omega) q1 q2.2
end SH
theorem op_share : E_share Inv := by
  intro w v hI y
  have hI' := hI
  obtain ⟨⟨N, T, n1, n2, I, n4, n5, K⟩, b⟩ := hI
  show Eq2 Inv _ _
  unfold f_X5_share f_X6_share
  rcases wb6 y 30 (by decide) with ⟨d, hd, g1, g2⟩ | ⟨k, hk, rfl, g1, g2⟩
  · rw [show f_X5_outside y (0 : Int32) (30 : Int32) = _ from g1, show f_X6_wrongBy y (0 : Int32) (30 : Int32) = _ from g2, Option.bind_some, Option.bind_some, if_neg (neg_ne hd), if_neg (neg_ne hd)]
    exact ref_no hI' d (by omega) (by omega) (neg_neg6 d)
  · rw [show f_X5_outside (nI k) (0 : Int32) (30 : Int32) = _ from g1, show f_X6_wrongBy (nI k) (0 : Int32) (30 : Int32) = _ from g2, Option.bind_some, Option.bind_some, if_pos rfl, if_pos rfl]
    obtain ⟨t1, e1, q1⟩ := th_begin I w.1 rfl
    obtain ⟨t2, e2, p1, p2⟩ := together5 I (show k < 100 by omega) (t := t1) ⟨q1.2.1, q1.2.2⟩
    obtain ⟨r2, e3⟩ := together6 I n2 (show k < 100 by omega) v K
    unfold f_X4_bestForAWick f_X6_copies
    rw [e1, Option.bind_some, e2, Option.bind_some, Option.bind_some]
    rw [show f_X6_hangsIn (v.1, v.1, v.2.2.1, v.2.2.2.1, v.2.2.2.2.1, v.2.2.2.2.2.1, v.2.2.2.2.2.2.1, v.2.2.2.2.2.2.2.1, v.2.2.2.2.2.2.2.2.1, v.2.2.2.2.2.2.2.2.2.1, v.2.2.2.2.2.2.2.2.2.2.1, v.2.2.2.2.2.2.2.2.2.2.2.1, v.2.2.2.2.2.2.2.2.2.2.2.2.1, v.2.2.2.2.2.2.2.2.2.2.2.2.2) (nI k) = _ from e3, Option.bind_some]
    simp only [nm]
    obtain ⟨x, t', r', g1, g2, g3⟩ := share_k I n2 n5 v K hk 200 0 N (togF w.1.1 N (k + 1)) (-9) t2 r2 (by omega) (by omega) (p1.trans q1.1) p2.2
    rw [show f_X4_bestForAWick_16 (nI k) 200 (0 : Int32) (-9 : Int32) (togF w.1.1 N (k + 1)) t2 = _ from g1, show f_X6_share_42 (nI k) 200 (0 : Int32) (-9 : Int32) (togF w.1.1 N (k + 1)) (v.1, r2, v.2.2) = _ from g3, Option.bind_some]
    exact Eq2_some rfl (Inv_t hI' t' g2 r')
