/-! pure: news, farthest -/
abbrev vo (v : MW) (o : Nat → Int32) : MW := (v.1, v.2.1, v.2.2.1, v.2.2.2.1, v.2.2.2.2.1, v.2.2.2.2.2.1, v.2.2.2.2.2.2.1, v.2.2.2.2.2.2.2.1, o, v.2.2.2.2.2.2.2.2.2)
theorem Inv_o {w : EW} {v : MW} (h : Inv w v) (t : TW) (ht : t.1 = w.1.1) (o : Nat → Int32) : Inv (t, w.2) (vo v o) := by
  obtain ⟨⟨N, T, q⟩, b⟩ := h
  exact ⟨⟨N, T, by show LOK t.1 v.1 N T; rw [ht]; exact q⟩, b⟩
theorem inR7 {k : Nat} (h : k < 7) : inR (nI k) 7 = true := inR_nI h (by decide)
theorem far_n : (1000000000 : Int32) = nI 1000000000 := by decide
theorem least_n {a b : Nat} (ha : a < 2 ^ 31) (hb : b < 2 ^ 31) : f_X6_least (nI a) (nI b) = some (nI (if a ≤ b then a else b)) := by
  unfold f_X6_least
  by_cases z : b ≤ a
  · rw [if_pos (nI_le z ha)]
    by_cases y : a ≤ b
    · rw [if_pos y, show b = a by omega]
    · rw [if_neg y]
  · rw [if_neg (nI_ge (by omega) hb), if_pos (by omega)]
section OV
variable {L : LD} {N T : Nat}
def OvV (L : LD) (N : Nat) (ov : Nat → Nat) : Prop := ∀ h, h < N → ov h ≤ 1000000000 ∧ (ov h < 1000000000 → 1 ≤ ov h ∧ hkN L N (ov h - 1) h = true)
def OvC (L : LD) (N k : Nat) (ov : Nat → Nat) : Prop := ∀ h, h < N → ∀ j, j ≤ k → hkN L N j h = true → ov h ≤ j + 1
def OvD (L : LD) (N k i : Nat) (ov : Nat → Nat) : Prop := ∀ h, h < i → hkN L N (k + 1) h = true → ov h ≤ k + 2
def OvE (L : LD) (N k h j : Nat) (ov : Nat → Nat) : Prop := ∀ o, o < j → adjB L (eyeL L) h o = true → hkN L N k o = true → hg L N 0 h = true → ov h ≤ k + 2
def OvS (N : Nat) (o : Nat → Int32) (ov : Nat → Nat) : Prop := ∀ h, h < N → o h = nI (ov h)
def udN (f : Nat → Nat) (k x : Nat) : Nat → Nat := fun j => if j = k then x else f j
theorem brings82 (h7 : N ≤ 7) (I : InvL L N T) {v : MW} (K : Rel v.1 L N zr) (k2 : Int32 → MW → Option MW) (k : Nat) {i : Nat} (hi : i < N) : ∀ (n j m : Nat) (o : Nat → Int32) (ov : Nat → Nat), j + m = N → m < n → OvS N o ov → OvV L N ov → OvC L N k ov → OvD L N k i ov → OvE L N k i j ov → ∃ o' ov', f_X6_brings_82 k2 (nI i) (nI (mask (hg L N 0) N)) n (nI j) (vo v o) = k2 (nI (i + 1)) (vo v o') ∧ OvS N o' ov' ∧ OvV L N ov' ∧ OvC L N k ov' ∧ OvD L N k (i + 1) ov' := by
  have hN := I.2.1
  intro n
  induction n with
  | zero => intro j m o ov _ h2; exact absurd h2 (Nat.not_lt_zero _)
  | succ n ih =>
    intro j m o ov hj hm qS qV qC qD qE
    rw [f_X6_brings_82, if_pos r71_0, z71_0, show (vo v o).1 0 = nI N from K.1.trans I.1]
    by_cases e : j = N
    · subst e
      rw [if_pos (le_self j), nI_1]
      refine ⟨o, ov, rfl, qS, qV, qC, fun h hh hk => ?_⟩
      by_cases z : h = i
      · subst z
        have hk2 : (hkN L j k h || (hg L j 0 h && anyB (fun o => adjB L (eyeL L) h o && hkN L j k o) j)) = true := hk
        rw [Bool.or_eq_true] at hk2
        rcases hk2 with y | y
        · have := qC h hi k (Nat.le_refl _) y
          omega
        · rw [Bool.and_eq_true, anyB_iff] at y
          obtain ⟨y1, o2, y2, y3⟩ := y
          rw [Bool.and_eq_true] at y3
          exact qE o2 y2 y3.1 y3.2 y1
      · exact qD h (by omega) hk
    · have hlt : j < N := by omega
      rw [if_neg (ge_N (by omega) hlt), has6m hN hi, Option.bind_some, has6m hN hlt, nI_1]
      -- a step that leaves all as it was
      have skip : (adjB L (eyeL L) i j = true → hkN L N k j = true → hg L N 0 i = true → False) → ∃ o' ov', f_X6_brings_82 k2 (nI i) (nI (mask (hg L N 0) N)) n (nI (j + 1)) (vo v o) = k2 (nI (i + 1)) (vo v o') ∧ OvS N o' ov' ∧ OvV L N ov' ∧ OvC L N k ov' ∧ OvD L N k (i + 1) ov' := by
        intro no
        refine ih (j + 1) (m - 1) o ov (by omega) (by omega) qS qV qC qD (fun o2 h2 a1 a2 a3 => ?_)
        by_cases z : o2 = j
        · subst z; exact absurd (no a1 a2 a3) id
        · exact qE o2 (by omega) a1 a2 a3
      cases hHi : hg L N 0 i with
      | false => rw [if_pos b01f]; exact skip (fun _ _ z => by rw [hHi] at z; cases z)
      | true =>
        rw [if_neg b01t, Option.bind_some]
        cases hHj : hg L N 0 j with
        | false =>
          rw [if_pos b01f]
          exact skip (fun _ z _ => by
            have := hangK_lit _ _ _ _ z
            rw [hHj] at this; cases this)
        | true =>
          rw [if_neg b01t]
          by_cases z : i = j
          · subst z
            rw [if_pos rfl]
            exact skip (fun y _ _ => by rw [adjB_self] at y; cases y)
          · rw [if_neg (nz (by omega) (by omega) z), show f_X6_doesSee (vo v o).1 (nI i) (nI j) = _ from sees6 I K hi hlt, eyeR_0, Option.bind_some]
            have hadj : adjB L (eyeL L) i j = seesB L (eyeL L) i j := by
              unfold adjB
              rw [decide_eq_false (Ne.symm z)]
              rfl
            rw [← hadj]
            cases hb : adjB L (eyeL L) i j with
            | false =>
              rw [if_pos b01f]
              exact skip (fun y _ _ => by rw [hb] at y; cases y)
            | true =>
              rw [if_neg b01t, if_pos (inR7 (by omega)), if_pos (inR7 (by omega)), nI_clamp (show i < 2 ^ 31 by omega), nI_clamp (show j < 2 ^ 31 by omega)]
              have vi := qV i hi
              have vj := qV j hlt
              rw [show (vo v o).2.2.2.2.2.2.2.2.1 i = nI (ov i) from qS i hi, show (vo v o).2.2.2.2.2.2.2.2.1 j = nI (ov j) from qS j hlt, nI_1, least_n (by omega) (by omega), Option.bind_some, if_pos (inR7 (by omega))]
              obtain ⟨x, hx⟩ : ∃ x, x = (if ov i ≤ ov j + 1 then ov i else ov j + 1) := ⟨_, rfl⟩
              have hx1 : x ≤ ov i := by rw [hx]; split <;> omega
              have hx2 : x ≤ ov j + 1 := by rw [hx]; split <;> omega
              have hx3 : x = ov i ∨ (x = ov j + 1 ∧ ov j + 1 < ov i) := by
                rw [hx]
                by_cases y : ov i ≤ ov j + 1
                · rw [if_pos y]; exact .inl rfl
                · rw [if_neg y]; exact .inr ⟨rfl, by omega⟩
              rw [← hx]
              have pt : ∀ h, udN ov i x h ≤ ov h := fun h => by
                unfold udN
                by_cases y : h = i
                · subst y; rw [if_pos rfl]; exact hx1
                · rw [if_neg y]; exact Nat.le_refl _
              refine ih (j + 1) (m - 1) (upd o i (nI x)) (udN ov i x) (by omega) (by omega) (fun h hh => ?_) (fun h hh => ?_) (fun h hh j2 h2 a => ?_) (fun h hh a => ?_) (fun o2 h2 a1 a2 a3 => ?_)
              · unfold udN
                by_cases y : h = i
                · subst y; rw [pk_us, if_pos rfl]
                · rw [pk_un y, if_neg y]; exact qS h hh
              · unfold udN
                by_cases y : h = i
                · subst y
                  rw [if_pos rfl]
                  refine ⟨by omega, fun hlt2 => ?_⟩
                  rcases hx3 with y | ⟨y, y2⟩
                  · rw [y]; exact vi.2 (by omega)
                  · have w := vj.2 (by omega)
                    refine ⟨by omega, ?_⟩
                    rw [y, show ov j + 1 - 1 = (ov j - 1) + 1 by omega]
                    show (hkN L N (ov j - 1) h || (hg L N 0 h && anyB (fun o => adjB L (eyeL L) h o && hkN L N (ov j - 1) o) N)) = true
                    rw [hHi, Bool.true_and, Bool.or_eq_true, anyB_iff]
                    exact .inr ⟨j, hlt, by rw [hb, w.2]; rfl⟩
                · rw [if_neg y]; exact qV h hh
              · exact Nat.le_trans (pt h) (qC h hh j2 h2 a)
              · exact Nat.le_trans (pt h) (qD h hh a)
              · by_cases y : o2 = j
                · subst y
                  have := qC o2 hlt k (Nat.le_refl _) a2
                  have e2 : udN ov i x i = x := if_pos rfl
                  rw [e2]
                  omega
                · exact Nat.le_trans (pt i) (qE o2 (by omega) a1 a2 a3)
theorem brings69 (h7 : N ≤ 7) (I : InvL L N T) {v : MW} (K : Rel v.1 L N zr) (k1 : Int32 → MW → Option MW) (k : Nat) : ∀ (n i m : Nat) (o : Nat → Int32) (ov : Nat → Nat), i + m = N → m < n → OvS N o ov → OvV L N ov → OvC L N k ov → OvD L N k i ov → ∃ o' ov', f_X6_brings_69 k1 (nI k) (nI (mask (hg L N 0) N)) n (nI i) (vo v o) = k1 (nI (k + 1)) (vo v o') ∧ OvS N o' ov' ∧ OvV L N ov' ∧ OvC L N (k + 1) ov' := by
  have hN := I.2.1
  intro n
  induction n with
  | zero => intro i m o ov _ h2; exact absurd h2 (Nat.not_lt_zero _)
  | succ n ih =>
    intro i m o ov hi hm qS qV qC qD
    rw [f_X6_brings_69, if_pos r71_0, z71_0, show (vo v o).1 0 = nI N from K.1.trans I.1]
    by_cases e : i = N
    · subst e
      rw [if_pos (le_self i), nI_1]
      refine ⟨o, ov, rfl, qS, qV, fun h hh j hj a => ?_⟩
      by_cases z : j = k + 1
      · subst z; exact qD h hh a
      · exact qC h hh j (by omega) a
    · have hlt : i < N := by omega
      rw [if_neg (ge_N (by omega) hlt)]
      obtain ⟨o', ov', e1, q1, q2, q3, q4⟩ := brings82 h7 I K (fun a0 a1 => f_X6_brings_69 k1 (nI k) (nI (mask (hg L N 0) N)) n a0 a1) k hlt 200 0 N o ov (by omega) (by omega) qS qV qC qD (fun o2 h2 => absurd h2 (Nat.not_lt_zero _))
      rw [show f_X6_brings_82 (fun a0 a1 => f_X6_brings_69 k1 (nI k) (nI (mask (hg L N 0) N)) n a0 a1) (nI i) (nI (mask (hg L N 0) N)) 200 (0 : Int32) (vo v o) = _ from e1]
      exact ih (i + 1) (m - 1) o' ov' (by omega) (by omega) q1 q2 q3 q4
theorem brings61 (h7 : N ≤ 7) (I : InvL L N T) {v : MW} (K : Rel v.1 L N zr) : ∀ (n k m : Nat) (o : Nat → Int32) (ov : Nat → Nat), k + m = 7 → m < n → OvS N o ov → OvV L N ov → OvC L N k ov → ∃ o' ov', f_X6_brings_61 (nI (mask (hg L N 0) N)) n (nI k) (vo v o) = some (vo v o') ∧ OvS N o' ov' ∧ OvV L N ov' ∧ OvC L N 7 ov' := by
  intro n
  induction n with
  | zero => intro k m o ov _ h2; exact absurd h2 (Nat.not_lt_zero _)
  | succ n ih =>
    intro k m o ov hk hm qS qV qC
    rw [f_X6_brings_61]
    by_cases e : k = 7
    · subst e
      rw [if_pos (show (7 : Int32) ≤ nI 7 by decide)]
      exact ⟨o, ov, rfl, qS, qV, qC⟩
    · rw [if_neg (show ¬ (7 : Int32) ≤ nI k from nI_ge (b := 7) (by omega) (by decide))]
      obtain ⟨o', ov', e1, q1, q2, q3⟩ := brings69 h7 I K (fun a0 a1 => f_X6_brings_61 (nI (mask (hg L N 0) N)) n a0 a1) k 200 0 N o ov (by omega) (by omega) qS qV qC (fun h hh => absurd hh (Nat.not_lt_zero _))
      rw [show f_X6_brings_69 (fun a0 a1 => f_X6_brings_61 (nI (mask (hg L N 0) N)) n a0 a1) (nI k) (nI (mask (hg L N 0) N)) 200 (0 : Int32) (vo v o) = _ from e1]
      exact ih (k + 1) (m - 1) o' ov' (by omega) (by omega) q1 q2 q3
def ov0 (L : LD) (N h : Nat) : Nat := if hkN L N 0 h = true then 1 else 1000000000
theorem brings10 (h7 : N ≤ 7) (I : InvL L N T) {v : MW} (K : Rel v.1 L N zr) : ∀ (n i m : Nat) (o : Nat → Int32), i + m = N → m < n → (∀ h, h < i → o h = nI (ov0 L N h)) → ∃ o', f_X6_brings_10 (nI (mask (hg L N 0) N)) n (nI i) (vo v o) = f_X6_brings_61 (nI (mask (hg L N 0) N)) 200 (nI 0) (vo v o') ∧ ∀ h, h < N → o' h = nI (ov0 L N h) := by
  have hN := I.2.1
  intro n
  induction n with
  | zero => intro i m o _ h2; exact absurd h2 (Nat.not_lt_zero _)
  | succ n ih =>
    intro i m o hi hm q
    rw [f_X6_brings_10, if_pos r71_0, z71_0, show (vo v o).1 0 = nI N from K.1.trans I.1]
    by_cases e : i = N
    · subst e
      rw [if_pos (le_self i)]
      exact ⟨o, rfl, q⟩
    · have hlt : i < N := by omega
      have go : ∀ x : Int32, x = nI (ov0 L N i) → ∃ o', f_X6_brings_10 (nI (mask (hg L N 0) N)) n (nI (i + 1)) (vo v (upd o i x)) = f_X6_brings_61 (nI (mask (hg L N 0) N)) 200 (nI 0) (vo v o') ∧ ∀ h, h < N → o' h = nI (ov0 L N h) := by
        intro x hx
        refine ih (i + 1) (m - 1) (upd o i x) (by omega) (by omega) (fun h hh => ?_)
        by_cases z : h = i
        · subst z; rw [pk_us, hx]
        · rw [pk_un z]; exact q h (by omega)
      have e0 : hkN L N 0 i = (hg L N 0 i && seaB L (eyeL L) i) := rfl
      rw [if_neg (ge_N (by omega) hlt), has6m hN hlt, Option.bind_some, nI_1, nI_clamp (show i < 2 ^ 31 by omega)]
      cases hHi : hg L N 0 i with
      | false =>
        rw [if_pos b01f, if_pos (inR7 (by omega))]
        exact go _ (by unfold ov0; rw [e0, hHi, Bool.false_and, if_neg (by decide)]; exact far_n)
      | true =>
        rw [if_neg b01t, show f_X6_doesSee (vo v o).1 (nI i) (99 : Int32) = _ from sea6 I K hlt, eyeR_0, Option.bind_some]
        cases hs : seaB L (eyeL L) i with
        | false =>
          rw [if_pos b01f, if_pos (inR7 (by omega))]
          exact go _ (by unfold ov0; rw [e0, hs, Bool.and_false, if_neg (by decide)]; exact far_n)
        | true =>
          rw [if_neg b01t, if_pos (inR7 (by omega))]
          exact go _ (by unfold ov0; rw [e0, hs, hHi, if_pos (by rfl)]; rfl)
def ovF (L : LD) (N h : Nat) : Nat := if wyN L N N h = 0 then 1000000000 else wyN L N N h
theorem over6 (h7 : N ≤ 7) (I : InvL L N T) (hT : T ≤ 999) {v : MW} (K : Rel v.1 L N zr) : ∃ o', f_X6_brings v = some (vo v o') ∧ ∀ h, h < N → o' h = nI (ovF L N h) := by
  obtain ⟨o1, e1, q1⟩ := brings10 h7 I K 200 0 N v.2.2.2.2.2.2.2.2.1 (by omega) (by omega) (fun h hh => absurd hh (Nat.not_lt_zero _))
  obtain ⟨o2, ov, e2, q2, q3, q4⟩ := brings61 h7 I K 200 0 7 o1 (ov0 L N) (by omega) (by omega) q1 (fun h hh => by
    unfold ov0
    by_cases z : hkN L N 0 h = true
    · rw [if_pos z]; exact ⟨by omega, fun _ => ⟨Nat.le_refl _, z⟩⟩
    · rw [if_neg z]; exact ⟨Nat.le_refl _, fun y => absurd y (Nat.lt_irrefl _)⟩) (fun h hh j hj a => by
    obtain rfl : j = 0 := by omega
    unfold ov0
    rw [if_pos a]
    exact Nat.le_refl _)
  unfold f_X6_brings
  rw [hangIn_k (k := 0) I (by omega) K, Option.bind_some, show f_X6_brings_10 (nI (mask (hg L N 0) N)) 200 (0 : Int32) v = _ from e1, e2]
  refine ⟨o2, rfl, fun h hh => ?_⟩
  rw [q2 h hh]
  congr 1
  have v1 := q3 h hh
  rcases way_spec (adjB L (eyeL L)) (seaB L (eyeL L)) (hg L N 0) N hh with ⟨a1, a2⟩ | ⟨d, a1, a2, a3, a4⟩
  · have : wyN L N N h = 0 := a1
    unfold ovF
    rw [this, if_pos rfl]
    have : ¬ ov h < 1000000000 := fun z => by
      have := (v1.2 z).2
      rw [show hkN L N (ov h - 1) h = false from a2 _] at this
      cases this
    omega
  · have : wyN L N N h = d + 1 := a1
    unfold ovF
    rw [this, if_neg (by omega)]
    have c := q4 h hh d (by omega) a3
    have s := v1.2 (by omega)
    have : ¬ ov h - 1 < d := fun z => by
      have := a4 _ z
      rw [show hangK (adjB L (eyeL L)) (seaB L (eyeL L)) (hg L N 0) N (ov h - 1) h = true from s.2] at this
      cases this
    omega
end OV
section NW
variable {L : LD} {N T : Nat}
theorem wyN_le (L : LD) (N h : Nat) : wyN L N N h ≤ N := wyF_le _ _ _ N N h
theorem ovF_0 {h : Nat} (z : wyN L N N h = 0) : ovF L N h = 1000000000 := by unfold ovF; rw [z, if_pos rfl]
theorem ovF_s {h : Nat} (z : wyN L N N h ≠ 0) : ovF L N h = wyN L N N h := by unfold ovF; rw [if_neg z]
theorem next_k (h7 : N ≤ 7) (I : InvL L N T) {v : MW} (K : Rel v.1 L N zr) {t : TW} (q : WOK t L N (wyN L N N)) {o : Nat → Int32} (qo : ∀ h, h < N → o h = nI (ovF L N h)) {h w : Nat} (hh : h < N) (hw : wyN L N N h = w + 1) (hw1 : 1 ≤ w) : ∀ (n i m : Nat), i + m = N → m < n → ∃ x, f_X4_newsNext_31 (nI h) n (nI i) t = some (x, t) ∧ f_X6_nextOf_15 (vo v o) (nI h) n (nI i) = some x := by
  have hN := I.2.1
  have hle := wyN_le L N h
  obtain ⟨q1, q2, q3, q4⟩ := q
  have hn : t.2.1.2.2.2.2.2.1 = nI N := by rw [q2]; exact I.1
  have hc : (nI h).toNatClampNeg = h := nI_clamp (by omega)
  intro n
  induction n with
  | zero => intro i m _ h2; exact absurd h2 (Nat.not_lt_zero _)
  | succ n ih =>
    intro i m hi hm
    rw [f_X4_newsNext_31, f_X6_nextOf_15, hn, if_pos r71_0, z71_0, show (vo v o).1 0 = nI N from K.1.trans I.1]
    by_cases e : i = N
    · subst e
      rw [if_pos (le_self i), if_pos (le_self i)]
      exact ⟨_, rfl, rfl⟩
    · have hlt : i < N := by omega
      have st := ih (i + 1) (m - 1) (by omega) (by omega)
      rw [if_neg (ge_N (by omega) hlt), if_neg (ge_N (by omega) hlt), if_pos (inR8 hh hN), hc, show t.2.2.1.2.1 h = _ from q3.2.2.1 h hh, has5m hN hlt, Option.bind_some, nI_1]
      by_cases z : i = h
      · subst z
        rw [adjB_self, if_pos b01f, if_pos (rfl : nI i = nI i)]
        exact st
      · rw [if_neg (nz (show i < 2 ^ 31 by omega) (show h < 2 ^ 31 by omega) z), if_pos (inR7 (show i < 7 by omega)), if_pos (inR7 (show h < 7 by omega)), nI_clamp (show i < 2 ^ 31 by omega), show (vo v o).2.2.2.2.2.2.2.2.1 i = _ from qo i hlt, show (vo v o).2.2.2.2.2.2.2.2.1 h = _ from qo h hh, q4 i hlt, q4 h hh, ovF_s (show wyN L N N h ≠ 0 by omega), hw, nI_pred]
        have hadj : adjB L (eyeL L) h i = seesB L (eyeL L) h i := by
          unfold adjB
          rw [decide_eq_false z]
          rfl
        have hle2 := wyN_le L N i
        have hov : ovF L N i = w ↔ wyN L N N i = w := by
          unfold ovF
          by_cases y : wyN L N N i = 0
          · rw [if_pos y, y]; omega
          · rw [if_neg y]
        have hov2 : ovF L N i < 2 ^ 31 := by
          unfold ovF
          split <;> omega
        cases hb : adjB L (eyeL L) h i with
        | false =>
          rw [if_pos b01f]
          by_cases y : nI (ovF L N i) = nI w
          · rw [if_pos y, show f_X6_doesSee (vo v o).1 (nI h) (nI i) = _ from sees6 I K hh hlt, eyeR_0, Option.bind_some, ← hadj, hb, if_pos b01f]
            exact st
          · rw [if_neg y]
            exact st
        | true =>
          rw [if_neg b01t, if_pos (inR8 hlt hN), if_pos (inR8 hh hN)]
          by_cases y : wyN L N N i = w
          · rw [if_pos (by rw [y]), if_pos (by rw [hov.2 y]), show f_X6_doesSee (vo v o).1 (nI h) (nI i) = _ from sees6 I K hh hlt, eyeR_0, Option.bind_some, ← hadj, hb, if_neg b01t]
            exact ⟨_, rfl, rfl⟩
          · rw [if_neg (nz (by omega) (by omega) y), if_neg (nz hov2 (by omega) (fun y2 => y (hov.1 y2)))]
            exact st
theorem far_k (h7 : N ≤ 7) (I : InvL L N T) {v : MW} (K : Rel v.1 L N zr) {t : TW} (q : WOK t L N (wyN L N N)) {o : Nat → Int32} (qo : ∀ h, h < N → o h = nI (ovF L N h)) : ∀ (n i m : Nat) (best most : Int32), i + m = N → m < n → ((best = -9 ∧ most = 0) ∨ ∃ j, j < N ∧ best = nI j ∧ most = nI (wyN L N N j) ∧ 1 ≤ wyN L N N j) → ∃ x, f_X4_farthestHouse_11 n (nI i) most best t = some (x, t) ∧ f_X6_farthest_9 n (nI i) best (vo v o) = some (x, vo v o) := by
  have hN := I.2.1
  obtain ⟨q1, q2, q3, q4⟩ := q
  have hn : t.2.1.2.2.2.2.2.1 = nI N := by rw [q2]; exact I.1
  intro n
  induction n with
  | zero => intro i m best most _ h2; exact absurd h2 (Nat.not_lt_zero _)
  | succ n ih =>
    intro i m best most hi hm qb
    rw [f_X4_farthestHouse_11, f_X6_farthest_9, hn, if_pos r71_0, z71_0, show (vo v o).1 0 = nI N from K.1.trans I.1]
    by_cases e : i = N
    · subst e
      rw [if_pos (le_self i), if_pos (le_self i)]
      exact ⟨_, rfl, rfl⟩
    · have hlt : i < N := by omega
      have hle := wyN_le L N i
      rw [if_neg (ge_N (by omega) hlt), if_neg (ge_N (by omega) hlt), if_pos (inR8 hlt hN), if_pos (inR7 (by omega)), nI_clamp (by omega), q4 i hlt, show (vo v o).2.2.2.2.2.2.2.2.1 i = _ from qo i hlt, nI_1]
      by_cases z : wyN L N N i = 0
      · have hmost : nI (wyN L N N i) ≤ most := by
          rw [z]
          rcases qb with ⟨-, y⟩ | ⟨j, -, -, y, -⟩
          · rw [y]; decide
          · rw [y]; exact nI_le (Nat.zero_le _) (by have := wyN_le L N j; omega)
        rw [if_pos hmost, ovF_0 z, if_pos (show (1000000000 : Int32) ≤ nI 1000000000 by decide)]
        exact ih (i + 1) (m - 1) best most (by omega) (by omega) qb
      · rw [ovF_s z, if_neg (show ¬ (1000000000 : Int32) ≤ nI (wyN L N N i) by rw [far_n]; exact nI_ge (by omega) (by decide))]
        have tk := ih (i + 1) (m - 1) (nI i) (nI (wyN L N N i)) (by omega) (by omega) (.inr ⟨i, hlt, rfl, rfl, by omega⟩)
        rcases qb with ⟨y1, y2⟩ | ⟨j, hj, y1, y2, y3⟩
        · rw [if_neg (show ¬ nI (wyN L N N i) ≤ most by rw [y2]; exact nI_nle (by omega) (by omega)), if_pos (inR8 hlt hN), if_pos (show best < 0 by rw [y1]; decide)]
          simp only [nm]
          exact tk
        · have hle2 := wyN_le L N j
          have bn : ¬ best < 0 := by rw [y1]; exact nI_pos (by omega)
          have bi : inR best 7 = true := by rw [y1]; exact inR7 (by omega)
          have bc : best.toNatClampNeg = j := by rw [y1]; exact nI_clamp (by omega)
          rw [if_neg bn, if_pos (inR7 (show i < 7 by omega)), if_pos bi, bc, show (vo v o).2.2.2.2.2.2.2.2.1 j = _ from qo j hj, ovF_s (show wyN L N N j ≠ 0 by omega), y2]
          by_cases y : nI (wyN L N N i) ≤ nI (wyN L N N j)
          · rw [if_pos y, if_pos y]
            rw [← y2]
            exact ih (i + 1) (m - 1) best most (by omega) (by omega) (.inr ⟨j, hj, y1, y2, y3⟩)
          · rw [if_neg y, if_neg y, if_pos (inR8 hlt hN)]
            simp only [nm]
            exact tk
end NW
theorem op_news : E_news Inv := by
  intro w v hI x y
  have hI' := hI
  obtain ⟨⟨N, T, n1, n2, I, n4, n5, K⟩, b⟩ := hI
  have hN := I.2.1
  show Eq2 Inv _ _
  unfold f_X5_news f_X6_news
  rcases hs6 I K x with ⟨h1, h2⟩ | ⟨h, hh, rfl, h1, h2⟩
  · rw [h1, h2, Option.bind_some, Option.bind_some, if_pos rfl, if_pos rfl]
    exact ref_no (x := (-1 : Int32)) hI' 1 (by decide) (by decide) rfl
  · obtain ⟨t', e1, q⟩ := ways5 I w.1 rfl
    obtain ⟨o', e2, qo⟩ := over6 n1 I n2 K
    have fin : ∀ a : Int32, Eq2 Inv (some (a, (t', w.2))) (some (a, vo v o')) := fun a => Eq2_some rfl (Inv_o hI' t' q.1 o')
    have hle := wyN_le w.1.1 N h
    have hc : (nI h).toNatClampNeg = h := nI_clamp (by omega)
    have isI : ∀ k : Nat, k < 2 → f_X6_isIn (nI k) (0 : Int32) (1 : Int32) = some 1 := by decide +kernel
    have q4 := q.2.2.2 h hh
    have q5 := qo h hh
    rw [h1, h2, Option.bind_some, Option.bind_some, if_neg one_ne, if_neg one_ne]
    by_cases y0 : y = 0
    · subst y0
      rw [if_pos rfl, show f_X6_isIn (0 : Int32) (0 : Int32) (1 : Int32) = some 1 from isI 0 (by decide), Option.bind_some, if_neg one_ne, e2, Option.bind_some]
      unfold f_X4_newsLength
      rw [e1, Option.bind_some, if_pos (inR8 hh hN), if_pos (inR7 (by omega)), hc, q4, show (vo v o').2.2.2.2.2.2.2.2.1 h = _ from q5]
      by_cases z : wyN w.1.1 N N h = 0
      · rw [if_pos (by rw [z]; rfl), ovF_0 z, if_neg (show ¬ nI 1000000000 < (1000000000 : Int32) by decide)]
        exact fin _
      · rw [if_neg (show ¬ nI (wyN w.1.1 N N h) = 0 from nI_ne0 (by omega) (by omega)), ovF_s z, if_pos (show nI (wyN w.1.1 N N h) < (1000000000 : Int32) by rw [far_n]; exact nI_lt (by omega) (by decide)), if_pos (inR8 hh hN), if_pos rfl, if_pos (inR7 (by omega))]
        exact fin _
    by_cases y1 : y = 1
    · subst y1
      rw [if_neg (by decide), if_pos rfl, show f_X6_isIn (1 : Int32) (0 : Int32) (1 : Int32) = some 1 from isI 1 (by decide), Option.bind_some, if_neg one_ne, e2, Option.bind_some]
      unfold f_X4_newsNext f_X6_nextOf
      rw [e1, Option.bind_some, if_pos (inR8 hh hN), if_pos (inR7 (by omega)), hc, q4, show (vo v o').2.2.2.2.2.2.2.2.1 h = _ from q5]
      by_cases z : wyN w.1.1 N N h = 0
      · rw [if_pos (by rw [z]; rfl), ovF_0 z, if_neg (show ¬ nI 1000000000 < (1000000000 : Int32) by decide)]
        exact fin _
      · rw [if_neg (show ¬ nI (wyN w.1.1 N N h) = 0 from nI_ne0 (by omega) (by omega)), ovF_s z, if_pos (show nI (wyN w.1.1 N N h) < (1000000000 : Int32) by rw [far_n]; exact nI_lt (by omega) (by decide)), if_pos (inR8 hh hN), if_neg one_ne, if_pos (inR7 (by omega))]
        by_cases z1 : wyN w.1.1 N N h = 1
        · rw [z1, if_pos (show nI 1 = (1 : Int32) from rfl), if_pos (show nI 1 = (1 : Int32) from rfl)]
          exact fin _
        · have : ¬ nI (wyN w.1.1 N N h) = (1 : Int32) := nz (n := 1) (by omega) (by decide) z1
          rw [if_neg this, if_neg this]
          obtain ⟨a, g1, g2⟩ := next_k (w := wyN w.1.1 N N h - 1) n1 I K q qo hh (by omega) (by omega) 200 0 N (by omega) (by omega)
          rw [show f_X4_newsNext_31 (nI h) 200 (0 : Int32) t' = _ from g1, show f_X6_nextOf_15 (vo v o') (nI h) 200 (0 : Int32) = _ from g2]
          exact fin _
    have hIn : f_X6_isIn y (0 : Int32) (1 : Int32) = some 0 := by
      rcases isIn_0 y 1 (by decide) with q | ⟨k, hk, rfl, q⟩
      · exact q.1
      · exfalso
        have : k = 0 ∨ k = 1 := by omega
        rcases this with rfl | rfl
        · exact y0 rfl
        · exact y1 rfl
    rw [if_neg y0, if_neg y1, hIn, Option.bind_some, if_pos rfl]
    exact ref_no (x := (-2 : Int32)) hI' 2 (by decide) (by decide) rfl
theorem op_farthest : E_farthest Inv := by
  intro w v hI
  have hI' := hI
  obtain ⟨⟨N, T, n1, n2, I, n4, n5, K⟩, b⟩ := hI
  have hN := I.2.1
  show Eq2 Inv _ _
  obtain ⟨t', e1, q⟩ := ways5 I w.1 rfl
  obtain ⟨o', e2, qo⟩ := over6 n1 I n2 K
  obtain ⟨a, g1, g2⟩ := far_k n1 I K q qo 200 0 N (-9) 0 (by omega) (by omega) (.inl ⟨rfl, rfl⟩)
  unfold f_X5_farthest f_X6_farthest f_X4_farthestHouse
  rw [e1, Option.bind_some, e2, Option.bind_some, show f_X4_farthestHouse_11 200 (0 : Int32) (0 : Int32) (-9 : Int32) t' = _ from g1, show f_X6_farthest_9 200 (0 : Int32) (-9 : Int32) (vo v o') = _ from g2]
  exact Eq2_some rfl (Inv_o hI' t' q.1 o')
