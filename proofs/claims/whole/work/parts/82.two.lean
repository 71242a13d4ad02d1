/-! pure: two -/
def putC (C h : Nat) (x : Bool) : Nat := if x = true then C ||| 2 ^ h else ndiff C (2 ^ h)
theorem putC_tb (C h o : Nat) (x : Bool) : (putC C h x).testBit o = if o = h then x else C.testBit o := by
  unfold putC
  cases x with
  | true =>
    rw [if_pos rfl, Nat.testBit_or]
    by_cases e : o = h
    · subst e; rw [if_pos rfl, Nat.testBit_two_pow_self, Bool.or_true]
    · rw [if_neg e, Nat.testBit_two_pow_of_ne (Ne.symm e), Bool.or_false]
  | false =>
    rw [if_neg (by decide), ndiff_tb]
    by_cases e : o = h
    · subst e; rw [if_pos rfl, Nat.testBit_two_pow_self]; simp
    · rw [if_neg e, Nat.testBit_two_pow_of_ne (Ne.symm e)]; simp
theorem putC_lt {C h N : Nat} (hC : C < 2 ^ N) (hh : h < N) (x : Bool) : putC C h x < 2 ^ N := by
  have hp : 2 ^ h < 2 ^ N := Nat.pow_lt_pow_right (by decide) hh
  unfold putC
  split
  · exact Nat.or_lt_two_pow hC hp
  · exact Nat.xor_lt_two_pow hC (Nat.lt_of_le_of_lt Nat.and_le_left hC)
def putL (L : LD) (h : Nat) (x : Bool) : LD := calL L (nI (putC (Lcl L).toNatClampNeg h x))
/-- a called or not, b called or not -/
def pairL (L : LD) (a : Nat) (x : Bool) (b : Nat) (y : Bool) : LD := putL (putL L a x) b y
def gainF (M : LD) (N h : Nat) (c : Int32) : Nat → Int32
  | 0 => 0
  | j + 1 => gainF M N h c j + ((if hg M N j h = true then 2 else 0) - c)
theorem notb01 (b : Bool) : (1 : Int32) - b01 b = b01 (!b) := by cases b <;> decide
theorem inR4 {k : Nat} (h : k < 4) : inR (nI k) 4 = true := inR_nI h (by decide)
theorem ge6 {j : Nat} (h : j < 6) : ¬ (6 : Int32) ≤ nI j := nI_ge (b := 6) h (by decide)
theorem ge4 {j : Nat} (h : j < 4) : ¬ (4 : Int32) ≤ nI j := nI_ge (b := 4) h (by decide)
section PU
variable {r : Nat → Int32} {L : LD} {N T : Nat} {ra : Nat → Int32}
theorem put5 (I : InvL L N T) {h : Nat} (hh : h < N) (x : Bool) : f_X1_putCalled L (nI h) (b01 x) = some (putL L h x) := by
  have hN := I.2.1
  obtain ⟨C, hC, e⟩ := I.2.2.2.1
  have hc := c256 hC hN
  have e2 : L.2.2.2.2.2.2.1 = nI C := e
  have e3 : (Lcl L).toNatClampNeg = C := by rw [e, nI_clamp (by omega)]
  unfold f_X1_putCalled putL putC
  rw [one_shl h (by omega), e3, e2]
  cases x with
  | false => rw [if_pos b01f, fa_diff, if_neg (by decide)]
  | true => rw [if_neg b01t, fa_or, if_pos rfl]
theorem inv_put (I : InvL L N T) {h : Nat} (hh : h < N) (x : Bool) : InvL (putL L h x) N T := by
  obtain ⟨C, hC, e⟩ := I.2.2.2.1
  have hc := c256 hC I.2.1
  unfold putL
  rw [e, nI_clamp (by omega)]
  exact inv_cal I (putC_lt hC hh x)
theorem called_put (I : InvL L N T) {h : Nat} (hh : h < N) (x : Bool) (o : Nat) : calledB (putL L h x) o = if o = h then x else calledB L o := by
  obtain ⟨C, hC, e⟩ := I.2.2.2.1
  have hc := c256 (putC_lt hC hh x) I.2.1
  have hc0 := c256 hC I.2.1
  unfold calledB
  show (nI (putC (Lcl L).toNatClampNeg h x)).toNatClampNeg.testBit o = _
  rw [e, nI_clamp (show C < 2 ^ 31 by omega), nI_clamp (by omega), putC_tb]
theorem Up_put (I : InvL L N T) {h : Nat} (hh : h < N) (x : Bool) (K : Rel r L N ra) : Rel (upd r (23 + 6 * h + 4) (b01 x)) (putL L h x) N ra := by
  have q := called_put I hh x
  obtain ⟨k0, k1, k2, k3, k4⟩ := K
  refine ⟨by rw [pk_un (by omega)]; exact k0, by rw [pk_un (by omega)]; exact k1, by rw [pk_un (by omega)]; exact k2, fun c hc => by rw [pk_un (by omega)]; exact k3 c hc, fun o ho => ?_⟩
  obtain ⟨g0, g1, g2, g3, g4, g5⟩ := k4 o ho
  refine ⟨by rw [pk_un (by omega)]; exact g0, by rw [pk_un (by omega)]; exact g1, by rw [pk_un (by omega)]; exact g2, by rw [pk_un (by omega)]; exact g3, ?_, by rw [pk_un (by omega)]; exact g5⟩
  rw [q o]
  by_cases e : o = h
  · subst e; rw [pk_us, if_pos rfl]
  · rw [pk_un (by omega), if_neg e]; exact g4
theorem inv_pair (I : InvL L N T) {a b : Nat} (ha : a < N) (hb : b < N) (x y : Bool) : InvL (pairL L a x b y) N T := inv_put (inv_put I ha x) hb y
theorem look_put {S : SG} {e : Nat → Int32} {h : Nat} {x : Bool} (q : LookOK S L e N) : LookOK S (putL L h x) e N := q
theorem eye_put {h : Nat} {x : Bool} : eyeL (putL L h x) = eyeL L := rfl
/-- the class's six nights of a pair -/
theorem wp76 {M : LD} {a b : Nat} {x y : Bool} (I : InvL M N T) (ha : a < N) (hb : b < N) {k : Nat} (hk : k < 4) (o : LD) : ∀ (n j m : Nat) (t : TW), j + m = 6 → m < n → MiOK t M N j → t.1 = o → t.2.2.2.2.2.1 k = gainF M N a (b01 x) j → t.2.2.2.2.2.2 k = gainF M N b (b01 y) j → ∃ t', f_X4_weighPair_76 (nI k) (nI a) (nI b) (b01 x) (b01 y) n (nI j) t = some t' ∧ t'.1 = o ∧ LookOK t'.2.2.1 M (eyeL M) N ∧ t'.2.2.2.2.2.1 k = gainF M N a (b01 x) 6 ∧ t'.2.2.2.2.2.2 k = gainF M N b (b01 y) 6 ∧ ∀ i, i ≠ k → t'.2.2.2.2.2.1 i = t.2.2.2.2.2.1 i ∧ t'.2.2.2.2.2.2 i = t.2.2.2.2.2.2 i := by
  intro n
  induction n with
  | zero => intro j m t _ h2; exact absurd h2 (Nat.not_lt_zero _)
  | succ n ih =>
    intro j m t hj hm q ho g1 g2
    have hN := I.2.1
    rw [f_X4_weighPair_76]
    by_cases e : j = 6
    · subst e
      rw [if_pos (show (6 : Int32) ≤ nI 6 by decide)]
      exact ⟨t, rfl, ho, q.2, g1, g2, fun i _ => ⟨rfl, rfl⟩⟩
    · have hk4 := inR4 hk
      have hkc : (nI k).toNatClampNeg = k := nI_clamp (by omega)
      rw [if_neg (ge6 (by omega)), mi_hangers I q, Option.bind_some, if_pos hk4, has5m hN ha, Option.bind_some]
      have go : ∀ (t0 t3 : Int32), t0 = (if hg M N j a = true then 2 else 0) → t3 = (if hg M N j b = true then 2 else 0) → ∃ t', f_X4_weighPair_76 (nI k) (nI a) (nI b) (b01 x) (b01 y) n (nI j + 1) (t.1, nightsL M N (j + 1), t.2.2.1, t.2.2.2.1, t.2.2.2.2.1, upd t.2.2.2.2.2.1 k (t.2.2.2.2.2.1 k + (t0 - b01 x)), upd t.2.2.2.2.2.2 k (t.2.2.2.2.2.2 k + (t3 - b01 y))) = some t' ∧ t'.1 = o ∧ LookOK t'.2.2.1 M (eyeL M) N ∧ t'.2.2.2.2.2.1 k = gainF M N a (b01 x) 6 ∧ t'.2.2.2.2.2.2 k = gainF M N b (b01 y) 6 ∧ ∀ i, i ≠ k → t'.2.2.2.2.2.1 i = t.2.2.2.2.2.1 i ∧ t'.2.2.2.2.2.2 i = t.2.2.2.2.2.2 i := by
        intro t0 t3 h0 h3
        rw [nI_1]
        obtain ⟨t', e1, e2, e3, e4, e5, e6⟩ := ih (j + 1) (m - 1) (t.1, nightsL M N (j + 1), t.2.2.1, t.2.2.2.1, t.2.2.2.2.1, upd t.2.2.2.2.2.1 k (t.2.2.2.2.2.1 k + (t0 - b01 x)), upd t.2.2.2.2.2.2 k (t.2.2.2.2.2.2 k + (t3 - b01 y))) (by omega) (by omega) ⟨rfl, q.2⟩ ho (by
          show upd t.2.2.2.2.2.1 k _ k = _
          rw [pk_us, g1, h0, gainF]) (by
          show upd t.2.2.2.2.2.2 k _ k = _
          rw [pk_us, g2, h3, gainF])
        refine ⟨t', e1, e2, e3, e4, e5, fun i hi => ⟨(e6 i hi).1.trans ?_, (e6 i hi).2.trans ?_⟩⟩
        · show upd _ k _ i = _
          rw [pk_un hi]
        · show upd _ k _ i = _
          rw [pk_un hi]
      have nx : f_X1_passNight t.2.1 = some (nightsL M N (j + 1)) := by rw [q.1]; exact pl_night (inv_nights I j)
      have both : ∀ t0 : Int32, t0 = (if hg M N j a = true then 2 else 0) → ∃ t', f_X4_weighPair_110 (fun a0 a1 => f_X4_weighPair_76 (nI k) (nI a) (nI b) (b01 x) (b01 y) n a0 a1) (nI k) (nI b) (b01 x) (b01 y) (nI (mask (hg M N j) N)) (nI j) t0 (t.2.2.2.2.2.1 k) (nI k) t = some t' ∧ t'.1 = o ∧ LookOK t'.2.2.1 M (eyeL M) N ∧ t'.2.2.2.2.2.1 k = gainF M N a (b01 x) 6 ∧ t'.2.2.2.2.2.2 k = gainF M N b (b01 y) 6 ∧ ∀ i, i ≠ k → t'.2.2.2.2.2.1 i = t.2.2.2.2.2.1 i ∧ t'.2.2.2.2.2.2 i = t.2.2.2.2.2.2 i := by
        intro t0 h0
        unfold f_X4_weighPair_110
        rw [if_pos hk4, if_pos hk4, has5m hN hb, Option.bind_some, hkc]
        cases hb2 : hg M N j b with
        | false =>
          rw [if_pos b01f, if_pos hk4, nx, Option.bind_some]
          exact go t0 0 h0 (by rw [hb2]; rfl)
        | true =>
          rw [if_neg b01t, if_pos hk4, nx, Option.bind_some]
          exact go t0 2 h0 (by rw [hb2]; rfl)
      rw [hkc]
      cases ha2 : hg M N j a with
      | false => rw [if_pos b01f]; exact both 0 (by rw [ha2]; rfl)
      | true => rw [if_neg b01t]; exact both 2 (by rw [ha2]; rfl)
def px (k : Nat) : Bool := decide (k / 2 = 1)
def py (k : Nat) : Bool := decide (k % 2 = 1)
theorem tab_p : ∀ k, k < 4 → nI k / 2 = b01 (px k) ∧ remI (nI k) 2 = b01 (py k) ∧ k ^^^ 2 < 4 ∧ k ^^^ 1 < 4 ∧ (nI k ^^^ 2) = nI (k ^^^ 2) ∧ (nI k ^^^ 1) = nI (k ^^^ 1) ∧ px (k ^^^ 2) = !(px k) ∧ py (k ^^^ 2) = py k ∧ px (k ^^^ 1) = px k ∧ py (k ^^^ 1) = !(py k) := by decide +kernel
theorem weigh_k (I : InvL L N T) {a b : Nat} (ha : a < N) (hb : b < N) {k : Nat} (hk : k < 4) (t : TW) (ht : t.1 = L) (hs : LookOK t.2.2.1 L (eyeL L) N) : ∃ t', f_X4_weighPair t (nI k) (nI a) (nI b) = some t' ∧ t'.1 = L ∧ LookOK t'.2.2.1 L (eyeL L) N ∧ t'.2.2.2.2.2.1 k = gainF (pairL L a (px k) b (py k)) N a (b01 (px k)) 6 ∧ t'.2.2.2.2.2.2 k = gainF (pairL L a (px k) b (py k)) N b (b01 (py k)) 6 ∧ ∀ i, i ≠ k → t'.2.2.2.2.2.1 i = t.2.2.2.2.2.1 i ∧ t'.2.2.2.2.2.2 i = t.2.2.2.2.2.2 i := by
  obtain ⟨p1, p2, -⟩ := tab_p k hk
  have hk4 := inR4 hk
  have hkc : (nI k).toNatClampNeg = k := nI_clamp (by omega)
  have I2 := inv_put I ha (px k)
  have I3 := inv_pair I ha hb (px k) (py k)
  obtain ⟨t', e1, e2, e3, e4, e5, e6⟩ := wp76 (x := px k) (y := py k) I3 ha hb hk L 200 0 6 (L, pairL L a (px k) b (py k), t.2.2.1, t.2.2.2.1, t.2.2.2.2.1, upd t.2.2.2.2.2.1 k 0, upd t.2.2.2.2.2.2 k 0) rfl (by decide) ⟨rfl, hs⟩ rfl pk_us pk_us
  refine ⟨t', ?_, e2, e3, e4, e5, fun i hi => ⟨(e6 i hi).1.trans (pk_un hi), (e6 i hi).2.trans (pk_un hi)⟩⟩
  have w56 : f_X4_weighPair_56 (nI k) (nI a) (nI b) (b01 (py k)) (b01 (px k)) (b01 (py k)) (nI b) (L, putL L a (px k), t.2.2.1, t.2.2.2.1, t.2.2.2.2.1, t.2.2.2.2.2.1, t.2.2.2.2.2.2) = some t' := by
    unfold f_X4_weighPair_56
    rw [show f_X1_putCalled (L, putL L a (px k), t.2.2.1, t.2.2.2.1, t.2.2.2.2.1, t.2.2.2.2.2.1, t.2.2.2.2.2.2).2.1 (nI b) (b01 (py k)) = _ from put5 I2 hb (py k), Option.bind_some, if_pos hk4, if_pos hk4, hkc]
    exact e1
  have w37 : f_X4_weighPair_37 (nI b) (nI k) (nI a) (b01 (py k)) (b01 (px k)) (b01 (px k)) (nI a) (L, L, t.2.2.1, t.2.2.2.1, t.2.2.2.2.1, t.2.2.2.2.2.1, t.2.2.2.2.2.2) = some t' := by
    unfold f_X4_weighPair_37
    rw [show f_X1_putCalled (L, L, t.2.2.1, t.2.2.2.1, t.2.2.2.2.1, t.2.2.2.2.2.1, t.2.2.2.2.2.2).2.1 (nI a) (b01 (px k)) = _ from put5 I ha (px k), Option.bind_some]
    cases hy : py k with
    | true => rw [if_pos (show b01 true = 1 from rfl)]; rw [hy] at w56; exact w56
    | false => rw [if_neg (by decide)]; rw [hy] at w56; exact w56
  unfold f_X4_weighPair
  simp only [nm]
  rw [p1, p2, become5, Option.bind_some, ht]
  cases hx : px k with
  | true => rw [if_pos (show b01 true = 1 from rfl)]; rw [hx] at w37; exact w37
  | false => rw [if_neg (by decide)]; rw [hx] at w37; exact w37
def gaA (L : LD) (N a b : Nat) (x y : Bool) : Int32 := gainF (pairL L a x b y) N a (b01 x) 6
def gaB (L : LD) (N a b : Nat) (x y : Bool) : Int32 := gainF (pairL L a x b y) N b (b01 y) 6
theorem rest6 (I : InvL L N T) {a b : Nat} (ha : a < N) (hb : b < N) : ∀ (n k m : Nat) (t : TW), k + m = 4 → m < n → t.1 = L → LookOK t.2.2.1 L (eyeL L) N → (∀ i, i < k → t.2.2.2.2.2.1 i = gaA L N a b (px i) (py i) ∧ t.2.2.2.2.2.2 i = gaB L N a b (px i) (py i)) → ∃ t', f_X4_pairAtRest_6 (nI a) (nI b) n (nI k) t = f_X4_pairAtRest_26 t' 200 0 ∧ t'.1 = L ∧ ∀ i, i < 4 → t'.2.2.2.2.2.1 i = gaA L N a b (px i) (py i) ∧ t'.2.2.2.2.2.2 i = gaB L N a b (px i) (py i) := by
  intro n
  induction n with
  | zero => intro k m t _ h2; exact absurd h2 (Nat.not_lt_zero _)
  | succ n ih =>
    intro k m t hk hm ht hs hg
    rw [f_X4_pairAtRest_6]
    by_cases e : k = 4
    · subst e
      rw [if_pos (show (4 : Int32) ≤ nI 4 by decide)]
      exact ⟨t, rfl, ht, hg⟩
    · obtain ⟨t', e1, e2, e3, e4, e5, e6⟩ := weigh_k I ha hb (show k < 4 by omega) t ht hs
      rw [if_neg (ge4 (by omega)), e1, Option.bind_some, nI_1]
      refine ih (k + 1) (m - 1) t' (by omega) (by omega) e2 e3 (fun i hi => ?_)
      by_cases q : i = k
      · subst q; exact ⟨e4, e5⟩
      · exact ⟨(e6 i q).1.trans (hg i (by omega)).1, (e6 i q).2.trans (hg i (by omega)).2⟩
/-- the reference's six nights of a pair, for one of the two -/
theorem hb41 {M : LD} {h : Nat} (I : InvL M N T) (hT : T ≤ 999) (hh : h < N) (v : MW) (x1 x2 x3 x5 : Int32) (e1 : x1 = nI h) (c : Int32) (hc : c = if x1 = x2 then x3 else x5) : ∀ (n j m : Nat) (r : Nat → Int32), j + m = 6 → m < n → Rel r (nightsL M N j) N zr → ∃ r', f_X6_hasBy_41 x1 x2 x3 x5 n (nI j) (gainF M N h c j) (v.1, r, v.2.2) = some (gainF M N h c 6, (v.1, r', v.2.2)) := by
  intro n
  induction n with
  | zero => intro j m r _ h2; exact absurd h2 (Nat.not_lt_zero _)
  | succ n ih =>
    intro j m r hj hm q
    have hN := I.2.1
    rw [f_X6_hasBy_41]
    by_cases e : j = 6
    · subst e
      rw [if_pos (show (6 : Int32) ≤ nI 6 by decide)]
      exact ⟨r, rfl⟩
    · obtain ⟨r1, en, K1⟩ := night_k I (show T + j < 2 ^ 31 by omega) q
      rw [if_neg (ge6 (by omega)), hangIn_k I (show T + j < 2 ^ 31 by omega) q, Option.bind_some]
      have go : ∀ t0 : Int32, t0 = (if hg M N j h = true then 2 else 0) → ∃ r', f_X6_hasBy_69 (fun a0 a1 a2 => f_X6_hasBy_41 x1 x2 x3 x5 n a0 a1 a2) x1 x2 x3 x5 (nI j) t0 (gainF M N h c j) (v.1, r, v.2.2) = some (gainF M N h c 6, (v.1, r', v.2.2)) := by
        intro t0 h0
        obtain ⟨r', e2⟩ := ih (j + 1) (m - 1) r1 (by omega) (by omega) K1
        refine ⟨r', ?_⟩
        rw [gainF, ← h0] at e2
        unfold f_X6_hasBy_69
        simp only [nm, nI_1]
        by_cases z : x1 = x2
        · rw [if_pos z] at hc
          rw [if_pos z, show f_X6_night (v.1, r, v.2.2).2.1 = _ from en, Option.bind_some]
          rw [hc] at e2 ⊢
          exact e2
        · rw [if_neg z] at hc
          rw [if_neg z, show f_X6_night (v.1, r, v.2.2).2.1 = _ from en, Option.bind_some]
          rw [hc] at e2 ⊢
          exact e2
      rw [show f_X6_has (nI (mask (hg M N j) N)) x1 = some (b01 (hg M N j h)) by rw [e1]; exact has6m hN hh, Option.bind_some]
      cases h2 : hg M N j h with
      | false => rw [if_pos b01f]; exact go 0 (by rw [h2]; rfl)
      | true => rw [if_neg b01t]; exact go 2 (by rw [h2]; rfl)
theorem hasBy_k (I : InvL L N T) (hT : T ≤ 999) {a b h : Nat} (ha : a < N) (hb : b < N) (hh : h < N) (v : MW) (K : Rel v.1 L N zr) (x y : Bool) {c : Int32} (hc : c = if nI h = nI a then b01 x else b01 y) (r : Nat → Int32) : ∃ r', f_X6_hasBy (v.1, r, v.2.2) (nI h) (nI a) (b01 x) (nI b) (b01 y) = some (gainF (pairL L a x b y) N h c 6, (v.1, r', v.2.2)) := by
  have hN := I.2.1
  have a8 : a < 8 := by omega
  have b8 : b < 8 := by omega
  have K2 := Up_put (inv_put I ha x) hb y (Up_put I ha x K)
  obtain ⟨r', e⟩ := hb41 (inv_pair I ha hb x y) hT hh v (nI h) (nI a) (b01 x) (b01 y) rfl c hc 200 0 6 _ rfl (by decide) K2
  unfold f_X6_hasBy f_X6_copies
  rw [Option.bind_some, of_4, Option.bind_some, if_pos (in71 a8 (show 4 < 6 by decide)), of_4, Option.bind_some, if_pos (in71 b8 (show 4 < 6 by decide)), cl71 a8 (show 4 < 6 by decide), cl71 b8 (show 4 < 6 by decide)]
  exact ⟨r', e⟩
theorem two_k (I : InvL L N T) (hT : T ≤ 999) {a b : Nat} (ha : a < N) (hb : b < N) (hab : a ≠ b) (v : MW) (K : Rel v.1 L N zr) (t : TW) (ht : t.1 = L) (hg : ∀ i, i < 4 → t.2.2.2.2.2.1 i = gaA L N a b (px i) (py i) ∧ t.2.2.2.2.2.2 i = gaB L N a b (px i) (py i)) : ∀ (n k m : Nat) (r : Nat → Int32), k + m = 4 → m < n → Two L v (f_X4_pairAtRest_26 t n (nI k)) (f_X6_two_29 (nI a) (nI b) n (nI k) (v.1, r, v.2.2)) := by
  have hN := I.2.1
  have hne : ¬ nI b = nI a := nz (by omega) (by omega) (Ne.symm hab)
  intro n
  induction n with
  | zero => intro k m r _ h2; exact absurd h2 (Nat.not_lt_zero _)
  | succ n ih =>
    intro k m r hk hm
    rw [f_X4_pairAtRest_26, f_X6_two_29]
    by_cases e : k = 4
    · subst e
      rw [if_pos (show (4 : Int32) ≤ nI 4 by decide), if_pos (show (4 : Int32) ≤ nI 4 by decide)]
      exact ⟨_, _, _, rfl, ht, rfl⟩
    · have k4 : k < 4 := by omega
      obtain ⟨p1, p2, p3, p4, p5, p6, p7, p8, p9, p10⟩ := tab_p k k4
      obtain ⟨r1, e1⟩ := hasBy_k I hT ha hb ha v K (!(px k)) (py k) (c := b01 (!(px k))) (if_pos rfl).symm r
      obtain ⟨r2, e2⟩ := hasBy_k I hT ha hb ha v K (px k) (py k) (c := b01 (px k)) (if_pos rfl).symm r1
      obtain ⟨r3, e3⟩ := hasBy_k I hT ha hb hb v K (px k) (!(py k)) (c := b01 (!(py k))) (if_neg hne).symm r2
      obtain ⟨r4, e4⟩ := hasBy_k I hT ha hb hb v K (px k) (py k) (c := b01 (py k)) (if_neg hne).symm r3
      have hg2 := (hg (k ^^^ 2) p3).1
      have hg1 := (hg (k ^^^ 1) p4).2
      rw [p7, p8] at hg2
      rw [p9, p10] at hg1
      rw [if_neg (ge4 k4), if_neg (ge4 k4)]
      simp only [nm]
      rw [p5, p6, if_pos (inR4 k4), if_pos (inR4 p3), nI_clamp (show k < 2 ^ 31 by omega), nI_clamp (show k ^^^ 2 < 2 ^ 31 by omega), (hg k k4).1, hg2, p1, p2, notb01, e1, Option.bind_some, e2, Option.bind_some, nI_1]
      by_cases z : gaA L N a b (px k) (py k) < gaA L N a b (!(px k)) (py k)
      · rw [if_pos z, if_pos (show (gainF (pairL L a (px k) b (py k)) N a (b01 (px k)) 6) < (gainF (pairL L a (!(px k)) b (py k)) N a (b01 (!(px k))) 6) from z)]
        exact ih (k + 1) (m - 1) r2 (by omega) (by omega)
      · rw [if_neg z, if_neg (show ¬ (gainF (pairL L a (px k) b (py k)) N a (b01 (px k)) 6) < (gainF (pairL L a (!(px k)) b (py k)) N a (b01 (!(px k))) 6) from z), if_pos (inR4 k4), if_pos (inR4 p4), nI_clamp (show k ^^^ 1 < 2 ^ 31 by omega), (hg k k4).2, hg1, notb01, e3, Option.bind_some, e4, Option.bind_some]
        by_cases y : gaB L N a b (px k) (py k) < gaB L N a b (px k) (!(py k))
        · rw [if_pos y, if_pos (show (gainF (pairL L a (px k) b (py k)) N b (b01 (py k)) 6) < (gainF (pairL L a (px k) b (!(py k))) N b (b01 (!(py k))) 6) from y)]
          exact ih (k + 1) (m - 1) r4 (by omega) (by omega)
        · rw [if_neg y, if_neg (show ¬ (gainF (pairL L a (px k) b (py k)) N b (b01 (py k)) 6) < (gainF (pairL L a (px k) b (!(py k))) N b (b01 (!(py k))) 6) from y)]
          exact ⟨_, _, _, rfl, ht, rfl⟩
end PU
theorem op_two : E_two Inv := by
  intro w v hI x y
  have hI' := hI
  obtain ⟨⟨N, T, n1, n2, I, n4, n5, K⟩, b⟩ := hI
  have hN := I.2.1
  show Eq2 Inv _ _
  unfold f_X5_two f_X6_two
  have r1 := ref_no (x := (-1 : Int32)) hI' 1 (by decide) (by decide) rfl
  rcases areTwo_k I K x y with ⟨h1, h2⟩ | ⟨h, o, hh, ho, ne, rfl, rfl, h1, h2, h3⟩
  · rw [h1, Option.bind_some, if_pos rfl]
    rcases h2 with h2 | ⟨h2, h3 | ⟨h3, rfl⟩⟩
    · rw [h2, Option.bind_some, if_pos rfl]; exact r1
    · rw [h2, Option.bind_some, if_neg one_ne, h3, Option.bind_some, if_pos rfl]; exact r1
    · rw [h2, Option.bind_some, if_neg one_ne, Option.bind_some, if_neg one_ne, if_pos rfl]; exact r1
  · obtain ⟨t1, e1, q1⟩ := th_begin I w.1 rfl
    obtain ⟨t2, e2, q2, q3⟩ := rest6 I hh ho 200 0 4 t1 rfl (by decide) q1.1 q1.2.2 (fun i hi => absurd hi (Nat.not_lt_zero _))
    obtain ⟨a, t3, r3, g1, g2, g3⟩ := two_k I n2 hh ho ne v K t2 q2 q3 200 0 4 v.2.1 rfl (by decide)
    rw [h1, Option.bind_some, if_neg one_ne, h2, Option.bind_some, if_neg one_ne, h3, Option.bind_some, if_neg one_ne, if_neg (nz (by omega) (by omega) ne)]
    unfold f_X4_pairAtRest
    rw [e1, Option.bind_some, show f_X4_pairAtRest_6 (nI h) (nI o) 200 (0 : Int32) t1 = _ from e2, show f_X4_pairAtRest_26 t2 200 (0 : Int32) = _ from g1, Option.bind_some, show f_X6_two_29 (nI h) (nI o) 200 (0 : Int32) v = _ from g3]
    exact Eq2_some rfl (Inv_t hI' t3 g2 r3)
