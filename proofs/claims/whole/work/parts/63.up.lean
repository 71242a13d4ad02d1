/-! pure: one place of a land written, on both sides -/
section UP
variable {r : Nat → Int32} {L : LD} {N T : Nat} {ra : Nat → Int32}
theorem Up_ks {h : Nat} {x : Int32} (K : Rel r L N ra) : Rel (upd r (23 + 6 * h) x) (L.1, upd L.2.1 h x, L.2.2) N ra := by
  obtain ⟨k0, k1, k2, k3, k4⟩ := K
  refine ⟨by rw [pk_un (by omega)]; exact k0, by rw [pk_un (by omega)]; exact k1, by rw [pk_un (by omega)]; exact k2, fun c hc => by rw [pk_un (by omega)]; exact k3 c hc, fun o ho => ?_⟩
  obtain ⟨g0, g1, g2, g3, g4, g5⟩ := k4 o ho
  refine ⟨?_, by rw [pk_un (by omega)]; exact g1, by rw [pk_un (by omega)]; exact g2, by rw [pk_un (by omega)]; exact g3, by rw [pk_un (by omega)]; exact g4, by rw [pk_un (by omega)]; exact g5⟩
  show _ = upd L.2.1 h x o
  by_cases e : o = h
  · subst e; rw [pk_us, pk_us]
  · rw [pk_un (by omega), pk_un e]; exact g0
theorem Up_fs {h : Nat} {x : Int32} (K : Rel r L N ra) : Rel (upd r (23 + 6 * h + 1) x) (L.1, L.2.1, upd L.2.2.1 h x, L.2.2.2) N ra := by
  obtain ⟨k0, k1, k2, k3, k4⟩ := K
  refine ⟨by rw [pk_un (by omega)]; exact k0, by rw [pk_un (by omega)]; exact k1, by rw [pk_un (by omega)]; exact k2, fun c hc => by rw [pk_un (by omega)]; exact k3 c hc, fun o ho => ?_⟩
  obtain ⟨g0, g1, g2, g3, g4, g5⟩ := k4 o ho
  refine ⟨by rw [pk_un (by omega)]; exact g0, ?_, by rw [pk_un (by omega)]; exact g2, by rw [pk_un (by omega)]; exact g3, by rw [pk_un (by omega)]; exact g4, by rw [pk_un (by omega)]; exact g5⟩
  show _ = upd L.2.2.1 h x o
  by_cases e : o = h
  · subst e; rw [pk_us, pk_us]
  · rw [pk_un (by omega), pk_un e]; exact g1
theorem Up_cs {h : Nat} {x : Int32} (K : Rel r L N ra) : Rel (upd r (23 + 6 * h + 2) x) (L.1, L.2.1, L.2.2.1, upd L.2.2.2.1 h x, L.2.2.2.2) N ra := by
  obtain ⟨k0, k1, k2, k3, k4⟩ := K
  refine ⟨by rw [pk_un (by omega)]; exact k0, by rw [pk_un (by omega)]; exact k1, by rw [pk_un (by omega)]; exact k2, fun c hc => by rw [pk_un (by omega)]; exact k3 c hc, fun o ho => ?_⟩
  obtain ⟨g0, g1, g2, g3, g4, g5⟩ := k4 o ho
  refine ⟨by rw [pk_un (by omega)]; exact g0, by rw [pk_un (by omega)]; exact g1, ?_, by rw [pk_un (by omega)]; exact g3, by rw [pk_un (by omega)]; exact g4, by rw [pk_un (by omega)]; exact g5⟩
  show _ = upd L.2.2.2.1 h x o
  by_cases e : o = h
  · subst e; rw [pk_us, pk_us]
  · rw [pk_un (by omega), pk_un e]; exact g2
theorem Up_wk {h : Nat} {x : Int32} (K : Rel r L N ra) : Rel (upd r (23 + 6 * h + 3) x) (L.1, L.2.1, L.2.2.1, L.2.2.2.1, upd L.2.2.2.2.1 h x, L.2.2.2.2.2) N ra := by
  obtain ⟨k0, k1, k2, k3, k4⟩ := K
  refine ⟨by rw [pk_un (by omega)]; exact k0, by rw [pk_un (by omega)]; exact k1, by rw [pk_un (by omega)]; exact k2, fun c hc => by rw [pk_un (by omega)]; exact k3 c hc, fun o ho => ?_⟩
  obtain ⟨g0, g1, g2, g3, g4, g5⟩ := k4 o ho
  refine ⟨by rw [pk_un (by omega)]; exact g0, by rw [pk_un (by omega)]; exact g1, by rw [pk_un (by omega)]; exact g2, ?_, by rw [pk_un (by omega)]; exact g4, by rw [pk_un (by omega)]; exact g5⟩
  show _ = upd L.2.2.2.2.1 h x o
  by_cases e : o = h
  · subst e; rw [pk_us, pk_us]
  · rw [pk_un (by omega), pk_un e]; exact g3
theorem Up_ra {h : Nat} {x : Int32} (K : Rel r L N ra) : Rel (upd r (23 + 6 * h + 5) x) L N (upd ra h x) := by
  obtain ⟨k0, k1, k2, k3, k4⟩ := K
  refine ⟨by rw [pk_un (by omega)]; exact k0, by rw [pk_un (by omega)]; exact k1, by rw [pk_un (by omega)]; exact k2, fun c hc => by rw [pk_un (by omega)]; exact k3 c hc, fun o ho => ?_⟩
  obtain ⟨g0, g1, g2, g3, g4, g5⟩ := k4 o ho
  refine ⟨by rw [pk_un (by omega)]; exact g0, by rw [pk_un (by omega)]; exact g1, by rw [pk_un (by omega)]; exact g2, by rw [pk_un (by omega)]; exact g3, by rw [pk_un (by omega)]; exact g4, ?_⟩
  by_cases e : o = h
  · subst e; rw [pk_us, pk_us]
  · rw [pk_un (by omega), pk_un e]; exact g5
theorem Up_hs {c : Nat} {x : Int32} (hc : c < 20) (K : Rel r L N ra) : Rel (upd r (3 + c) x) (upd L.1 c x, L.2) N ra := by
  obtain ⟨k0, k1, k2, k3, k4⟩ := K
  refine ⟨by rw [pk_un (by omega)]; exact k0, by rw [pk_un (by omega)]; exact k1, by rw [pk_un (by omega)]; exact k2, fun d hd => ?_, fun o ho => ?_⟩
  · show _ = upd L.1 c x d
    by_cases e : d = c
    · subst e; rw [pk_us, pk_us]
    · rw [pk_un (by omega), pk_un e]; exact k3 d hd
  · obtain ⟨g0, g1, g2, g3, g4, g5⟩ := k4 o ho
    exact ⟨by rw [pk_un (by omega)]; exact g0, by rw [pk_un (by omega)]; exact g1, by rw [pk_un (by omega)]; exact g2, by rw [pk_un (by omega)]; exact g3, by rw [pk_un (by omega)]; exact g4, by rw [pk_un (by omega)]; exact g5⟩
theorem Up_fg {x : Int32} (K : Rel r L N ra) : Rel (upd r 2 x) (L.1, L.2.1, L.2.2.1, L.2.2.2.1, L.2.2.2.2.1, L.2.2.2.2.2.1, L.2.2.2.2.2.2.1, x, L.2.2.2.2.2.2.2.2) N ra := by
  obtain ⟨k0, k1, k2, k3, k4⟩ := K
  refine ⟨by rw [pk_un (by omega)]; exact k0, by rw [pk_un (by omega)]; exact k1, by rw [pk_us], fun d hd => by rw [pk_un (by omega)]; exact k3 d hd, fun o ho => ?_⟩
  obtain ⟨g0, g1, g2, g3, g4, g5⟩ := k4 o ho
  exact ⟨by rw [pk_un (by omega)]; exact g0, by rw [pk_un (by omega)]; exact g1, by rw [pk_un (by omega)]; exact g2, by rw [pk_un (by omega)]; exact g3, by rw [pk_un (by omega)]; exact g4, by rw [pk_un (by omega)]; exact g5⟩
theorem fa_xor8 : ∀ C, C < 256 → ∀ h, h < 8 → nI C ^^^ nI (2 ^ h) = nI (C ^^^ 2 ^ h) := by decide +kernel
theorem b01_x (b : Bool) : b01 b ^^^ 1 = b01 (!b) := by cases b <;> decide
theorem xor_tb (C h o : Nat) : (C ^^^ 2 ^ h).testBit o = if o = h then !(C.testBit o) else C.testBit o := by
  rw [Nat.testBit_xor]
  by_cases e : o = h
  · subst e; rw [if_pos rfl, Nat.testBit_two_pow_self, Bool.xor_true]
  · rw [if_neg e, Nat.testBit_two_pow_of_ne (Ne.symm e), Bool.xor_false]
abbrev clL (L : LD) (h : Nat) : LD := (L.1, L.2.1, L.2.2.1, L.2.2.2.1, L.2.2.2.2.1, L.2.2.2.2.2.1, L.2.2.2.2.2.2.1 ^^^ ((1 : Int32) <<< (nI h &&& 31)), L.2.2.2.2.2.2.2.1, L.2.2.2.2.2.2.2.2)
theorem cl_at (I : InvL L N T) {h : Nat} (hh : h < N) : ∃ C, C < 2 ^ N ∧ Lcl (clL L h) = nI C ∧ ∀ o, calledB (clL L h) o = if o = h then !(calledB L o) else calledB L o := by
  have hN := I.2.1
  obtain ⟨C, hC, e⟩ := I.2.2.2.1
  have hc := c256 hC hN
  have hp : 2 ^ h < 2 ^ N := Nat.pow_lt_pow_right (by decide) hh
  have hx : C ^^^ 2 ^ h < 2 ^ N := Nat.xor_lt_two_pow hC hp
  have e2 : Lcl (clL L h) = nI (C ^^^ 2 ^ h) := by
    show Lcl L ^^^ _ = _
    rw [one_shl h (by omega), e, fa_xor8 C hc h (by omega)]
  refine ⟨C ^^^ 2 ^ h, hx, e2, fun o => ?_⟩
  have h8 : C ^^^ 2 ^ h < 256 := c256 hx hN
  unfold calledB
  rw [e2, e, nI_clamp (by omega), nI_clamp (by omega), xor_tb]
theorem Up_cl (I : InvL L N T) {h : Nat} (hh : h < N) (K : Rel r L N ra) : Rel (upd r (23 + 6 * h + 4) (r (23 + 6 * h + 4) ^^^ 1)) (clL L h) N ra := by
  obtain ⟨C, hC, e, q⟩ := cl_at I hh
  obtain ⟨k0, k1, k2, k3, k4⟩ := K
  refine ⟨by rw [pk_un (by omega)]; exact k0, by rw [pk_un (by omega)]; exact k1, by rw [pk_un (by omega)]; exact k2, fun c hc => by rw [pk_un (by omega)]; exact k3 c hc, fun o ho => ?_⟩
  obtain ⟨g0, g1, g2, g3, g4, g5⟩ := k4 o ho
  refine ⟨by rw [pk_un (by omega)]; exact g0, by rw [pk_un (by omega)]; exact g1, by rw [pk_un (by omega)]; exact g2, by rw [pk_un (by omega)]; exact g3, ?_, by rw [pk_un (by omega)]; exact g5⟩
  rw [q o]
  by_cases e : o = h
  · subst e; rw [pk_us, if_pos rfl, g4, b01_x]
  · rw [pk_un (by omega), if_neg e]; exact g4
end UP
