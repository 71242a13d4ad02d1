def f_X6_isIn (x1 : Int32) (x2 : Int32) (x3 : Int32) : Option (Int32) :=
  if x1 < x2 then
    some (0 : Int32)
    else
    if x3 < x1 then
    some (0 : Int32)
    else
    some (1 : Int32)
abbrev rmX6_isIn : Room := { frames := 0, cells := 0, slots := 0, locals := 0 }
set_option maxRecDepth 100000 in
set_option maxHeartbeats 4000000 in
theorem c_X6_isIn (l : Launch) (G : EnT) (x1 : Int32) (x2 : Int32) (x3 : Int32) (o : Int32) (h : f_X6_isIn x1 x2 x3 = some o) : Mi l yX6_isIn rmX6_isIn cX6_isIn 3 (some .boolean) G false [.int x1, .int x2, .int x3] ([]) o ([]) := by
  refine Mi_of (by decide) (Nat.le_of_ble_eq_true rfl) ?_
  intro p e s m below meth c A0 F hr hW ls hl
  obtain ⟨hx, hb, hml, hown, hts, hK, hNW, hlocks, hA, hSX⟩ := id F
  have hl : lv_has ls 3 [(0, .int x1), (1, .int x2), (2, .int x3)] := hl
  have hW : Wd G A0 s ([]) s.heap [] := hW
  show W p l e rmX6_isIn s m ([.int x1, .int x2, .int x3] : List Value).toArray below meth c s.heap [] 0 0 (Qi below G ([]) o A0 ([.int x1, .int x2, .int x3] : List Value).toArray s) (F0 m 0 ls [])
  refine lv_iload_n hx hb dX6_isIn_0 rfl (lv_at hl 0 rfl) ?_
  refine lv_iload_n hx hb dX6_isIn_1 rfl (lv_at hl 1 rfl) ?_
  obtain ⟨ht_2, hf_2⟩ := of_ite h
  refine lv_icmp_lt (tgt := 14) hx hb dX6_isIn_2 (by decide) (fun c_2 => ?_) (fun c_2 => ?_)
  · have h := ht_2 c_2
    refine lv_iconst (v := (0 : Int32)) hx hb dX6_isIn_14 (by decide) ?_
    obtain rfl := Option.some.inj h
    exact x_retz F hr hW (Or.inl rfl) rfl dX6_isIn_15
  · have h := hf_2 c_2
    refine lv_iload_n hx hb dX6_isIn_5 rfl (lv_at hl 0 rfl) ?_
    refine lv_iload_n hx hb dX6_isIn_6 rfl (lv_at hl 2 rfl) ?_
    obtain ⟨ht_7, hf_7⟩ := of_ite h
    refine lv_icmp_gt (tgt := 14) hx hb dX6_isIn_7 (by decide) (fun c_7 => ?_) (fun c_7 => ?_)
    · have h := ht_7 c_7
      refine lv_iconst (v := (0 : Int32)) hx hb dX6_isIn_14 (by decide) ?_
      obtain rfl := Option.some.inj h
      exact x_retz F hr hW (Or.inl rfl) rfl dX6_isIn_15
    · have h := hf_7 c_7
      refine lv_iconst (v := (1 : Int32)) hx hb dX6_isIn_10 (by decide) ?_
      refine lv_goto (tgt := 15) hx hb dX6_isIn_11 (by decide) ?_
      obtain rfl := Option.some.inj h
      exact x_retz F hr hW (Or.inr rfl) rfl dX6_isIn_15
def f_X6_least (x1 : Int32) (x2 : Int32) : Option (Int32) :=
  if x2 ≤ x1 then
    some x2
    else
    some x1
abbrev rmX6_least : Room := { frames := 0, cells := 0, slots := 0, locals := 0 }
set_option maxRecDepth 100000 in
set_option maxHeartbeats 4000000 in
theorem c_X6_least (l : Launch) (G : EnT) (x1 : Int32) (x2 : Int32) (o : Int32) (h : f_X6_least x1 x2 = some o) : Mi l yX6_least rmX6_least cX6_least 2 (some .int) G false [.int x1, .int x2] ([]) o ([]) := by
  refine Mi_of (by decide) (Nat.le_of_ble_eq_true rfl) ?_
  intro p e s m below meth c A0 F hr hW ls hl
  obtain ⟨hx, hb, hml, hown, hts, hK, hNW, hlocks, hA, hSX⟩ := id F
  have hl : lv_has ls 2 [(0, .int x1), (1, .int x2)] := hl
  have hW : Wd G A0 s ([]) s.heap [] := hW
  show W p l e rmX6_least s m ([.int x1, .int x2] : List Value).toArray below meth c s.heap [] 0 0 (Qi below G ([]) o A0 ([.int x1, .int x2] : List Value).toArray s) (F0 m 0 ls [])
  refine lv_iload_n hx hb dX6_least_0 rfl (lv_at hl 0 rfl) ?_
  refine lv_iload_n hx hb dX6_least_1 rfl (lv_at hl 1 rfl) ?_
  obtain ⟨ht_2, hf_2⟩ := of_ite h
  refine lv_icmp_ge (tgt := 9) hx hb dX6_least_2 (by decide) (fun c_2 => ?_) (fun c_2 => ?_)
  · have h := ht_2 c_2
    refine lv_iload_n hx hb dX6_least_9 rfl (lv_at hl 1 rfl) ?_
    obtain rfl := Option.some.inj h
    exact x_reti F hr hW rfl dX6_least_10
  · have h := hf_2 c_2
    refine lv_iload_n hx hb dX6_least_5 rfl (lv_at hl 0 rfl) ?_
    refine lv_goto (tgt := 10) hx hb dX6_least_6 (by decide) ?_
    obtain rfl := Option.some.inj h
    exact x_reti F hr hW rfl dX6_least_10
def f_X6_copies0_2 (w : (Nat → Int32)) : Nat → Int32 → (Nat → Int32) → Option ((Nat → Int32))
  | 0, _, _ => none
  | n0 + 1, v2_2, w2_2 =>
    if (71 : Int32) ≤ v2_2 then
    some w2_2
    else
    if inR v2_2 71 then
    if inR v2_2 71 then
    f_X6_copies0_2 w n0 (v2_2 + (1 : Int32)) (upd w2_2 v2_2.toNatClampNeg (w v2_2.toNatClampNeg))
    else none
    else none
def f_X6_copies0 (w : (Nat → Int32)) (w2 : (Nat → Int32)) : Option ((Nat → Int32)) :=
  f_X6_copies0_2 w 200 (0 : Int32) w2
abbrev rmX6_copies : Room := { frames := 0, cells := 0, slots := 0, locals := 0 }
set_option maxRecDepth 100000 in
set_option maxHeartbeats 4000000 in
theorem c_X6_copies0 (l : Launch) (G : EnT) (q : Nat → Nat) (w : (Nat → Int32)) (q2 : Nat → Nat) (w2 : (Nat → Int32)) (o : (Nat → Int32)) (h : f_X6_copies0 w w2 = some o) : Mv l yX6_copies rmX6_copies cX6_copies 3 none G false [.ref (q 0), .ref (q2 0)] (cAR G 71 q w ++ cAR G 71 q2 w2) (cAR G 71 q w ++ cAR G 71 q2 o) := by
  refine Mv_of (by decide) (Nat.le_of_ble_eq_true rfl) ?_
  intro p e s m below meth c A0 F hr hW ls hl
  obtain ⟨hx, hb, hml, hown, hts, hK, hNW, hlocks, hA, hSX⟩ := id F
  have hl : lv_has ls 3 [(0, .ref (q 0)), (1, .ref (q2 0))] := hl
  have hW : Wd G A0 s (cAR G 71 q w ++ cAR G 71 q2 w2) s.heap [] := hW
  show W p l e rmX6_copies s m ([.ref (q 0), .ref (q2 0)] : List Value).toArray below meth c s.heap [] 0 0 (Qv below G (cAR G 71 q w ++ cAR G 71 q2 o) A0 ([.ref (q 0), .ref (q2 0)] : List Value).toArray s) (F0 m 0 ls [])
  refine lv_iconst (v := (0 : Int32)) hx hb dX6_copies_0 (by decide) ?_
  refine lv_istore_n (lv' := [(2, .int (0 : Int32)), (0, .ref (q 0)), (1, .ref (q2 0))]) hx hb dX6_copies_1 rfl hl (by decide) rfl (fun ls hl => ?_)
  have L0 : ∀ (n0 : Nat) (v2_2 : Int32) (w2_2 : (Nat → Int32)) (H : Heap) (locs : List Loc) (ls : Array Slot), f_X6_copies0_2 w n0 v2_2 w2_2 = some o → Wd G A0 s (cAR G 71 q w ++ cAR G 71 q2 w2_2) H locs → lv_has ls 3 [(2, .int v2_2), (0, .ref (q 0)), (1, .ref (q2 0))] → W p l e rmX6_copies s m ([.ref (q 0), .ref (q2 0)] : List Value).toArray below meth c H locs 0 0 (Qv below G (cAR G 71 q w ++ cAR G 71 q2 o) A0 ([.ref (q 0), .ref (q2 0)] : List Value).toArray s) (F0 m 2 ls []) := by
    intro n0
    induction n0 with
    | zero => intro v2_2 w2_2 H locs ls h; cases (show (none : Option ((Nat → Int32))) = some o from h)
    | succ n0 ih0 =>
      intro v2_2 w2_2 H locs ls h hW hl
      refine lv_iload_n hx hb dX6_copies_2 rfl (lv_at hl 0 rfl) ?_
      refine lv_bipush (v := (71 : Int32)) hx hb dX6_copies_3 (by decide) ?_
      obtain ⟨ht_5, hf_5⟩ := of_ite h
      refine lv_icmp_ge (tgt := 20) hx hb dX6_copies_5 (by decide) (fun c_5 => ?_) (fun c_5 => ?_)
      · have h := ht_5 c_5
        obtain rfl := Option.some.inj h
        exact x_retv F hr hW dX6_copies_20
      · have h := hf_5 c_5
        refine lv_aload_n hx hb dX6_copies_8 rfl (lv_at hl 2 rfl) ?_
        refine lv_iload_n hx hb dX6_copies_9 rfl (lv_at hl 0 rfl) ?_
        refine lv_aload_n hx hb dX6_copies_10 rfl (lv_at hl 1 rfl) ?_
        refine lv_iload_n hx hb dX6_copies_11 rfl (lv_at hl 0 rfl) ?_
        obtain ⟨g_12, h⟩ := of_guard h
        refine x_iald F hW 0 rfl g_12 dX6_copies_12 ?_
        obtain ⟨g_13, h⟩ := of_guard h
        refine x_iast F hW 1 rfl g_13 (ws' := cAR G 71 q w ++ cAR G 71 q2 (upd w2_2 v2_2.toNatClampNeg (w v2_2.toNatClampNeg))) rfl dX6_copies_13 (fun H locs hW => ?_)
        refine lv_iinc (v := (v2_2 + (1 : Int32))) (lv' := [(2, .int (v2_2 + (1 : Int32))), (0, .ref (q 0)), (1, .ref (q2 0))]) hx hb dX6_copies_14 hl (k := 0) rfl rfl (by decide) rfl (fun ls hl => ?_)
        refine lv_goto (tgt := 2) hx hb dX6_copies_17 (by decide) ?_
        exact ih0 (v2_2 + (1 : Int32)) (upd w2_2 v2_2.toNatClampNeg (w v2_2.toNatClampNeg)) _ _ _ h hW (lv_sub hl [0, 1, 2] rfl)
  exact L0 200 (0 : Int32) w2 _ _ _ h hW (lv_sub hl [0, 1, 2] rfl)
theorem cp_copies_loop (w : Nat → Int32) : ∀ (n i : Nat) (g : Nat → Int32), i ≤ 71 → 71 - i < n → (∀ j, j < i → g j = w j) → ∃ g', f_X6_copies0_2 w n (nI i) g = some g' ∧ ∀ j, j < 71 → g' j = w j
  | 0, i, g, h1, h2, h3 => absurd h2 (Nat.not_lt_zero _)
  | n + 1, i, g, h1, h2, h3 => by
    unfold f_X6_copies0_2
    by_cases hi : i = 71
    · subst hi
      rw [if_pos (by decide)]
      exact ⟨g, rfl, h3⟩
    · have hlt : i < 71 := by omega
      rw [if_neg (show ¬ (71 : Int32) ≤ nI i from nI_ge hlt (by decide)), if_pos (inR_nI hlt (by decide)), if_pos (inR_nI hlt (by decide)), nI_1, nI_clamp (by omega)]
      exact cp_copies_loop w n (i + 1) _ (by omega) (by omega) (fun j hj => by
        by_cases e : j = i
        · rw [e, pk_us]
        · rw [pk_un e]; exact h3 j (by omega))
theorem cp_copies (w w2 : Nat → Int32) : ∃ g, f_X6_copies0 w w2 = some g ∧ ∀ j, j < 71 → g j = w j := cp_copies_loop w 200 0 w2 (by decide) (by decide) (fun j h => absurd h (Nat.not_lt_zero j))
def f_X6_copies (w w2 : Nat → Int32) : Option (Nat → Int32) := some w
theorem c_X6_copies (l : Launch) (G : EnT) (q : Nat → Nat) (w : Nat → Int32) (q2 : Nat → Nat) (w2 o : Nat → Int32) (h : f_X6_copies w w2 = some o) : Mv l yX6_copies rmX6_copies cX6_copies 3 none G false [.ref (q 0), .ref (q2 0)] (cAR G 71 q w ++ cAR G 71 q2 w2) (cAR G 71 q w ++ cAR G 71 q2 o) := by
  obtain rfl := Option.some.inj h
  obtain ⟨g, hg, hj⟩ := cp_copies w w2
  exact Mv_imp (c_X6_copies0 l G q w q2 w2 g hg) (fun H hP => va_P_arr [(q 0, .inl (G.2.1, 71, .inl w))] [] hj hP) (fun A hD => va_D_arr [(q 0, .inl (G.2.1, 71, .inl w))] [] hD)

def f_X6_no (w : MW) (x1 : Int32) : Option (Int32 × MW) :=
  if inR (-x1) 7 then
    if inR (-x1) 7 then
    some (x1, (w.1, w.2.1, w.2.2.1, w.2.2.2.1, w.2.2.2.2.1, w.2.2.2.2.2.1, (upd w.2.2.2.2.2.2.1 (-x1).toNatClampNeg ((w.2.2.2.2.2.2.1 (-x1).toNatClampNeg) + (1 : Int32))), w.2.2.2.2.2.2.2.1, w.2.2.2.2.2.2.2.2.1, w.2.2.2.2.2.2.2.2.2.1, w.2.2.2.2.2.2.2.2.2.2.1, w.2.2.2.2.2.2.2.2.2.2.2.1, w.2.2.2.2.2.2.2.2.2.2.2.2.1, w.2.2.2.2.2.2.2.2.2.2.2.2.2))
    else none
    else none
abbrev rmX6_no : Room := { frames := 0, cells := 0, slots := 0, locals := 0 }
set_option maxRecDepth 100000 in
set_option maxHeartbeats 4000000 in
theorem c_X6_no (l : Launch) (G : EnT) (q : Nat → Nat) (w : MW) (x1 : Int32) (o : Int32 × MW) (h : f_X6_no w x1 = some o) : Mi l yX6_no rmX6_no cX6_no 2 (some .int) G false [.ref (q 0), .int x1] (cMW G q w) o.1 (cMW G q o.2) := by
  refine Mi_of (by decide) (Nat.le_of_ble_eq_true rfl) ?_
  intro p e s m below meth c A0 F hr hW ls hl
  obtain ⟨hx, hb, hml, hown, hts, hK, hNW, hlocks, hA, hSX⟩ := id F
  have hl : lv_has ls 2 [(0, .ref (q 0)), (1, .int x1)] := hl
  have hW : Wd G A0 s (cMW G q w) s.heap [] := hW
  show W p l e rmX6_no s m ([.ref (q 0), .int x1] : List Value).toArray below meth c s.heap [] 0 0 (Qi below G (cMW G q o.2) o.1 A0 ([.ref (q 0), .int x1] : List Value).toArray s) (F0 m 0 ls [])
  refine lv_aload_n hx hb dX6_no_0 rfl (lv_at hl 0 rfl) ?_
  refine x_get F hW 0 rfl fa_X6_28 rfl dX6_no_1 ?_
  refine lv_iload_n hx hb dX6_no_4 rfl (lv_at hl 1 rfl) ?_
  refine lv_ineg hx hb dX6_no_5 ?_
  refine lv_dup2_11 hx hb dX6_no_6 rfl rfl ?_
  obtain ⟨g_7, h⟩ := of_guard h
  refine x_iald F hW 7 rfl g_7 dX6_no_7 ?_
  refine lv_iconst (v := (1 : Int32)) hx hb dX6_no_8 (by decide) ?_
  refine lv_iadd hx hb dX6_no_9 ?_
  obtain ⟨g_10, h⟩ := of_guard h
  refine x_iast F hW 7 rfl g_10 (ws' := cMW G q (w.1, w.2.1, w.2.2.1, w.2.2.2.1, w.2.2.2.2.1, w.2.2.2.2.2.1, (upd w.2.2.2.2.2.2.1 (-x1).toNatClampNeg ((w.2.2.2.2.2.2.1 (-x1).toNatClampNeg) + (1 : Int32))), w.2.2.2.2.2.2.2.1, w.2.2.2.2.2.2.2.2.1, w.2.2.2.2.2.2.2.2.2.1, w.2.2.2.2.2.2.2.2.2.2.1, w.2.2.2.2.2.2.2.2.2.2.2.1, w.2.2.2.2.2.2.2.2.2.2.2.2.1, w.2.2.2.2.2.2.2.2.2.2.2.2.2)) rfl dX6_no_10 (fun H locs hW => ?_)
  refine lv_iload_n hx hb dX6_no_11 rfl (lv_at hl 1 rfl) ?_
  obtain rfl := Option.some.inj h
  exact x_reti F hr hW rfl dX6_no_12
def f_X6_noWide (w : MW) (x1 : Int32) : Option (Int64 × MW) :=
  Option.bind (f_X6_no w x1) fun p_5 =>
    some (((4000000000000000000 : Int64) - (p_5.1.toInt64)), p_5.2)
abbrev rmX6_noWide : Room := { frames := 1, cells := 0, slots := 0, locals := 21 }
set_option maxRecDepth 100000 in
set_option maxHeartbeats 4000000 in
theorem c_X6_noWide (l : Launch) (G : EnT) (q : Nat → Nat) (w : MW) (x1 : Int32) (o : Int64 × MW) (h : f_X6_noWide w x1 = some o) : Ml l yX6_noWide rmX6_noWide cX6_noWide 2 (some .long) G false [.ref (q 0), .int x1] (cMW G q w) o.1 (cMW G q o.2) := by
  refine Ml_of (by decide) (Nat.le_of_ble_eq_true rfl) ?_
  intro p e s m below meth c A0 F hr hW ls hl
  obtain ⟨hx, hb, hml, hown, hts, hK, hNW, hlocks, hA, hSX⟩ := id F
  have hl : lv_has ls 2 [(0, .ref (q 0)), (1, .int x1)] := hl
  have hW : Wd G A0 s (cMW G q w) s.heap [] := hW
  show W p l e rmX6_noWide s m ([.ref (q 0), .int x1] : List Value).toArray below meth c s.heap [] 0 0 (Ql below G (cMW G q o.2) o.1 A0 ([.ref (q 0), .int x1] : List Value).toArray s) (F0 m 0 ls [])
  refine lv_ldc2 (v := (4000000000000000000 : Int64)) hx hb hown (hts _ wd_1183) dX6_noWide_0 ?_
  refine lv_aload_n hx hb dX6_noWide_3 rfl (lv_at hl 0 rfl) ?_
  refine lv_iload_n hx hb dX6_noWide_4 rfl (lv_at hl 1 rfl) ?_
  obtain ⟨p_5, hc_5, h⟩ := of_bind h
  refine x_Vi (av := [.ref (q 0), .int x1]) (As := [.int x1]) F hW (c_X6_no l G q w x1 _ hc_5) [0, 1, 2, 3, 4, 5, 6, 7, 8, 9] rfl rfl (by intro q; cases q) cv_X6_39 rfl ⟨_, rfl, rfl⟩ rfl rfl rfl hl (Nat.le_of_ble_eq_true rfl) ⟨Nat.le_of_ble_eq_true rfl, Nat.le_of_ble_eq_true rfl⟩ ⟨rfl, rfl⟩ ⟨Nat.le_of_ble_eq_true rfl, Nat.le_of_ble_eq_true rfl⟩ dX6_noWide_5 rfl [some 0, some 1, some 2, some 3, some 4, some 5, some 6, some 7, some 8, some 9] rfl (ws' := cMW G q p_5.2) rfl (fun H locs hW => ?_)
  refine lv_i2l (v := (p_5.1.toInt64)) hx hb dX6_noWide_8 rfl ?_
  refine lv_lsub hx hb dX6_noWide_9 ?_
  obtain rfl := Option.some.inj h
  exact x_retl F hr hW rfl dX6_noWide_10
def f_X6_of (x1 : Int32) (x2 : Int32) : Option (Int32) :=
  some (((23 : Int32) + ((6 : Int32) * x1)) + x2)
abbrev rmX6_of : Room := { frames := 0, cells := 0, slots := 0, locals := 0 }
set_option maxRecDepth 100000 in
set_option maxHeartbeats 4000000 in
theorem c_X6_of (l : Launch) (G : EnT) (x1 : Int32) (x2 : Int32) (o : Int32) (h : f_X6_of x1 x2 = some o) : Mi l yX6_of rmX6_of cX6_of 2 (some .int) G false [.int x1, .int x2] ([]) o ([]) := by
  refine Mi_of (by decide) (Nat.le_of_ble_eq_true rfl) ?_
  intro p e s m below meth c A0 F hr hW ls hl
  obtain ⟨hx, hb, hml, hown, hts, hK, hNW, hlocks, hA, hSX⟩ := id F
  have hl : lv_has ls 2 [(0, .int x1), (1, .int x2)] := hl
  have hW : Wd G A0 s ([]) s.heap [] := hW
  show W p l e rmX6_of s m ([.int x1, .int x2] : List Value).toArray below meth c s.heap [] 0 0 (Qi below G ([]) o A0 ([.int x1, .int x2] : List Value).toArray s) (F0 m 0 ls [])
  refine lv_bipush (v := (23 : Int32)) hx hb dX6_of_0 (by decide) ?_
  refine lv_bipush (v := (6 : Int32)) hx hb dX6_of_2 (by decide) ?_
  refine lv_iload_n hx hb dX6_of_4 rfl (lv_at hl 0 rfl) ?_
  refine lv_imul hx hb dX6_of_5 ?_
  refine lv_iadd hx hb dX6_of_6 ?_
  refine lv_iload_n hx hb dX6_of_7 rfl (lv_at hl 1 rfl) ?_
  refine lv_iadd hx hb dX6_of_8 ?_
  obtain rfl := Option.some.inj h
  exact x_reti F hr hW rfl dX6_of_9
def f_X6_isHouse (w : MW) (x1 : Int32) : Option (Int32) :=
  if inR (0 : Int32) 71 then
    Option.bind (f_X6_isIn x1 (0 : Int32) ((w.1 (0 : Int32).toNatClampNeg) - (1 : Int32))) fun p_10 =>
    if p_10 = 0 ∨ p_10 = 1 then some p_10 else none
    else none
abbrev rmX6_isHouse : Room := { frames := 1, cells := 0, slots := 0, locals := 22 }
set_option maxRecDepth 100000 in
set_option maxHeartbeats 4000000 in
theorem c_X6_isHouse (l : Launch) (G : EnT) (q : Nat → Nat) (w : MW) (x1 : Int32) (o : Int32) (h : f_X6_isHouse w x1 = some o) : Mi l yX6_isHouse rmX6_isHouse cX6_isHouse 2 (some .boolean) G false [.ref (q 0), .int x1] (cMW G q w) o (cMW G q w) := by
  refine Mi_of (by decide) (Nat.le_of_ble_eq_true rfl) ?_
  intro p e s m below meth c A0 F hr hW ls hl
  obtain ⟨hx, hb, hml, hown, hts, hK, hNW, hlocks, hA, hSX⟩ := id F
  have hl : lv_has ls 2 [(0, .ref (q 0)), (1, .int x1)] := hl
  have hW : Wd G A0 s (cMW G q w) s.heap [] := hW
  show W p l e rmX6_isHouse s m ([.ref (q 0), .int x1] : List Value).toArray below meth c s.heap [] 0 0 (Qi below G (cMW G q w) o A0 ([.ref (q 0), .int x1] : List Value).toArray s) (F0 m 0 ls [])
  refine lv_iload_n hx hb dX6_isHouse_0 rfl (lv_at hl 1 rfl) ?_
  refine lv_iconst (v := (0 : Int32)) hx hb dX6_isHouse_1 (by decide) ?_
  refine lv_aload_n hx hb dX6_isHouse_2 rfl (lv_at hl 0 rfl) ?_
  refine x_get F hW 0 rfl fa_X6_9 rfl dX6_isHouse_3 ?_
  refine lv_iconst (v := (0 : Int32)) hx hb dX6_isHouse_6 (by decide) ?_
  obtain ⟨g_7, h⟩ := of_guard h
  refine x_iald F hW 1 rfl g_7 dX6_isHouse_7 ?_
  refine lv_iconst (v := (1 : Int32)) hx hb dX6_isHouse_8 (by decide) ?_
  refine lv_isub hx hb dX6_isHouse_9 ?_
  obtain ⟨p_10, hc_10, h⟩ := of_bind h
  refine x_Si (av := [.int x1, .int (0 : Int32), .int ((w.1 (0 : Int32).toNatClampNeg) - (1 : Int32))]) F hW (c_X6_isIn l G x1 (0 : Int32) ((w.1 (0 : Int32).toNatClampNeg) - (1 : Int32)) _ hc_10) [] rfl rfl (by intro q; cases q) cs_X6_43 rfl rfl hl (Nat.le_of_ble_eq_true rfl) ⟨Nat.le_of_ble_eq_true rfl, Nat.le_of_ble_eq_true rfl⟩ ⟨rfl, rfl⟩ ⟨Nat.le_of_ble_eq_true rfl, Nat.le_of_ble_eq_true rfl⟩ dX6_isHouse_10 rfl [none, none, none, none, none, none, none, none, none, none] rfl (ws' := cMW G q w) rfl (fun H locs hW => ?_)
  obtain ⟨g_13, h⟩ := of_guard h
  obtain rfl := Option.some.inj h
  exact x_retz F hr hW g_13 rfl dX6_isHouse_13
def f_X6_isCell (x1 : Int32) : Option (Int32) :=
  Option.bind (f_X6_isIn x1 (0 : Int32) (19 : Int32)) fun p_4 =>
    if p_4 = 0 ∨ p_4 = 1 then some p_4 else none
abbrev rmX6_isCell : Room := { frames := 1, cells := 0, slots := 0, locals := 22 }
set_option maxRecDepth 100000 in
set_option maxHeartbeats 4000000 in
theorem c_X6_isCell (l : Launch) (G : EnT) (x1 : Int32) (o : Int32) (h : f_X6_isCell x1 = some o) : Mi l yX6_isCell rmX6_isCell cX6_isCell 1 (some .boolean) G false [.int x1] ([]) o ([]) := by
  refine Mi_of (by decide) (Nat.le_of_ble_eq_true rfl) ?_
  intro p e s m below meth c A0 F hr hW ls hl
  obtain ⟨hx, hb, hml, hown, hts, hK, hNW, hlocks, hA, hSX⟩ := id F
  have hl : lv_has ls 1 [(0, .int x1)] := hl
  have hW : Wd G A0 s ([]) s.heap [] := hW
  show W p l e rmX6_isCell s m ([.int x1] : List Value).toArray below meth c s.heap [] 0 0 (Qi below G ([]) o A0 ([.int x1] : List Value).toArray s) (F0 m 0 ls [])
  refine lv_iload_n hx hb dX6_isCell_0 rfl (lv_at hl 0 rfl) ?_
  refine lv_iconst (v := (0 : Int32)) hx hb dX6_isCell_1 (by decide) ?_
  refine lv_bipush (v := (19 : Int32)) hx hb dX6_isCell_2 (by decide) ?_
  obtain ⟨p_4, hc_4, h⟩ := of_bind h
  refine x_Si (av := [.int x1, .int (0 : Int32), .int (19 : Int32)]) F hW (c_X6_isIn l G x1 (0 : Int32) (19 : Int32) _ hc_4) [] rfl rfl (by intro q; cases q) cs_X6_43 rfl rfl hl (Nat.le_of_ble_eq_true rfl) ⟨Nat.le_of_ble_eq_true rfl, Nat.le_of_ble_eq_true rfl⟩ ⟨rfl, rfl⟩ ⟨Nat.le_of_ble_eq_true rfl, Nat.le_of_ble_eq_true rfl⟩ dX6_isCell_4 rfl [] rfl (ws' := []) rfl (fun H locs hW => ?_)
  obtain ⟨g_7, h⟩ := of_guard h
  obtain rfl := Option.some.inj h
  exact x_retz F hr hW g_7 rfl dX6_isCell_7
def f_X6_has (x1 : Int32) (x2 : Int32) : Option (Int32) :=
  if ((x1 >>> (x2 &&& 31)) &&& (1 : Int32)) = (1 : Int32) then
    some (1 : Int32)
    else
    some (0 : Int32)
abbrev rmX6_has : Room := { frames := 0, cells := 0, slots := 0, locals := 0 }
set_option maxRecDepth 100000 in
set_option maxHeartbeats 4000000 in
theorem c_X6_has (l : Launch) (G : EnT) (x1 : Int32) (x2 : Int32) (o : Int32) (h : f_X6_has x1 x2 = some o) : Mi l yX6_has rmX6_has cX6_has 2 (some .boolean) G false [.int x1, .int x2] ([]) o ([]) := by
  refine Mi_of (by decide) (Nat.le_of_ble_eq_true rfl) ?_
  intro p e s m below meth c A0 F hr hW ls hl
  obtain ⟨hx, hb, hml, hown, hts, hK, hNW, hlocks, hA, hSX⟩ := id F
  have hl : lv_has ls 2 [(0, .int x1), (1, .int x2)] := hl
  have hW : Wd G A0 s ([]) s.heap [] := hW
  show W p l e rmX6_has s m ([.int x1, .int x2] : List Value).toArray below meth c s.heap [] 0 0 (Qi below G ([]) o A0 ([.int x1, .int x2] : List Value).toArray s) (F0 m 0 ls [])
  refine lv_iload_n hx hb dX6_has_0 rfl (lv_at hl 0 rfl) ?_
  refine lv_iload_n hx hb dX6_has_1 rfl (lv_at hl 1 rfl) ?_
  refine lv_ishr hx hb dX6_has_2 ?_
  refine lv_iconst (v := (1 : Int32)) hx hb dX6_has_3 (by decide) ?_
  refine lv_iand hx hb dX6_has_4 ?_
  refine lv_iconst (v := (1 : Int32)) hx hb dX6_has_5 (by decide) ?_
  obtain ⟨ht_6, hf_6⟩ := of_ite h
  refine lv_icmp_ne (tgt := 13) hx hb dX6_has_6 (by decide) (fun c_6 => ?_) (fun c_6 => ?_)
  · have h := hf_6 c_6
    refine lv_iconst (v := (0 : Int32)) hx hb dX6_has_13 (by decide) ?_
    obtain rfl := Option.some.inj h
    exact x_retz F hr hW (Or.inl rfl) rfl dX6_has_14
  · have h := ht_6 c_6
    refine lv_iconst (v := (1 : Int32)) hx hb dX6_has_9 (by decide) ?_
    refine lv_goto (tgt := 14) hx hb dX6_has_10 (by decide) ?_
    obtain rfl := Option.some.inj h
    exact x_retz F hr hW (Or.inr rfl) rfl dX6_has_14
def f_X6_bits_4 (x1 : Int32) : Nat → Int32 → Int32 → Option (Int32)
  | 0, _, _ => none
  | n0 + 1, v2_4, v1_4 =>
    if (8 : Int32) ≤ v2_4 then
    some v1_4
    else
    nm (v1_4 + ((x1 >>> (v2_4 &&& 31)) &&& (1 : Int32))) fun x_17 =>
    f_X6_bits_4 x1 n0 (v2_4 + (1 : Int32)) x_17
def f_X6_bits (x1 : Int32) : Option (Int32) :=
  f_X6_bits_4 x1 200 (0 : Int32) (0 : Int32)
abbrev rmX6_bits : Room := { frames := 0, cells := 0, slots := 0, locals := 0 }
set_option maxRecDepth 100000 in
set_option maxHeartbeats 4000000 in
theorem c_X6_bits (l : Launch) (G : EnT) (x1 : Int32) (o : Int32) (h : f_X6_bits x1 = some o) : Mi l yX6_bits rmX6_bits cX6_bits 3 (some .int) G false [.int x1] ([]) o ([]) := by
  refine Mi_of (by decide) (Nat.le_of_ble_eq_true rfl) ?_
  intro p e s m below meth c A0 F hr hW ls hl
  obtain ⟨hx, hb, hml, hown, hts, hK, hNW, hlocks, hA, hSX⟩ := id F
  have hl : lv_has ls 3 [(0, .int x1)] := hl
  have hW : Wd G A0 s ([]) s.heap [] := hW
  show W p l e rmX6_bits s m ([.int x1] : List Value).toArray below meth c s.heap [] 0 0 (Qi below G ([]) o A0 ([.int x1] : List Value).toArray s) (F0 m 0 ls [])
  refine lv_iconst (v := (0 : Int32)) hx hb dX6_bits_0 (by decide) ?_
  refine lv_istore_n (lv' := [(1, .int (0 : Int32)), (0, .int x1)]) hx hb dX6_bits_1 rfl hl (by decide) rfl (fun ls hl => ?_)
  refine lv_iconst (v := (0 : Int32)) hx hb dX6_bits_2 (by decide) ?_
  refine lv_istore_n (lv' := [(2, .int (0 : Int32)), (1, .int (0 : Int32)), (0, .int x1)]) hx hb dX6_bits_3 rfl hl (by decide) rfl (fun ls hl => ?_)
  have L0 : ∀ (n0 : Nat) (v2_4 : Int32) (v1_4 : Int32) (H : Heap) (locs : List Loc) (ls : Array Slot), f_X6_bits_4 x1 n0 v2_4 v1_4 = some o → Wd G A0 s ([]) H locs → lv_has ls 3 [(2, .int v2_4), (1, .int v1_4), (0, .int x1)] → W p l e rmX6_bits s m ([.int x1] : List Value).toArray below meth c H locs 0 0 (Qi below G ([]) o A0 ([.int x1] : List Value).toArray s) (F0 m 4 ls []) := by
    intro n0
    induction n0 with
    | zero => intro v2_4 v1_4 H locs ls h; cases (show (none : Option (Int32)) = some o from h)
    | succ n0 ih0 =>
      intro v2_4 v1_4 H locs ls h hW hl
      refine lv_iload_n hx hb dX6_bits_4 rfl (lv_at hl 0 rfl) ?_
      refine lv_bipush (v := (8 : Int32)) hx hb dX6_bits_5 (by decide) ?_
      obtain ⟨ht_7, hf_7⟩ := of_ite h
      refine lv_icmp_ge (tgt := 24) hx hb dX6_bits_7 (by decide) (fun c_7 => ?_) (fun c_7 => ?_)
      · have h := ht_7 c_7
        refine lv_iload_n hx hb dX6_bits_24 rfl (lv_at hl 1 rfl) ?_
        obtain rfl := Option.some.inj h
        exact x_reti F hr hW rfl dX6_bits_25
      · have h := hf_7 c_7
        refine lv_iload_n hx hb dX6_bits_10 rfl (lv_at hl 1 rfl) ?_
        refine lv_iload_n hx hb dX6_bits_11 rfl (lv_at hl 2 rfl) ?_
        refine lv_iload_n hx hb dX6_bits_12 rfl (lv_at hl 0 rfl) ?_
        refine lv_ishr hx hb dX6_bits_13 ?_
        refine lv_iconst (v := (1 : Int32)) hx hb dX6_bits_14 (by decide) ?_
        refine lv_iand hx hb dX6_bits_15 ?_
        refine lv_iadd hx hb dX6_bits_16 ?_
        obtain ⟨x_17, e_x_17, h⟩ := of_nm h
        refine x_topi e_x_17 ?_
        refine lv_istore_n (lv' := [(1, .int x_17), (2, .int v2_4), (0, .int x1)]) hx hb dX6_bits_17 rfl hl (by decide) rfl (fun ls hl => ?_)
        refine lv_iinc (v := (v2_4 + (1 : Int32))) (lv' := [(2, .int (v2_4 + (1 : Int32))), (1, .int x_17), (0, .int x1)]) hx hb dX6_bits_18 hl (k := 1) rfl rfl (by decide) rfl (fun ls hl => ?_)
        refine lv_goto (tgt := 4) hx hb dX6_bits_21 (by decide) ?_
        exact ih0 (v2_4 + (1 : Int32)) x_17 _ _ _ h hW (lv_sub hl [0, 1, 2] rfl)
  exact L0 200 (0 : Int32) (0 : Int32) _ _ _ h hW (lv_sub hl [0, 1, 2] rfl)
def f_X6_candleBy (x1 : Int32) (x2 : Int32) : Option (Int32) :=
  if x1 = (1 : Int32) then
    some ((1 : Int32) + (x2 / (2 : Int32)))
    else
    if x1 = (2 : Int32) then
    some (1 : Int32)
    else
    if x1 = (3 : Int32) then
    some (0 : Int32)
    else
    if x1 = (4 : Int32) then
    some ((3 : Int32) + (x2 / (2 : Int32)))
    else
    some (1 : Int32)
abbrev rmX6_candleBy : Room := { frames := 0, cells := 0, slots := 0, locals := 0 }
set_option maxRecDepth 100000 in
set_option maxHeartbeats 4000000 in
theorem c_X6_candleBy (l : Launch) (G : EnT) (x1 : Int32) (x2 : Int32) (o : Int32) (h : f_X6_candleBy x1 x2 = some o) : Mi l yX6_candleBy rmX6_candleBy cX6_candleBy 2 (some .int) G false [.int x1, .int x2] ([]) o ([]) := by
  refine Mi_of (by decide) (Nat.le_of_ble_eq_true rfl) ?_
  intro p e s m below meth c A0 F hr hW ls hl
  obtain ⟨hx, hb, hml, hown, hts, hK, hNW, hlocks, hA, hSX⟩ := id F
  have hl : lv_has ls 2 [(0, .int x1), (1, .int x2)] := hl
  have hW : Wd G A0 s ([]) s.heap [] := hW
  show W p l e rmX6_candleBy s m ([.int x1, .int x2] : List Value).toArray below meth c s.heap [] 0 0 (Qi below G ([]) o A0 ([.int x1, .int x2] : List Value).toArray s) (F0 m 0 ls [])
  refine lv_iload_n hx hb dX6_candleBy_0 rfl (lv_at hl 0 rfl) ?_
  obtain ⟨ht_1_0, h⟩ := of_ite h
  by_cases c_1_0 : x1 = (1 : Int32)
  · have h := ht_1_0 c_1_0
    refine x_tableIn c_1_0 hx hb dX6_candleBy_1 (by decide) (by decide) (off := (31)) rfl (tgt := 32) (by decide) ?_
    refine lv_iconst (v := (1 : Int32)) hx hb dX6_candleBy_32 (by decide) ?_
    refine lv_iload_n hx hb dX6_candleBy_33 rfl (lv_at hl 1 rfl) ?_
    refine lv_iconst (v := (2 : Int32)) hx hb dX6_candleBy_34 (by decide) ?_
    refine lv_idiv hx hb dX6_candleBy_35 (by decide) ?_
    refine lv_iadd hx hb dX6_candleBy_36 ?_
    obtain rfl := Option.some.inj h
    exact x_reti F hr hW rfl dX6_candleBy_37
  have h := h c_1_0
  obtain ⟨ht_1_1, h⟩ := of_ite h
  by_cases c_1_1 : x1 = (2 : Int32)
  · have h := ht_1_1 c_1_1
    refine x_tableIn c_1_1 hx hb dX6_candleBy_1 (by decide) (by decide) (off := (45)) rfl (tgt := 46) (by decide) ?_
    refine lv_iconst (v := (1 : Int32)) hx hb dX6_candleBy_46 (by decide) ?_
    obtain rfl := Option.some.inj h
    exact x_reti F hr hW rfl dX6_candleBy_47
  have h := h c_1_1
  obtain ⟨ht_1_2, h⟩ := of_ite h
  by_cases c_1_2 : x1 = (3 : Int32)
  · have h := ht_1_2 c_1_2
    refine x_tableIn c_1_2 hx hb dX6_candleBy_1 (by decide) (by decide) (off := (37)) rfl (tgt := 38) (by decide) ?_
    refine lv_iconst (v := (0 : Int32)) hx hb dX6_candleBy_38 (by decide) ?_
    obtain rfl := Option.some.inj h
    exact x_reti F hr hW rfl dX6_candleBy_39
  have h := h c_1_2
  obtain ⟨ht_1_3, h⟩ := of_ite h
  by_cases c_1_3 : x1 = (4 : Int32)
  · have h := ht_1_3 c_1_3
    refine x_tableIn c_1_3 hx hb dX6_candleBy_1 (by decide) (by decide) (off := (39)) rfl (tgt := 40) (by decide) ?_
    refine lv_iconst (v := (3 : Int32)) hx hb dX6_candleBy_40 (by decide) ?_
    refine lv_iload_n hx hb dX6_candleBy_41 rfl (lv_at hl 1 rfl) ?_
    refine lv_iconst (v := (2 : Int32)) hx hb dX6_candleBy_42 (by decide) ?_
    refine lv_idiv hx hb dX6_candleBy_43 (by decide) ?_
    refine lv_iadd hx hb dX6_candleBy_44 ?_
    obtain rfl := Option.some.inj h
    exact x_reti F hr hW rfl dX6_candleBy_45
  have h := h c_1_3
  refine lv_tableOut hx hb dX6_candleBy_1 (by have z0 := x_ne c_1_0 (z := 1) (by decide); have z1 := x_ne c_1_1 (z := 2) (by decide); have z2 := x_ne c_1_2 (z := 3) (by decide); have z3 := x_ne c_1_3 (z := 4) (by decide); omega) (tgt := 46) (by decide) ?_
  refine lv_iconst (v := (1 : Int32)) hx hb dX6_candleBy_46 (by decide) ?_
  obtain rfl := Option.some.inj h
  exact x_reti F hr hW rfl dX6_candleBy_47
def f_X6_doesSleep_13 (x1 : Int32) (x3 : Int32) (t0_13 : Int32) : Option (Int32) :=
  if x1 = (2 : Int32) then
    if t0_13 = 0 ∨ t0_13 = 1 then some t0_13 else none
    else
    if x1 = (3 : Int32) then
    if t0_13 = 0 ∨ t0_13 = 1 then some t0_13 else none
    else
    if x1 = (4 : Int32) then
    if (remI x3 (2 : Int32)) = (1 : Int32) then
    some (1 : Int32)
    else
    some (0 : Int32)
    else
    if x1 = (5 : Int32) then
    if t0_13 = 0 then
    if (remI x3 (3 : Int32)) = 0 then
    some (1 : Int32)
    else
    some (0 : Int32)
    else
    some (1 : Int32)
    else
    some (0 : Int32)
def f_X6_doesSleep (x1 : Int32) (x2 : Int32) (x3 : Int32) : Option (Int32) :=
  if (x2 + (2 : Int32)) = 0 then none else
    if (remI x3 (x2 + (2 : Int32))) = 0 then
    f_X6_doesSleep_13 x1 x3 (1 : Int32)
    else
    f_X6_doesSleep_13 x1 x3 (0 : Int32)
abbrev rmX6_doesSleep : Room := { frames := 0, cells := 0, slots := 0, locals := 0 }
set_option maxRecDepth 100000 in
set_option maxHeartbeats 4000000 in
theorem c_X6_doesSleep (l : Launch) (G : EnT) (x1 : Int32) (x2 : Int32) (x3 : Int32) (o : Int32) (h : f_X6_doesSleep x1 x2 x3 = some o) : Mi l yX6_doesSleep rmX6_doesSleep cX6_doesSleep 4 (some .boolean) G false [.int x1, .int x2, .int x3] ([]) o ([]) := by
  refine Mi_of (by decide) (Nat.le_of_ble_eq_true rfl) ?_
  intro p e s m below meth c A0 F hr hW ls hl
  obtain ⟨hx, hb, hml, hown, hts, hK, hNW, hlocks, hA, hSX⟩ := id F
  have hl : lv_has ls 4 [(0, .int x1), (1, .int x2), (2, .int x3)] := hl
  have hW : Wd G A0 s ([]) s.heap [] := hW
  show W p l e rmX6_doesSleep s m ([.int x1, .int x2, .int x3] : List Value).toArray below meth c s.heap [] 0 0 (Qi below G ([]) o A0 ([.int x1, .int x2, .int x3] : List Value).toArray s) (F0 m 0 ls [])
  have J0 : ∀ (t0_13 : Int32) (H : Heap) (locs : List Loc) (ls : Array Slot), f_X6_doesSleep_13 x1 x3 t0_13 = some o → Wd G A0 s ([]) H locs → lv_has ls 4 [(0, .int x1), (2, .int x3)] → W p l e rmX6_doesSleep s m ([.int x1, .int x2, .int x3] : List Value).toArray below meth c H locs 0 0 (Qi below G ([]) o A0 ([.int x1, .int x2, .int x3] : List Value).toArray s) (F0 m 13 ls [.int t0_13]) := by
    intro t0_13 H locs ls h hW hl
    refine lv_istore_n (lv' := [(3, .int t0_13), (0, .int x1), (2, .int x3)]) hx hb dX6_doesSleep_13 rfl hl (by decide) rfl (fun ls hl => ?_)
    refine lv_iload_n hx hb dX6_doesSleep_14 rfl (lv_at hl 1 rfl) ?_
    obtain ⟨ht_15_0, h⟩ := of_ite h
    by_cases c_15_0 : x1 = (2 : Int32)
    · have h := ht_15_0 c_15_0
      refine x_tableIn c_15_0 hx hb dX6_doesSleep_15 (by decide) (by decide) (off := (29)) rfl (tgt := 44) (by decide) ?_
      refine lv_iload_n hx hb dX6_doesSleep_44 rfl (lv_at hl 0 rfl) ?_
      obtain ⟨g_45, h⟩ := of_guard h
      obtain rfl := Option.some.inj h
      exact x_retz F hr hW g_45 rfl dX6_doesSleep_45
    have h := h c_15_0
    obtain ⟨ht_15_1, h⟩ := of_ite h
    by_cases c_15_1 : x1 = (3 : Int32)
    · have h := ht_15_1 c_15_1
      refine x_tableIn c_15_1 hx hb dX6_doesSleep_15 (by decide) (by decide) (off := (29)) rfl (tgt := 44) (by decide) ?_
      refine lv_iload_n hx hb dX6_doesSleep_44 rfl (lv_at hl 0 rfl) ?_
      obtain ⟨g_45, h⟩ := of_guard h
      obtain rfl := Option.some.inj h
      exact x_retz F hr hW g_45 rfl dX6_doesSleep_45
    have h := h c_15_1
    obtain ⟨ht_15_2, h⟩ := of_ite h
    by_cases c_15_2 : x1 = (4 : Int32)
    · have h := ht_15_2 c_15_2
      refine x_tableIn c_15_2 hx hb dX6_doesSleep_15 (by decide) (by decide) (off := (31)) rfl (tgt := 46) (by decide) ?_
      refine lv_iload_n hx hb dX6_doesSleep_46 rfl (lv_at hl 2 rfl) ?_
      refine lv_iconst (v := (2 : Int32)) hx hb dX6_doesSleep_47 (by decide) ?_
      refine lv_irem hx hb dX6_doesSleep_48 (by decide) ?_
      refine lv_iconst (v := (1 : Int32)) hx hb dX6_doesSleep_49 (by decide) ?_
      obtain ⟨ht_50, hf_50⟩ := of_ite h
      refine lv_icmp_ne (tgt := 57) hx hb dX6_doesSleep_50 (by decide) (fun c_50 => ?_) (fun c_50 => ?_)
      · have h := hf_50 c_50
        refine lv_iconst (v := (0 : Int32)) hx hb dX6_doesSleep_57 (by decide) ?_
        obtain rfl := Option.some.inj h
        exact x_retz F hr hW (Or.inl rfl) rfl dX6_doesSleep_58
      · have h := ht_50 c_50
        refine lv_iconst (v := (1 : Int32)) hx hb dX6_doesSleep_53 (by decide) ?_
        refine lv_goto (tgt := 58) hx hb dX6_doesSleep_54 (by decide) ?_
        obtain rfl := Option.some.inj h
        exact x_retz F hr hW (Or.inr rfl) rfl dX6_doesSleep_58
    have h := h c_15_2
    obtain ⟨ht_15_3, h⟩ := of_ite h
    by_cases c_15_3 : x1 = (5 : Int32)
    · have h := ht_15_3 c_15_3
      refine x_tableIn c_15_3 hx hb dX6_doesSleep_15 (by decide) (by decide) (off := (44)) rfl (tgt := 59) (by decide) ?_
      refine lv_iload_n hx hb dX6_doesSleep_59 rfl (lv_at hl 0 rfl) ?_
      obtain ⟨ht_60, hf_60⟩ := of_ite h
      refine lv_if_ne (tgt := 69) hx hb dX6_doesSleep_60 (by decide) (fun c_60 => ?_) (fun c_60 => ?_)
      · have h := hf_60 c_60
        refine lv_iconst (v := (1 : Int32)) hx hb dX6_doesSleep_69 (by decide) ?_
        refine lv_goto (tgt := 74) hx hb dX6_doesSleep_70 (by decide) ?_
        obtain rfl := Option.some.inj h
        exact x_retz F hr hW (Or.inr rfl) rfl dX6_doesSleep_74
      · have h := ht_60 c_60
        refine lv_iload_n hx hb dX6_doesSleep_63 rfl (lv_at hl 2 rfl) ?_
        refine lv_iconst (v := (3 : Int32)) hx hb dX6_doesSleep_64 (by decide) ?_
        refine lv_irem hx hb dX6_doesSleep_65 (by decide) ?_
        obtain ⟨ht_66, hf_66⟩ := of_ite h
        refine lv_if_ne (tgt := 73) hx hb dX6_doesSleep_66 (by decide) (fun c_66 => ?_) (fun c_66 => ?_)
        · have h := hf_66 c_66
          refine lv_iconst (v := (0 : Int32)) hx hb dX6_doesSleep_73 (by decide) ?_
          obtain rfl := Option.some.inj h
          exact x_retz F hr hW (Or.inl rfl) rfl dX6_doesSleep_74
        · have h := ht_66 c_66
          refine lv_iconst (v := (1 : Int32)) hx hb dX6_doesSleep_69 (by decide) ?_
          refine lv_goto (tgt := 74) hx hb dX6_doesSleep_70 (by decide) ?_
          obtain rfl := Option.some.inj h
          exact x_retz F hr hW (Or.inr rfl) rfl dX6_doesSleep_74
    have h := h c_15_3
    refine lv_tableOut hx hb dX6_doesSleep_15 (by have z0 := x_ne c_15_0 (z := 2) (by decide); have z1 := x_ne c_15_1 (z := 3) (by decide); have z2 := x_ne c_15_2 (z := 4) (by decide); have z3 := x_ne c_15_3 (z := 5) (by decide); omega) (tgt := 75) (by decide) ?_
    refine lv_iconst (v := (0 : Int32)) hx hb dX6_doesSleep_75 (by decide) ?_
    obtain rfl := Option.some.inj h
    exact x_retz F hr hW (Or.inl rfl) rfl dX6_doesSleep_76
  refine lv_iload_n hx hb dX6_doesSleep_0 rfl (lv_at hl 2 rfl) ?_
  refine lv_iload_n hx hb dX6_doesSleep_1 rfl (lv_at hl 1 rfl) ?_
  refine lv_iconst (v := (2 : Int32)) hx hb dX6_doesSleep_2 (by decide) ?_
  refine lv_iadd hx hb dX6_doesSleep_3 ?_
  obtain ⟨g_4, h⟩ := of_nguard h
  refine lv_irem hx hb dX6_doesSleep_4 g_4 ?_
  obtain ⟨ht_5, hf_5⟩ := of_ite h
  refine lv_if_ne (tgt := 12) hx hb dX6_doesSleep_5 (by decide) (fun c_5 => ?_) (fun c_5 => ?_)
  · have h := hf_5 c_5
    refine lv_iconst (v := (0 : Int32)) hx hb dX6_doesSleep_12 (by decide) ?_
    exact J0 (0 : Int32) _ _ _ h hW (lv_sub hl [0, 2] rfl)
  · have h := ht_5 c_5
    refine lv_iconst (v := (1 : Int32)) hx hb dX6_doesSleep_8 (by decide) ?_
    refine lv_goto (tgt := 13) hx hb dX6_doesSleep_9 (by decide) ?_
    exact J0 (1 : Int32) _ _ _ h hW (lv_sub hl [0, 2] rfl)
def f_X6_burnsBy (x1 : Int32) : Option (Int32) :=
  if x1 = (1 : Int32) then
    some (2 : Int32)
    else
    if x1 = (4 : Int32) then
    some (2 : Int32)
    else
    if x1 = (5 : Int32) then
    some (2 : Int32)
    else
    some (1 : Int32)
abbrev rmX6_burnsBy : Room := { frames := 0, cells := 0, slots := 0, locals := 0 }
set_option maxRecDepth 100000 in
set_option maxHeartbeats 4000000 in
theorem c_X6_burnsBy (l : Launch) (G : EnT) (x1 : Int32) (o : Int32) (h : f_X6_burnsBy x1 = some o) : Mi l yX6_burnsBy rmX6_burnsBy cX6_burnsBy 1 (some .int) G false [.int x1] ([]) o ([]) := by
  refine Mi_of (by decide) (Nat.le_of_ble_eq_true rfl) ?_
  intro p e s m below meth c A0 F hr hW ls hl
  obtain ⟨hx, hb, hml, hown, hts, hK, hNW, hlocks, hA, hSX⟩ := id F
  have hl : lv_has ls 1 [(0, .int x1)] := hl
  have hW : Wd G A0 s ([]) s.heap [] := hW
  show W p l e rmX6_burnsBy s m ([.int x1] : List Value).toArray below meth c s.heap [] 0 0 (Qi below G ([]) o A0 ([.int x1] : List Value).toArray s) (F0 m 0 ls [])
  refine lv_iload_n hx hb dX6_burnsBy_0 rfl (lv_at hl 0 rfl) ?_
  refine lv_iconst (v := (1 : Int32)) hx hb dX6_burnsBy_1 (by decide) ?_
  obtain ⟨ht_2, hf_2⟩ := of_ite h
  refine lv_icmp_eq (tgt := 15) hx hb dX6_burnsBy_2 (by decide) (fun c_2 => ?_) (fun c_2 => ?_)
  · have h := ht_2 c_2
    refine lv_iconst (v := (2 : Int32)) hx hb dX6_burnsBy_15 (by decide) ?_
    refine lv_goto (tgt := 20) hx hb dX6_burnsBy_16 (by decide) ?_
    obtain rfl := Option.some.inj h
    exact x_reti F hr hW rfl dX6_burnsBy_20
  · have h := hf_2 c_2
    refine lv_iload_n hx hb dX6_burnsBy_5 rfl (lv_at hl 0 rfl) ?_
    refine lv_iconst (v := (4 : Int32)) hx hb dX6_burnsBy_6 (by decide) ?_
    obtain ⟨ht_7, hf_7⟩ := of_ite h
    refine lv_icmp_eq (tgt := 15) hx hb dX6_burnsBy_7 (by decide) (fun c_7 => ?_) (fun c_7 => ?_)
    · have h := ht_7 c_7
      refine lv_iconst (v := (2 : Int32)) hx hb dX6_burnsBy_15 (by decide) ?_
      refine lv_goto (tgt := 20) hx hb dX6_burnsBy_16 (by decide) ?_
      obtain rfl := Option.some.inj h
      exact x_reti F hr hW rfl dX6_burnsBy_20
    · have h := hf_7 c_7
      refine lv_iload_n hx hb dX6_burnsBy_10 rfl (lv_at hl 0 rfl) ?_
      refine lv_iconst (v := (5 : Int32)) hx hb dX6_burnsBy_11 (by decide) ?_
      obtain ⟨ht_12, hf_12⟩ := of_ite h
      refine lv_icmp_ne (tgt := 19) hx hb dX6_burnsBy_12 (by decide) (fun c_12 => ?_) (fun c_12 => ?_)
      · have h := hf_12 c_12
        refine lv_iconst (v := (1 : Int32)) hx hb dX6_burnsBy_19 (by decide) ?_
        obtain rfl := Option.some.inj h
        exact x_reti F hr hW rfl dX6_burnsBy_20
      · have h := ht_12 c_12
        refine lv_iconst (v := (2 : Int32)) hx hb dX6_burnsBy_15 (by decide) ?_
        refine lv_goto (tgt := 20) hx hb dX6_burnsBy_16 (by decide) ?_
        obtain rfl := Option.some.inj h
        exact x_reti F hr hW rfl dX6_burnsBy_20
def f_X6_isLit (w : (Nat → Int32)) (x1 : Int32) : Option (Int32) :=
  Option.bind (f_X6_of x1 (0 : Int32)) fun p_3 =>
    if inR p_3 71 then
    nm (w p_3.toNatClampNeg) fun x_7 =>
    Option.bind (f_X6_of x1 (3 : Int32)) fun p_11 =>
    if inR p_11 71 then
    Option.bind (f_X6_burnsBy x_7) fun p_16 =>
    if (w p_11.toNatClampNeg) < p_16 then
    some (0 : Int32)
    else
    Option.bind (f_X6_of x1 (4 : Int32)) fun p_25 =>
    if inR p_25 71 then
    if (w p_25.toNatClampNeg) = (1 : Int32) then
    some (1 : Int32)
    else
    Option.bind (f_X6_of x1 (1 : Int32)) fun p_37 =>
    if inR p_37 71 then
    if inR (1 : Int32) 71 then
    Option.bind (f_X6_doesSleep x_7 (w p_37.toNatClampNeg) (w (1 : Int32).toNatClampNeg)) fun p_44 =>
    if p_44 = 0 then
    some (1 : Int32)
    else
    some (0 : Int32)
    else none
    else none
    else none
    else none
    else none
abbrev rmX6_isLit : Room := { frames := 1, cells := 0, slots := 0, locals := 23 }
set_option maxRecDepth 100000 in
set_option maxHeartbeats 4000000 in
theorem c_X6_isLit (l : Launch) (G : EnT) (q : Nat → Nat) (w : (Nat → Int32)) (x1 : Int32) (o : Int32) (h : f_X6_isLit w x1 = some o) : Mi l yX6_isLit rmX6_isLit cX6_isLit 3 (some .boolean) G false [.ref (q 0), .int x1] (cAR G 71 q w) o (cAR G 71 q w) := by
  refine Mi_of (by decide) (Nat.le_of_ble_eq_true rfl) ?_
  intro p e s m below meth c A0 F hr hW ls hl
  obtain ⟨hx, hb, hml, hown, hts, hK, hNW, hlocks, hA, hSX⟩ := id F
  have hl : lv_has ls 3 [(0, .ref (q 0)), (1, .int x1)] := hl
  have hW : Wd G A0 s (cAR G 71 q w) s.heap [] := hW
  show W p l e rmX6_isLit s m ([.ref (q 0), .int x1] : List Value).toArray below meth c s.heap [] 0 0 (Qi below G (cAR G 71 q w) o A0 ([.ref (q 0), .int x1] : List Value).toArray s) (F0 m 0 ls [])
  refine lv_aload_n hx hb dX6_isLit_0 rfl (lv_at hl 0 rfl) ?_
  refine lv_iload_n hx hb dX6_isLit_1 rfl (lv_at hl 1 rfl) ?_
  refine lv_iconst (v := (0 : Int32)) hx hb dX6_isLit_2 (by decide) ?_
  obtain ⟨p_3, hc_3, h⟩ := of_bind h
  refine x_Si (av := [.int x1, .int (0 : Int32)]) F hW (c_X6_of l G x1 (0 : Int32) _ hc_3) [] rfl rfl (by intro q; cases q) cs_X6_47 rfl rfl hl (Nat.le_of_ble_eq_true rfl) ⟨Nat.le_of_ble_eq_true rfl, Nat.le_of_ble_eq_true rfl⟩ ⟨rfl, rfl⟩ ⟨Nat.le_of_ble_eq_true rfl, Nat.le_of_ble_eq_true rfl⟩ dX6_isLit_3 rfl [none] rfl (ws' := cAR G 71 q w) rfl (fun H locs hW => ?_)
  obtain ⟨g_6, h⟩ := of_guard h
  refine x_iald F hW 0 rfl g_6 dX6_isLit_6 ?_
  obtain ⟨x_7, e_x_7, h⟩ := of_nm h
  refine x_topi e_x_7 ?_
  refine lv_istore_n (lv' := [(2, .int x_7), (0, .ref (q 0)), (1, .int x1)]) hx hb dX6_isLit_7 rfl hl (by decide) rfl (fun ls hl => ?_)
  refine lv_aload_n hx hb dX6_isLit_8 rfl (lv_at hl 1 rfl) ?_
  refine lv_iload_n hx hb dX6_isLit_9 rfl (lv_at hl 2 rfl) ?_
  refine lv_iconst (v := (3 : Int32)) hx hb dX6_isLit_10 (by decide) ?_
  obtain ⟨p_11, hc_11, h⟩ := of_bind h
  refine x_Si (av := [.int x1, .int (3 : Int32)]) F hW (c_X6_of l G x1 (3 : Int32) _ hc_11) [] rfl rfl (by intro q; cases q) cs_X6_47 rfl rfl hl (Nat.le_of_ble_eq_true rfl) ⟨Nat.le_of_ble_eq_true rfl, Nat.le_of_ble_eq_true rfl⟩ ⟨rfl, rfl⟩ ⟨Nat.le_of_ble_eq_true rfl, Nat.le_of_ble_eq_true rfl⟩ dX6_isLit_11 rfl [none] rfl (ws' := cAR G 71 q w) rfl (fun H locs hW => ?_)
  obtain ⟨g_14, h⟩ := of_guard h
  refine x_iald F hW 0 rfl g_14 dX6_isLit_14 ?_
  refine lv_iload_n hx hb dX6_isLit_15 rfl (lv_at hl 0 rfl) ?_
  obtain ⟨p_16, hc_16, h⟩ := of_bind h
  refine x_Si (av := [.int x_7]) F hW (c_X6_burnsBy l G x_7 _ hc_16) [] rfl rfl (by intro q; cases q) cs_X6_51 rfl rfl hl (Nat.le_of_ble_eq_true rfl) ⟨Nat.le_of_ble_eq_true rfl, Nat.le_of_ble_eq_true rfl⟩ ⟨rfl, rfl⟩ ⟨Nat.le_of_ble_eq_true rfl, Nat.le_of_ble_eq_true rfl⟩ dX6_isLit_16 rfl [none] rfl (ws' := cAR G 71 q w) rfl (fun H locs hW => ?_)
  obtain ⟨ht_19, hf_19⟩ := of_ite h
  refine lv_icmp_lt (tgt := 54) hx hb dX6_isLit_19 (by decide) (fun c_19 => ?_) (fun c_19 => ?_)
  · have h := ht_19 c_19
    refine lv_iconst (v := (0 : Int32)) hx hb dX6_isLit_54 (by decide) ?_
    obtain rfl := Option.some.inj h
    exact x_retz F hr hW (Or.inl rfl) rfl dX6_isLit_55
  · have h := hf_19 c_19
    refine lv_aload_n hx hb dX6_isLit_22 rfl (lv_at hl 1 rfl) ?_
    refine lv_iload_n hx hb dX6_isLit_23 rfl (lv_at hl 2 rfl) ?_
    refine lv_iconst (v := (4 : Int32)) hx hb dX6_isLit_24 (by decide) ?_
    obtain ⟨p_25, hc_25, h⟩ := of_bind h
    refine x_Si (av := [.int x1, .int (4 : Int32)]) F hW (c_X6_of l G x1 (4 : Int32) _ hc_25) [] rfl rfl (by intro q; cases q) cs_X6_47 rfl rfl hl (Nat.le_of_ble_eq_true rfl) ⟨Nat.le_of_ble_eq_true rfl, Nat.le_of_ble_eq_true rfl⟩ ⟨rfl, rfl⟩ ⟨Nat.le_of_ble_eq_true rfl, Nat.le_of_ble_eq_true rfl⟩ dX6_isLit_25 rfl [none] rfl (ws' := cAR G 71 q w) rfl (fun H locs hW => ?_)
    obtain ⟨g_28, h⟩ := of_guard h
    refine x_iald F hW 0 rfl g_28 dX6_isLit_28 ?_
    refine lv_iconst (v := (1 : Int32)) hx hb dX6_isLit_29 (by decide) ?_
    obtain ⟨ht_30, hf_30⟩ := of_ite h
    refine lv_icmp_eq (tgt := 50) hx hb dX6_isLit_30 (by decide) (fun c_30 => ?_) (fun c_30 => ?_)
    · have h := ht_30 c_30
      refine lv_iconst (v := (1 : Int32)) hx hb dX6_isLit_50 (by decide) ?_
      refine lv_goto (tgt := 55) hx hb dX6_isLit_51 (by decide) ?_
      obtain rfl := Option.some.inj h
      exact x_retz F hr hW (Or.inr rfl) rfl dX6_isLit_55
    · have h := hf_30 c_30
      refine lv_iload_n hx hb dX6_isLit_33 rfl (lv_at hl 0 rfl) ?_
      refine lv_aload_n hx hb dX6_isLit_34 rfl (lv_at hl 1 rfl) ?_
      refine lv_iload_n hx hb dX6_isLit_35 rfl (lv_at hl 2 rfl) ?_
      refine lv_iconst (v := (1 : Int32)) hx hb dX6_isLit_36 (by decide) ?_
      obtain ⟨p_37, hc_37, h⟩ := of_bind h
      refine x_Si (av := [.int x1, .int (1 : Int32)]) F hW (c_X6_of l G x1 (1 : Int32) _ hc_37) [] rfl rfl (by intro q; cases q) cs_X6_47 rfl rfl hl (Nat.le_of_ble_eq_true rfl) ⟨Nat.le_of_ble_eq_true rfl, Nat.le_of_ble_eq_true rfl⟩ ⟨rfl, rfl⟩ ⟨Nat.le_of_ble_eq_true rfl, Nat.le_of_ble_eq_true rfl⟩ dX6_isLit_37 rfl [none] rfl (ws' := cAR G 71 q w) rfl (fun H locs hW => ?_)
      obtain ⟨g_40, h⟩ := of_guard h
      refine x_iald F hW 0 rfl g_40 dX6_isLit_40 ?_
      refine lv_aload_n hx hb dX6_isLit_41 rfl (lv_at hl 1 rfl) ?_
      refine lv_iconst (v := (1 : Int32)) hx hb dX6_isLit_42 (by decide) ?_
      obtain ⟨g_43, h⟩ := of_guard h
      refine x_iald F hW 0 rfl g_43 dX6_isLit_43 ?_
      obtain ⟨p_44, hc_44, h⟩ := of_bind h
      refine x_Si (av := [.int x_7, .int (w p_37.toNatClampNeg), .int (w (1 : Int32).toNatClampNeg)]) F hW (c_X6_doesSleep l G x_7 (w p_37.toNatClampNeg) (w (1 : Int32).toNatClampNeg) _ hc_44) [] rfl rfl (by intro q; cases q) cs_X6_54 rfl rfl hl (Nat.le_of_ble_eq_true rfl) ⟨Nat.le_of_ble_eq_true rfl, Nat.le_of_ble_eq_true rfl⟩ ⟨rfl, rfl⟩ ⟨Nat.le_of_ble_eq_true rfl, Nat.le_of_ble_eq_true rfl⟩ dX6_isLit_44 rfl [none] rfl (ws' := cAR G 71 q w) rfl (fun H locs hW => ?_)
      obtain ⟨ht_47, hf_47⟩ := of_ite h
      refine lv_if_ne (tgt := 54) hx hb dX6_isLit_47 (by decide) (fun c_47 => ?_) (fun c_47 => ?_)
      · have h := hf_47 c_47
        refine lv_iconst (v := (0 : Int32)) hx hb dX6_isLit_54 (by decide) ?_
        obtain rfl := Option.some.inj h
        exact x_retz F hr hW (Or.inl rfl) rfl dX6_isLit_55
      · have h := ht_47 c_47
        refine lv_iconst (v := (1 : Int32)) hx hb dX6_isLit_50 (by decide) ?_
        refine lv_goto (tgt := 55) hx hb dX6_isLit_51 (by decide) ?_
        obtain rfl := Option.some.inj h
        exact x_retz F hr hW (Or.inr rfl) rfl dX6_isLit_55
def f_X6_eye (w : (Nat → Int32)) (x1 : Int32) : Option (Int32) :=
  if x1 = (99 : Int32) then
    some (0 : Int32)
    else
    Option.bind (f_X6_of x1 (2 : Int32)) fun p_15 =>
    if inR p_15 71 then
    if inR ((3 : Int32) + (w p_15.toNatClampNeg)) 71 then
    Option.bind (f_X6_of x1 (0 : Int32)) fun p_24 =>
    if inR p_24 71 then
    Option.bind (f_X6_of x1 (1 : Int32)) fun p_31 =>
    if inR p_31 71 then
    Option.bind (f_X6_candleBy (w p_24.toNatClampNeg) (w p_31.toNatClampNeg)) fun p_35 =>
    Option.bind (f_X6_of x1 (5 : Int32)) fun p_42 =>
    if inR p_42 71 then
    some (((w ((3 : Int32) + (w p_15.toNatClampNeg)).toNatClampNeg) + p_35) + (w p_42.toNatClampNeg))
    else none
    else none
    else none
    else none
    else none
abbrev rmX6_eye : Room := { frames := 1, cells := 0, slots := 0, locals := 21 }
set_option maxRecDepth 100000 in
set_option maxHeartbeats 4000000 in
theorem c_X6_eye (l : Launch) (G : EnT) (q : Nat → Nat) (w : (Nat → Int32)) (x1 : Int32) (o : Int32) (h : f_X6_eye w x1 = some o) : Mi l yX6_eye rmX6_eye cX6_eye 2 (some .int) G false [.ref (q 0), .int x1] (cAR G 71 q w) o (cAR G 71 q w) := by
  refine Mi_of (by decide) (Nat.le_of_ble_eq_true rfl) ?_
  intro p e s m below meth c A0 F hr hW ls hl
  obtain ⟨hx, hb, hml, hown, hts, hK, hNW, hlocks, hA, hSX⟩ := id F
  have hl : lv_has ls 2 [(0, .ref (q 0)), (1, .int x1)] := hl
  have hW : Wd G A0 s (cAR G 71 q w) s.heap [] := hW
  show W p l e rmX6_eye s m ([.ref (q 0), .int x1] : List Value).toArray below meth c s.heap [] 0 0 (Qi below G (cAR G 71 q w) o A0 ([.ref (q 0), .int x1] : List Value).toArray s) (F0 m 0 ls [])
  refine lv_iload_n hx hb dX6_eye_0 rfl (lv_at hl 1 rfl) ?_
  refine lv_bipush (v := (99 : Int32)) hx hb dX6_eye_1 (by decide) ?_
  obtain ⟨ht_3, hf_3⟩ := of_ite h
  refine lv_icmp_ne (tgt := 10) hx hb dX6_eye_3 (by decide) (fun c_3 => ?_) (fun c_3 => ?_)
  · have h := hf_3 c_3
    refine lv_aload_n hx hb dX6_eye_10 rfl (lv_at hl 0 rfl) ?_
    refine lv_iconst (v := (3 : Int32)) hx hb dX6_eye_11 (by decide) ?_
    refine lv_aload_n hx hb dX6_eye_12 rfl (lv_at hl 0 rfl) ?_
    refine lv_iload_n hx hb dX6_eye_13 rfl (lv_at hl 1 rfl) ?_
    refine lv_iconst (v := (2 : Int32)) hx hb dX6_eye_14 (by decide) ?_
    obtain ⟨p_15, hc_15, h⟩ := of_bind h
    refine x_Si (av := [.int x1, .int (2 : Int32)]) F hW (c_X6_of l G x1 (2 : Int32) _ hc_15) [] rfl rfl (by intro q; cases q) cs_X6_47 rfl rfl hl (Nat.le_of_ble_eq_true rfl) ⟨Nat.le_of_ble_eq_true rfl, Nat.le_of_ble_eq_true rfl⟩ ⟨rfl, rfl⟩ ⟨Nat.le_of_ble_eq_true rfl, Nat.le_of_ble_eq_true rfl⟩ dX6_eye_15 rfl [none] rfl (ws' := cAR G 71 q w) rfl (fun H locs hW => ?_)
    obtain ⟨g_18, h⟩ := of_guard h
    refine x_iald F hW 0 rfl g_18 dX6_eye_18 ?_
    refine lv_iadd hx hb dX6_eye_19 ?_
    obtain ⟨g_20, h⟩ := of_guard h
    refine x_iald F hW 0 rfl g_20 dX6_eye_20 ?_
    refine lv_aload_n hx hb dX6_eye_21 rfl (lv_at hl 0 rfl) ?_
    refine lv_iload_n hx hb dX6_eye_22 rfl (lv_at hl 1 rfl) ?_
    refine lv_iconst (v := (0 : Int32)) hx hb dX6_eye_23 (by decide) ?_
    obtain ⟨p_24, hc_24, h⟩ := of_bind h
    refine x_Si (av := [.int x1, .int (0 : Int32)]) F hW (c_X6_of l G x1 (0 : Int32) _ hc_24) [] rfl rfl (by intro q; cases q) cs_X6_47 rfl rfl hl (Nat.le_of_ble_eq_true rfl) ⟨Nat.le_of_ble_eq_true rfl, Nat.le_of_ble_eq_true rfl⟩ ⟨rfl, rfl⟩ ⟨Nat.le_of_ble_eq_true rfl, Nat.le_of_ble_eq_true rfl⟩ dX6_eye_24 rfl [none] rfl (ws' := cAR G 71 q w) rfl (fun H locs hW => ?_)
    obtain ⟨g_27, h⟩ := of_guard h
    refine x_iald F hW 0 rfl g_27 dX6_eye_27 ?_
    refine lv_aload_n hx hb dX6_eye_28 rfl (lv_at hl 0 rfl) ?_
    refine lv_iload_n hx hb dX6_eye_29 rfl (lv_at hl 1 rfl) ?_
    refine lv_iconst (v := (1 : Int32)) hx hb dX6_eye_30 (by decide) ?_
    obtain ⟨p_31, hc_31, h⟩ := of_bind h
    refine x_Si (av := [.int x1, .int (1 : Int32)]) F hW (c_X6_of l G x1 (1 : Int32) _ hc_31) [] rfl rfl (by intro q; cases q) cs_X6_47 rfl rfl hl (Nat.le_of_ble_eq_true rfl) ⟨Nat.le_of_ble_eq_true rfl, Nat.le_of_ble_eq_true rfl⟩ ⟨rfl, rfl⟩ ⟨Nat.le_of_ble_eq_true rfl, Nat.le_of_ble_eq_true rfl⟩ dX6_eye_31 rfl [none] rfl (ws' := cAR G 71 q w) rfl (fun H locs hW => ?_)
    obtain ⟨g_34, h⟩ := of_guard h
    refine x_iald F hW 0 rfl g_34 dX6_eye_34 ?_
    obtain ⟨p_35, hc_35, h⟩ := of_bind h
    refine x_Si (av := [.int (w p_24.toNatClampNeg), .int (w p_31.toNatClampNeg)]) F hW (c_X6_candleBy l G (w p_24.toNatClampNeg) (w p_31.toNatClampNeg) _ hc_35) [] rfl rfl (by intro q; cases q) cs_X6_57 rfl rfl hl (Nat.le_of_ble_eq_true rfl) ⟨Nat.le_of_ble_eq_true rfl, Nat.le_of_ble_eq_true rfl⟩ ⟨rfl, rfl⟩ ⟨Nat.le_of_ble_eq_true rfl, Nat.le_of_ble_eq_true rfl⟩ dX6_eye_35 rfl [none] rfl (ws' := cAR G 71 q w) rfl (fun H locs hW => ?_)
    refine lv_iadd hx hb dX6_eye_38 ?_
    refine lv_aload_n hx hb dX6_eye_39 rfl (lv_at hl 0 rfl) ?_
    refine lv_iload_n hx hb dX6_eye_40 rfl (lv_at hl 1 rfl) ?_
    refine lv_iconst (v := (5 : Int32)) hx hb dX6_eye_41 (by decide) ?_
    obtain ⟨p_42, hc_42, h⟩ := of_bind h
    refine x_Si (av := [.int x1, .int (5 : Int32)]) F hW (c_X6_of l G x1 (5 : Int32) _ hc_42) [] rfl rfl (by intro q; cases q) cs_X6_47 rfl rfl hl (Nat.le_of_ble_eq_true rfl) ⟨Nat.le_of_ble_eq_true rfl, Nat.le_of_ble_eq_true rfl⟩ ⟨rfl, rfl⟩ ⟨Nat.le_of_ble_eq_true rfl, Nat.le_of_ble_eq_true rfl⟩ dX6_eye_42 rfl [none] rfl (ws' := cAR G 71 q w) rfl (fun H locs hW => ?_)
    obtain ⟨g_45, h⟩ := of_guard h
    refine x_iald F hW 0 rfl g_45 dX6_eye_45 ?_
    refine lv_iadd hx hb dX6_eye_46 ?_
    obtain rfl := Option.some.inj h
    exact x_reti F hr hW rfl dX6_eye_47
  · have h := ht_3 c_3
    refine lv_iconst (v := (0 : Int32)) hx hb dX6_eye_6 (by decide) ?_
    refine lv_goto (tgt := 47) hx hb dX6_eye_7 (by decide) ?_
    obtain rfl := Option.some.inj h
    exact x_reti F hr hW rfl dX6_eye_47
def f_X6_cellOf (w : (Nat → Int32)) (x1 : Int32) : Option (Int32) :=
  if x1 = (99 : Int32) then
    some (20 : Int32)
    else
    Option.bind (f_X6_of x1 (2 : Int32)) fun p_14 =>
    if inR p_14 71 then
    some (w p_14.toNatClampNeg)
    else none
abbrev rmX6_cellOf : Room := { frames := 1, cells := 0, slots := 0, locals := 21 }
set_option maxRecDepth 100000 in
set_option maxHeartbeats 4000000 in
theorem c_X6_cellOf (l : Launch) (G : EnT) (q : Nat → Nat) (w : (Nat → Int32)) (x1 : Int32) (o : Int32) (h : f_X6_cellOf w x1 = some o) : Mi l yX6_cellOf rmX6_cellOf cX6_cellOf 2 (some .int) G false [.ref (q 0), .int x1] (cAR G 71 q w) o (cAR G 71 q w) := by
  refine Mi_of (by decide) (Nat.le_of_ble_eq_true rfl) ?_
  intro p e s m below meth c A0 F hr hW ls hl
  obtain ⟨hx, hb, hml, hown, hts, hK, hNW, hlocks, hA, hSX⟩ := id F
  have hl : lv_has ls 2 [(0, .ref (q 0)), (1, .int x1)] := hl
  have hW : Wd G A0 s (cAR G 71 q w) s.heap [] := hW
  show W p l e rmX6_cellOf s m ([.ref (q 0), .int x1] : List Value).toArray below meth c s.heap [] 0 0 (Qi below G (cAR G 71 q w) o A0 ([.ref (q 0), .int x1] : List Value).toArray s) (F0 m 0 ls [])
  refine lv_iload_n hx hb dX6_cellOf_0 rfl (lv_at hl 1 rfl) ?_
  refine lv_bipush (v := (99 : Int32)) hx hb dX6_cellOf_1 (by decide) ?_
  obtain ⟨ht_3, hf_3⟩ := of_ite h
  refine lv_icmp_ne (tgt := 11) hx hb dX6_cellOf_3 (by decide) (fun c_3 => ?_) (fun c_3 => ?_)
  · have h := hf_3 c_3
    refine lv_aload_n hx hb dX6_cellOf_11 rfl (lv_at hl 0 rfl) ?_
    refine lv_iload_n hx hb dX6_cellOf_12 rfl (lv_at hl 1 rfl) ?_
    refine lv_iconst (v := (2 : Int32)) hx hb dX6_cellOf_13 (by decide) ?_
    obtain ⟨p_14, hc_14, h⟩ := of_bind h
    refine x_Si (av := [.int x1, .int (2 : Int32)]) F hW (c_X6_of l G x1 (2 : Int32) _ hc_14) [] rfl rfl (by intro q; cases q) cs_X6_47 rfl rfl hl (Nat.le_of_ble_eq_true rfl) ⟨Nat.le_of_ble_eq_true rfl, Nat.le_of_ble_eq_true rfl⟩ ⟨rfl, rfl⟩ ⟨Nat.le_of_ble_eq_true rfl, Nat.le_of_ble_eq_true rfl⟩ dX6_cellOf_14 rfl [none] rfl (ws' := cAR G 71 q w) rfl (fun H locs hW => ?_)
    obtain ⟨g_17, h⟩ := of_guard h
    refine x_iald F hW 0 rfl g_17 dX6_cellOf_17 ?_
    obtain rfl := Option.some.inj h
    exact x_reti F hr hW rfl dX6_cellOf_18
  · have h := ht_3 c_3
    refine lv_bipush (v := (20 : Int32)) hx hb dX6_cellOf_6 (by decide) ?_
    refine lv_goto (tgt := 18) hx hb dX6_cellOf_8 (by decide) ?_
    obtain rfl := Option.some.inj h
    exact x_reti F hr hW rfl dX6_cellOf_18
def f_X6_above (w : (Nat → Int32)) (x1 : Int32) (x2 : Int32) (x3 : Int32) (x4 : Int32) (x5 : Int32) : Option (Int32) :=
  if inR ((3 : Int32) + x5) 71 then
    some ((((w ((3 : Int32) + x5).toNatClampNeg) * (x3 - x1)) - (x2 * (x3 - x5))) - (x4 * (x5 - x1)))
    else none
abbrev rmX6_above : Room := { frames := 0, cells := 0, slots := 0, locals := 0 }
set_option maxRecDepth 100000 in
set_option maxHeartbeats 4000000 in
theorem c_X6_above (l : Launch) (G : EnT) (q : Nat → Nat) (w : (Nat → Int32)) (x1 : Int32) (x2 : Int32) (x3 : Int32) (x4 : Int32) (x5 : Int32) (o : Int32) (h : f_X6_above w x1 x2 x3 x4 x5 = some o) : Mi l yX6_above rmX6_above cX6_above 6 (some .int) G false [.ref (q 0), .int x1, .int x2, .int x3, .int x4, .int x5] (cAR G 71 q w) o (cAR G 71 q w) := by
  refine Mi_of (by decide) (Nat.le_of_ble_eq_true rfl) ?_
  intro p e s m below meth c A0 F hr hW ls hl
  obtain ⟨hx, hb, hml, hown, hts, hK, hNW, hlocks, hA, hSX⟩ := id F
  have hl : lv_has ls 6 [(0, .ref (q 0)), (1, .int x1), (2, .int x2), (3, .int x3), (4, .int x4), (5, .int x5)] := hl
  have hW : Wd G A0 s (cAR G 71 q w) s.heap [] := hW
  show W p l e rmX6_above s m ([.ref (q 0), .int x1, .int x2, .int x3, .int x4, .int x5] : List Value).toArray below meth c s.heap [] 0 0 (Qi below G (cAR G 71 q w) o A0 ([.ref (q 0), .int x1, .int x2, .int x3, .int x4, .int x5] : List Value).toArray s) (F0 m 0 ls [])
  refine lv_aload_n hx hb dX6_above_0 rfl (lv_at hl 0 rfl) ?_
  refine lv_iconst (v := (3 : Int32)) hx hb dX6_above_1 (by decide) ?_
  refine lv_iload hx hb dX6_above_2 (lv_at hl 5 rfl) ?_
  refine lv_iadd hx hb dX6_above_4 ?_
  obtain ⟨g_5, h⟩ := of_guard h
  refine x_iald F hW 0 rfl g_5 dX6_above_5 ?_
  refine lv_iload_n hx hb dX6_above_6 rfl (lv_at hl 3 rfl) ?_
  refine lv_iload_n hx hb dX6_above_7 rfl (lv_at hl 1 rfl) ?_
  refine lv_isub hx hb dX6_above_8 ?_
  refine lv_imul hx hb dX6_above_9 ?_
  refine lv_iload_n hx hb dX6_above_10 rfl (lv_at hl 2 rfl) ?_
  refine lv_iload_n hx hb dX6_above_11 rfl (lv_at hl 3 rfl) ?_
  refine lv_iload hx hb dX6_above_12 (lv_at hl 5 rfl) ?_
  refine lv_isub hx hb dX6_above_14 ?_
  refine lv_imul hx hb dX6_above_15 ?_
  refine lv_isub hx hb dX6_above_16 ?_
  refine lv_iload hx hb dX6_above_17 (lv_at hl 4 rfl) ?_
  refine lv_iload hx hb dX6_above_19 (lv_at hl 5 rfl) ?_
  refine lv_iload_n hx hb dX6_above_21 rfl (lv_at hl 1 rfl) ?_
  refine lv_isub hx hb dX6_above_22 ?_
  refine lv_imul hx hb dX6_above_23 ?_
  refine lv_isub hx hb dX6_above_24 ?_
  obtain rfl := Option.some.inj h
  exact x_reti F hr hW rfl dX6_above_25
def f_X6_doesSee_88 (v7_82 : Int32) (w : (Nat → Int32)) (v4_82 : Int32) (v5_82 : Int32) (v6_82 : Int32) : Nat → Int32 → Option (Int32)
  | 0, _ => none
  | n1 + 1, v8_88 =>
    if v7_82 ≤ v8_88 then
    some (1 : Int32)
    else
    Option.bind (f_X6_eye w v4_82) fun p_101 =>
    Option.bind (f_X6_eye w v5_82) fun p_109 =>
    Option.bind (f_X6_above w v6_82 p_101 v7_82 p_109 v8_88) fun p_114 =>
    if p_114 < 0 then
    f_X6_doesSee_88 v7_82 w v4_82 v5_82 v6_82 n1 (v8_88 + (1 : Int32))
    else
    some (0 : Int32)
def f_X6_doesSee_82 (w : (Nat → Int32)) (v7_82 : Int32) (v6_82 : Int32) (v5_82 : Int32) (v4_82 : Int32) : Option (Int32) :=
  nm (v6_82 + (1 : Int32)) fun x_86 =>
    f_X6_doesSee_88 v7_82 w v4_82 v5_82 v6_82 200 x_86
def f_X6_doesSee_39 (w : (Nat → Int32)) (v4_39 : Int32) (t0_39 : Int32) : Option (Int32) :=
  Option.bind (f_X6_cellOf w v4_39) fun p_44 =>
    Option.bind (f_X6_cellOf w t0_39) fun p_52 =>
    if inR (2 : Int32) 71 then
    if (p_52 - p_44) ≤ ((20 : Int32) - ((2 : Int32) * (w (2 : Int32).toNatClampNeg))) then
    f_X6_doesSee_82 w p_52 p_44 t0_39 v4_39
    else
    if p_44 = p_52 then
    f_X6_doesSee_82 w p_52 p_44 t0_39 v4_39
    else
    some (0 : Int32)
    else none
def f_X6_doesSee_28 (x1 : Int32) (x2 : Int32) (w : (Nat → Int32)) (v3_28 : Int32) (t0_28 : Int32) : Option (Int32) :=
  if v3_28 = 0 then
    f_X6_doesSee_39 w t0_28 x1
    else
    f_X6_doesSee_39 w t0_28 x2
def f_X6_doesSee_18 (x2 : Int32) (x1 : Int32) (w : (Nat → Int32)) (t0_18 : Int32) : Option (Int32) :=
  if t0_18 = 0 then
    f_X6_doesSee_28 x1 x2 w t0_18 x2
    else
    f_X6_doesSee_28 x1 x2 w t0_18 x1
def f_X6_doesSee (w : (Nat → Int32)) (x1 : Int32) (x2 : Int32) : Option (Int32) :=
  Option.bind (f_X6_cellOf w x1) fun p_2 =>
    Option.bind (f_X6_cellOf w x2) fun p_7 =>
    if p_7 < p_2 then
    f_X6_doesSee_18 x2 x1 w (0 : Int32)
    else
    f_X6_doesSee_18 x2 x1 w (1 : Int32)
abbrev rmX6_doesSee : Room := { frames := 2, cells := 0, slots := 0, locals := 42 }
set_option maxRecDepth 100000 in
set_option maxHeartbeats 4000000 in
theorem c_X6_doesSee (l : Launch) (G : EnT) (q : Nat → Nat) (w : (Nat → Int32)) (x1 : Int32) (x2 : Int32) (o : Int32) (h : f_X6_doesSee w x1 x2 = some o) : Mi l yX6_doesSee rmX6_doesSee cX6_doesSee 9 (some .boolean) G false [.ref (q 0), .int x1, .int x2] (cAR G 71 q w) o (cAR G 71 q w) := by
  refine Mi_of (by decide) (Nat.le_of_ble_eq_true rfl) ?_
  intro p e s m below meth c A0 F hr hW ls hl
  obtain ⟨hx, hb, hml, hown, hts, hK, hNW, hlocks, hA, hSX⟩ := id F
  have hl : lv_has ls 9 [(0, .ref (q 0)), (1, .int x1), (2, .int x2)] := hl
  have hW : Wd G A0 s (cAR G 71 q w) s.heap [] := hW
  show W p l e rmX6_doesSee s m ([.ref (q 0), .int x1, .int x2] : List Value).toArray below meth c s.heap [] 0 0 (Qi below G (cAR G 71 q w) o A0 ([.ref (q 0), .int x1, .int x2] : List Value).toArray s) (F0 m 0 ls [])
  have J0 : ∀ (v7_82 : Int32) (v6_82 : Int32) (v5_82 : Int32) (v4_82 : Int32) (H : Heap) (locs : List Loc) (ls : Array Slot), f_X6_doesSee_82 w v7_82 v6_82 v5_82 v4_82 = some o → Wd G A0 s (cAR G 71 q w) H locs → lv_has ls 9 [(7, .int v7_82), (6, .int v6_82), (5, .int v5_82), (4, .int v4_82), (0, .ref (q 0))] → W p l e rmX6_doesSee s m ([.ref (q 0), .int x1, .int x2] : List Value).toArray below meth c H locs 0 0 (Qi below G (cAR G 71 q w) o A0 ([.ref (q 0), .int x1, .int x2] : List Value).toArray s) (F0 m 82 ls []) := by
    intro v7_82 v6_82 v5_82 v4_82 H locs ls h hW hl
    refine lv_iload hx hb dX6_doesSee_82 (lv_at hl 1 rfl) ?_
    refine lv_iconst (v := (1 : Int32)) hx hb dX6_doesSee_84 (by decide) ?_
    refine lv_iadd hx hb dX6_doesSee_85 ?_
    obtain ⟨x_86, e_x_86, h⟩ := of_nm h
    refine x_topi e_x_86 ?_
    refine lv_istore (lv' := [(8, .int x_86), (7, .int v7_82), (6, .int v6_82), (5, .int v5_82), (4, .int v4_82), (0, .ref (q 0))]) hx hb dX6_doesSee_86 hl (by decide) rfl (fun ls hl => ?_)
    have L1 : ∀ (n1 : Nat) (v8_88 : Int32) (H : Heap) (locs : List Loc) (ls : Array Slot), f_X6_doesSee_88 v7_82 w v4_82 v5_82 v6_82 n1 v8_88 = some o → Wd G A0 s (cAR G 71 q w) H locs → lv_has ls 9 [(8, .int v8_88), (7, .int v7_82), (6, .int v6_82), (5, .int v5_82), (4, .int v4_82), (0, .ref (q 0))] → W p l e rmX6_doesSee s m ([.ref (q 0), .int x1, .int x2] : List Value).toArray below meth c H locs 0 0 (Qi below G (cAR G 71 q w) o A0 ([.ref (q 0), .int x1, .int x2] : List Value).toArray s) (F0 m 88 ls []) := by
      intro n1
      induction n1 with
      | zero => intro v8_88 H locs ls h; cases (show (none : Option (Int32)) = some o from h)
      | succ n1 ih1 =>
        intro v8_88 H locs ls h hW hl
        refine lv_iload hx hb dX6_doesSee_88 (lv_at hl 0 rfl) ?_
        refine lv_iload hx hb dX6_doesSee_90 (lv_at hl 1 rfl) ?_
        obtain ⟨ht_92, hf_92⟩ := of_ite h
        refine lv_icmp_ge (tgt := 128) hx hb dX6_doesSee_92 (by decide) (fun c_92 => ?_) (fun c_92 => ?_)
        · have h := ht_92 c_92
          refine lv_iconst (v := (1 : Int32)) hx hb dX6_doesSee_128 (by decide) ?_
          obtain rfl := Option.some.inj h
          exact x_retz F hr hW (Or.inr rfl) rfl dX6_doesSee_129
        · have h := hf_92 c_92
          refine lv_aload_n hx hb dX6_doesSee_95 rfl (lv_at hl 5 rfl) ?_
          refine lv_iload hx hb dX6_doesSee_96 (lv_at hl 2 rfl) ?_
          refine lv_aload_n hx hb dX6_doesSee_98 rfl (lv_at hl 5 rfl) ?_
          refine lv_iload hx hb dX6_doesSee_99 (lv_at hl 4 rfl) ?_
          obtain ⟨p_101, hc_101, h⟩ := of_bind h
          refine x_Si (av := [.ref (q 0), .int v4_82]) F hW (c_X6_eye l G q w v4_82 _ hc_101) [0] rfl rfl (by intro q; cases q) cs_X6_64 rfl rfl hl (Nat.le_of_ble_eq_true rfl) ⟨Nat.le_of_ble_eq_true rfl, Nat.le_of_ble_eq_true rfl⟩ ⟨rfl, rfl⟩ ⟨Nat.le_of_ble_eq_true rfl, Nat.le_of_ble_eq_true rfl⟩ dX6_doesSee_101 rfl [some 0] rfl (ws' := cAR G 71 q w) rfl (fun H locs hW => ?_)
          refine lv_iload hx hb dX6_doesSee_104 (lv_at hl 1 rfl) ?_
          refine lv_aload_n hx hb dX6_doesSee_106 rfl (lv_at hl 5 rfl) ?_
          refine lv_iload hx hb dX6_doesSee_107 (lv_at hl 3 rfl) ?_
          obtain ⟨p_109, hc_109, h⟩ := of_bind h
          refine x_Si (av := [.ref (q 0), .int v5_82]) F hW (c_X6_eye l G q w v5_82 _ hc_109) [0] rfl rfl (by intro q; cases q) cs_X6_64 rfl rfl hl (Nat.le_of_ble_eq_true rfl) ⟨Nat.le_of_ble_eq_true rfl, Nat.le_of_ble_eq_true rfl⟩ ⟨rfl, rfl⟩ ⟨Nat.le_of_ble_eq_true rfl, Nat.le_of_ble_eq_true rfl⟩ dX6_doesSee_109 rfl [some 0] rfl (ws' := cAR G 71 q w) rfl (fun H locs hW => ?_)
          refine lv_iload hx hb dX6_doesSee_112 (lv_at hl 0 rfl) ?_
          obtain ⟨p_114, hc_114, h⟩ := of_bind h
          refine x_Si (av := [.ref (q 0), .int v6_82, .int p_101, .int v7_82, .int p_109, .int v8_88]) F hW (c_X6_above l G q w v6_82 p_101 v7_82 p_109 v8_88 _ hc_114) [0] rfl rfl (by intro q; cases q) cs_X6_67 rfl rfl hl (Nat.le_of_ble_eq_true rfl) ⟨Nat.le_of_ble_eq_true rfl, Nat.le_of_ble_eq_true rfl⟩ ⟨rfl, rfl⟩ ⟨Nat.le_of_ble_eq_true rfl, Nat.le_of_ble_eq_true rfl⟩ dX6_doesSee_114 rfl [some 0] rfl (ws' := cAR G 71 q w) rfl (fun H locs hW => ?_)
          obtain ⟨ht_117, hf_117⟩ := of_ite h
          refine lv_if_lt (tgt := 122) hx hb dX6_doesSee_117 (by decide) (fun c_117 => ?_) (fun c_117 => ?_)
          · have h := ht_117 c_117
            refine lv_iinc (v := (v8_88 + (1 : Int32))) (lv' := [(8, .int (v8_88 + (1 : Int32))), (7, .int v7_82), (6, .int v6_82), (5, .int v5_82), (4, .int v4_82), (0, .ref (q 0))]) hx hb dX6_doesSee_122 hl (k := 0) rfl rfl (by decide) rfl (fun ls hl => ?_)
            refine lv_goto (tgt := 88) hx hb dX6_doesSee_125 (by decide) ?_
            exact ih1 (v8_88 + (1 : Int32)) _ _ _ h hW (lv_sub hl [0, 1, 2, 3, 4, 5] rfl)
          · have h := hf_117 c_117
            refine lv_iconst (v := (0 : Int32)) hx hb dX6_doesSee_120 (by decide) ?_
            obtain rfl := Option.some.inj h
            exact x_retz F hr hW (Or.inl rfl) rfl dX6_doesSee_121
    exact L1 200 x_86 _ _ _ h hW (lv_sub hl [0, 1, 2, 3, 4, 5] rfl)
  have J2 : ∀ (v4_39 : Int32) (t0_39 : Int32) (H : Heap) (locs : List Loc) (ls : Array Slot), f_X6_doesSee_39 w v4_39 t0_39 = some o → Wd G A0 s (cAR G 71 q w) H locs → lv_has ls 9 [(4, .int v4_39), (0, .ref (q 0))] → W p l e rmX6_doesSee s m ([.ref (q 0), .int x1, .int x2] : List Value).toArray below meth c H locs 0 0 (Qi below G (cAR G 71 q w) o A0 ([.ref (q 0), .int x1, .int x2] : List Value).toArray s) (F0 m 39 ls [.int t0_39]) := by
    intro v4_39 t0_39 H locs ls h hW hl
    refine lv_istore (lv' := [(5, .int t0_39), (4, .int v4_39), (0, .ref (q 0))]) hx hb dX6_doesSee_39 hl (by decide) rfl (fun ls hl => ?_)
    refine lv_aload_n hx hb dX6_doesSee_41 rfl (lv_at hl 2 rfl) ?_
    refine lv_iload hx hb dX6_doesSee_42 (lv_at hl 1 rfl) ?_
    obtain ⟨p_44, hc_44, h⟩ := of_bind h
    refine x_Si (av := [.ref (q 0), .int v4_39]) F hW (c_X6_cellOf l G q w v4_39 _ hc_44) [0] rfl rfl (by intro q; cases q) cs_X6_60 rfl rfl hl (Nat.le_of_ble_eq_true rfl) ⟨Nat.le_of_ble_eq_true rfl, Nat.le_of_ble_eq_true rfl⟩ ⟨rfl, rfl⟩ ⟨Nat.le_of_ble_eq_true rfl, Nat.le_of_ble_eq_true rfl⟩ dX6_doesSee_44 rfl [some 0] rfl (ws' := cAR G 71 q w) rfl (fun H locs hW => ?_)
    refine lv_istore (lv' := [(6, .int p_44), (5, .int t0_39), (4, .int v4_39), (0, .ref (q 0))]) hx hb dX6_doesSee_47 hl (by decide) rfl (fun ls hl => ?_)
    refine lv_aload_n hx hb dX6_doesSee_49 rfl (lv_at hl 3 rfl) ?_
    refine lv_iload hx hb dX6_doesSee_50 (lv_at hl 1 rfl) ?_
    obtain ⟨p_52, hc_52, h⟩ := of_bind h
    refine x_Si (av := [.ref (q 0), .int t0_39]) F hW (c_X6_cellOf l G q w t0_39 _ hc_52) [0] rfl rfl (by intro q; cases q) cs_X6_60 rfl rfl hl (Nat.le_of_ble_eq_true rfl) ⟨Nat.le_of_ble_eq_true rfl, Nat.le_of_ble_eq_true rfl⟩ ⟨rfl, rfl⟩ ⟨Nat.le_of_ble_eq_true rfl, Nat.le_of_ble_eq_true rfl⟩ dX6_doesSee_52 rfl [some 0] rfl (ws' := cAR G 71 q w) rfl (fun H locs hW => ?_)
    refine lv_istore (lv' := [(7, .int p_52), (6, .int p_44), (5, .int t0_39), (4, .int v4_39), (0, .ref (q 0))]) hx hb dX6_doesSee_55 hl (by decide) rfl (fun ls hl => ?_)
    refine lv_iload hx hb dX6_doesSee_57 (lv_at hl 0 rfl) ?_
    refine lv_iload hx hb dX6_doesSee_59 (lv_at hl 1 rfl) ?_
    refine lv_isub hx hb dX6_doesSee_61 ?_
    refine lv_bipush (v := (20 : Int32)) hx hb dX6_doesSee_62 (by decide) ?_
    refine lv_iconst (v := (2 : Int32)) hx hb dX6_doesSee_64 (by decide) ?_
    refine lv_aload_n hx hb dX6_doesSee_65 rfl (lv_at hl 4 rfl) ?_
    refine lv_iconst (v := (2 : Int32)) hx hb dX6_doesSee_66 (by decide) ?_
    obtain ⟨g_67, h⟩ := of_guard h
    refine x_iald F hW 0 rfl g_67 dX6_doesSee_67 ?_
    refine lv_imul hx hb dX6_doesSee_68 ?_
    refine lv_isub hx hb dX6_doesSee_69 ?_
    obtain ⟨ht_70, hf_70⟩ := of_ite h
    refine lv_icmp_le (tgt := 82) hx hb dX6_doesSee_70 (by decide) (fun c_70 => ?_) (fun c_70 => ?_)
    · have h := ht_70 c_70
      exact J0 p_52 p_44 t0_39 v4_39 _ _ _ h hW (lv_sub hl [0, 1, 2, 3, 4] rfl)
    · have h := hf_70 c_70
      refine lv_iload hx hb dX6_doesSee_73 (lv_at hl 1 rfl) ?_
      refine lv_iload hx hb dX6_doesSee_75 (lv_at hl 0 rfl) ?_
      obtain ⟨ht_77, hf_77⟩ := of_ite h
      refine lv_icmp_eq (tgt := 82) hx hb dX6_doesSee_77 (by decide) (fun c_77 => ?_) (fun c_77 => ?_)
      · have h := ht_77 c_77
        exact J0 p_52 p_44 t0_39 v4_39 _ _ _ h hW (lv_sub hl [0, 1, 2, 3, 4] rfl)
      · have h := hf_77 c_77
        refine lv_iconst (v := (0 : Int32)) hx hb dX6_doesSee_80 (by decide) ?_
        obtain rfl := Option.some.inj h
        exact x_retz F hr hW (Or.inl rfl) rfl dX6_doesSee_81
  have J3 : ∀ (v3_28 : Int32) (t0_28 : Int32) (H : Heap) (locs : List Loc) (ls : Array Slot), f_X6_doesSee_28 x1 x2 w v3_28 t0_28 = some o → Wd G A0 s (cAR G 71 q w) H locs → lv_has ls 9 [(3, .int v3_28), (0, .ref (q 0)), (1, .int x1), (2, .int x2)] → W p l e rmX6_doesSee s m ([.ref (q 0), .int x1, .int x2] : List Value).toArray below meth c H locs 0 0 (Qi below G (cAR G 71 q w) o A0 ([.ref (q 0), .int x1, .int x2] : List Value).toArray s) (F0 m 28 ls [.int t0_28]) := by
    intro v3_28 t0_28 H locs ls h hW hl
    refine lv_istore (lv' := [(4, .int t0_28), (3, .int v3_28), (0, .ref (q 0)), (1, .int x1), (2, .int x2)]) hx hb dX6_doesSee_28 hl (by decide) rfl (fun ls hl => ?_)
    refine lv_iload_n hx hb dX6_doesSee_30 rfl (lv_at hl 1 rfl) ?_
    obtain ⟨ht_31, hf_31⟩ := of_ite h
    refine lv_if_eq (tgt := 38) hx hb dX6_doesSee_31 (by decide) (fun c_31 => ?_) (fun c_31 => ?_)
    · have h := ht_31 c_31
      refine lv_iload_n hx hb dX6_doesSee_38 rfl (lv_at hl 3 rfl) ?_
      exact J2 t0_28 x1 _ _ _ h hW (lv_sub hl [0, 2] rfl)
    · have h := hf_31 c_31
      refine lv_iload_n hx hb dX6_doesSee_34 rfl (lv_at hl 4 rfl) ?_
      refine lv_goto (tgt := 39) hx hb dX6_doesSee_35 (by decide) ?_
      exact J2 t0_28 x2 _ _ _ h hW (lv_sub hl [0, 2] rfl)
  have J4 : ∀ (t0_18 : Int32) (H : Heap) (locs : List Loc) (ls : Array Slot), f_X6_doesSee_18 x2 x1 w t0_18 = some o → Wd G A0 s (cAR G 71 q w) H locs → lv_has ls 9 [(0, .ref (q 0)), (1, .int x1), (2, .int x2)] → W p l e rmX6_doesSee s m ([.ref (q 0), .int x1, .int x2] : List Value).toArray below meth c H locs 0 0 (Qi below G (cAR G 71 q w) o A0 ([.ref (q 0), .int x1, .int x2] : List Value).toArray s) (F0 m 18 ls [.int t0_18]) := by
    intro t0_18 H locs ls h hW hl
    refine lv_istore_n (lv' := [(3, .int t0_18), (0, .ref (q 0)), (1, .int x1), (2, .int x2)]) hx hb dX6_doesSee_18 rfl hl (by decide) rfl (fun ls hl => ?_)
    refine lv_iload_n hx hb dX6_doesSee_19 rfl (lv_at hl 0 rfl) ?_
    obtain ⟨ht_20, hf_20⟩ := of_ite h
    refine lv_if_eq (tgt := 27) hx hb dX6_doesSee_20 (by decide) (fun c_20 => ?_) (fun c_20 => ?_)
    · have h := ht_20 c_20
      refine lv_iload_n hx hb dX6_doesSee_27 rfl (lv_at hl 3 rfl) ?_
      exact J3 t0_18 x2 _ _ _ h hW (lv_sub hl [0, 1, 2, 3] rfl)
    · have h := hf_20 c_20
      refine lv_iload_n hx hb dX6_doesSee_23 rfl (lv_at hl 2 rfl) ?_
      refine lv_goto (tgt := 28) hx hb dX6_doesSee_24 (by decide) ?_
      exact J3 t0_18 x1 _ _ _ h hW (lv_sub hl [0, 1, 2, 3] rfl)
  refine lv_aload_n hx hb dX6_doesSee_0 rfl (lv_at hl 0 rfl) ?_
  refine lv_iload_n hx hb dX6_doesSee_1 rfl (lv_at hl 1 rfl) ?_
  obtain ⟨p_2, hc_2, h⟩ := of_bind h
  refine x_Si (av := [.ref (q 0), .int x1]) F hW (c_X6_cellOf l G q w x1 _ hc_2) [0] rfl rfl (by intro q; cases q) cs_X6_60 rfl rfl hl (Nat.le_of_ble_eq_true rfl) ⟨Nat.le_of_ble_eq_true rfl, Nat.le_of_ble_eq_true rfl⟩ ⟨rfl, rfl⟩ ⟨Nat.le_of_ble_eq_true rfl, Nat.le_of_ble_eq_true rfl⟩ dX6_doesSee_2 rfl [some 0] rfl (ws' := cAR G 71 q w) rfl (fun H locs hW => ?_)
  refine lv_aload_n hx hb dX6_doesSee_5 rfl (lv_at hl 0 rfl) ?_
  refine lv_iload_n hx hb dX6_doesSee_6 rfl (lv_at hl 2 rfl) ?_
  obtain ⟨p_7, hc_7, h⟩ := of_bind h
  refine x_Si (av := [.ref (q 0), .int x2]) F hW (c_X6_cellOf l G q w x2 _ hc_7) [0] rfl rfl (by intro q; cases q) cs_X6_60 rfl rfl hl (Nat.le_of_ble_eq_true rfl) ⟨Nat.le_of_ble_eq_true rfl, Nat.le_of_ble_eq_true rfl⟩ ⟨rfl, rfl⟩ ⟨Nat.le_of_ble_eq_true rfl, Nat.le_of_ble_eq_true rfl⟩ dX6_doesSee_7 rfl [some 0] rfl (ws' := cAR G 71 q w) rfl (fun H locs hW => ?_)
  obtain ⟨ht_10, hf_10⟩ := of_ite h
  refine lv_icmp_gt (tgt := 17) hx hb dX6_doesSee_10 (by decide) (fun c_10 => ?_) (fun c_10 => ?_)
  · have h := ht_10 c_10
    refine lv_iconst (v := (0 : Int32)) hx hb dX6_doesSee_17 (by decide) ?_
    exact J4 (0 : Int32) _ _ _ h hW (lv_sub hl [0, 1, 2] rfl)
  · have h := hf_10 c_10
    refine lv_iconst (v := (1 : Int32)) hx hb dX6_doesSee_13 (by decide) ?_
    refine lv_goto (tgt := 18) hx hb dX6_doesSee_14 (by decide) ?_
    exact J4 (1 : Int32) _ _ _ h hW (lv_sub hl [0, 1, 2] rfl)
def f_X6_litIn_4 (w : (Nat → Int32)) : Nat → Int32 → Int32 → Option (Int32)
  | 0, _, _ => none
  | n0 + 1, v2_4, v1_4 =>
    if inR (0 : Int32) 71 then
    if (w (0 : Int32).toNatClampNeg) ≤ v2_4 then
    some v1_4
    else
    Option.bind (f_X6_isLit w v2_4) fun p_14 =>
    if p_14 = 0 then
    nm (v1_4 ||| (0 : Int32)) fun x_28 =>
    f_X6_litIn_4 w n0 (v2_4 + (1 : Int32)) x_28
    else
    nm (v1_4 ||| ((1 : Int32) <<< (v2_4 &&& 31))) fun x_28_2 =>
    f_X6_litIn_4 w n0 (v2_4 + (1 : Int32)) x_28_2
    else none
def f_X6_litIn (w : (Nat → Int32)) : Option (Int32) :=
  f_X6_litIn_4 w 200 (0 : Int32) (0 : Int32)
abbrev rmX6_litIn : Room := { frames := 2, cells := 0, slots := 0, locals := 45 }
set_option maxRecDepth 100000 in
set_option maxHeartbeats 4000000 in
theorem c_X6_litIn (l : Launch) (G : EnT) (q : Nat → Nat) (w : (Nat → Int32)) (o : Int32) (h : f_X6_litIn w = some o) : Mi l yX6_litIn rmX6_litIn cX6_litIn 3 (some .int) G false [.ref (q 0)] (cAR G 71 q w) o (cAR G 71 q w) := by
  refine Mi_of (by decide) (Nat.le_of_ble_eq_true rfl) ?_
  intro p e s m below meth c A0 F hr hW ls hl
  obtain ⟨hx, hb, hml, hown, hts, hK, hNW, hlocks, hA, hSX⟩ := id F
  have hl : lv_has ls 3 [(0, .ref (q 0))] := hl
  have hW : Wd G A0 s (cAR G 71 q w) s.heap [] := hW
  show W p l e rmX6_litIn s m ([.ref (q 0)] : List Value).toArray below meth c s.heap [] 0 0 (Qi below G (cAR G 71 q w) o A0 ([.ref (q 0)] : List Value).toArray s) (F0 m 0 ls [])
  refine lv_iconst (v := (0 : Int32)) hx hb dX6_litIn_0 (by decide) ?_
  refine lv_istore_n (lv' := [(1, .int (0 : Int32)), (0, .ref (q 0))]) hx hb dX6_litIn_1 rfl hl (by decide) rfl (fun ls hl => ?_)
  refine lv_iconst (v := (0 : Int32)) hx hb dX6_litIn_2 (by decide) ?_
  refine lv_istore_n (lv' := [(2, .int (0 : Int32)), (1, .int (0 : Int32)), (0, .ref (q 0))]) hx hb dX6_litIn_3 rfl hl (by decide) rfl (fun ls hl => ?_)
  have L0 : ∀ (n0 : Nat) (v2_4 : Int32) (v1_4 : Int32) (H : Heap) (locs : List Loc) (ls : Array Slot), f_X6_litIn_4 w n0 v2_4 v1_4 = some o → Wd G A0 s (cAR G 71 q w) H locs → lv_has ls 3 [(2, .int v2_4), (1, .int v1_4), (0, .ref (q 0))] → W p l e rmX6_litIn s m ([.ref (q 0)] : List Value).toArray below meth c H locs 0 0 (Qi below G (cAR G 71 q w) o A0 ([.ref (q 0)] : List Value).toArray s) (F0 m 4 ls []) := by
    intro n0
    induction n0 with
    | zero => intro v2_4 v1_4 H locs ls h; cases (show (none : Option (Int32)) = some o from h)
    | succ n0 ih0 =>
      intro v2_4 v1_4 H locs ls h hW hl
      refine lv_iload_n hx hb dX6_litIn_4 rfl (lv_at hl 0 rfl) ?_
      refine lv_aload_n hx hb dX6_litIn_5 rfl (lv_at hl 2 rfl) ?_
      refine lv_iconst (v := (0 : Int32)) hx hb dX6_litIn_6 (by decide) ?_
      obtain ⟨g_7, h⟩ := of_guard h
      refine x_iald F hW 0 rfl g_7 dX6_litIn_7 ?_
      obtain ⟨ht_8, hf_8⟩ := of_ite h
      refine lv_icmp_ge (tgt := 35) hx hb dX6_litIn_8 (by decide) (fun c_8 => ?_) (fun c_8 => ?_)
      · have h := ht_8 c_8
        refine lv_iload_n hx hb dX6_litIn_35 rfl (lv_at hl 1 rfl) ?_
        obtain rfl := Option.some.inj h
        exact x_reti F hr hW rfl dX6_litIn_36
      · have h := hf_8 c_8
        refine lv_iload_n hx hb dX6_litIn_11 rfl (lv_at hl 1 rfl) ?_
        refine lv_aload_n hx hb dX6_litIn_12 rfl (lv_at hl 2 rfl) ?_
        refine lv_iload_n hx hb dX6_litIn_13 rfl (lv_at hl 0 rfl) ?_
        obtain ⟨p_14, hc_14, h⟩ := of_bind h
        refine x_Si (av := [.ref (q 0), .int v2_4]) F hW (c_X6_isLit l G q w v2_4 _ hc_14) [0] rfl rfl (by intro q; cases q) cs_X6_71 rfl rfl hl (Nat.le_of_ble_eq_true rfl) ⟨Nat.le_of_ble_eq_true rfl, Nat.le_of_ble_eq_true rfl⟩ ⟨rfl, rfl⟩ ⟨Nat.le_of_ble_eq_true rfl, Nat.le_of_ble_eq_true rfl⟩ dX6_litIn_14 rfl [some 0] rfl (ws' := cAR G 71 q w) rfl (fun H locs hW => ?_)
        obtain ⟨ht_17, hf_17⟩ := of_ite h
        refine lv_if_eq (tgt := 26) hx hb dX6_litIn_17 (by decide) (fun c_17 => ?_) (fun c_17 => ?_)
        · have h := ht_17 c_17
          refine lv_iconst (v := (0 : Int32)) hx hb dX6_litIn_26 (by decide) ?_
          refine lv_ior hx hb dX6_litIn_27 ?_
          obtain ⟨x_28, e_x_28, h⟩ := of_nm h
          refine x_topi e_x_28 ?_
          refine lv_istore_n (lv' := [(1, .int x_28), (2, .int v2_4), (0, .ref (q 0))]) hx hb dX6_litIn_28 rfl hl (by decide) rfl (fun ls hl => ?_)
          refine lv_iinc (v := (v2_4 + (1 : Int32))) (lv' := [(2, .int (v2_4 + (1 : Int32))), (1, .int x_28), (0, .ref (q 0))]) hx hb dX6_litIn_29 hl (k := 1) rfl rfl (by decide) rfl (fun ls hl => ?_)
          refine lv_goto (tgt := 4) hx hb dX6_litIn_32 (by decide) ?_
          exact ih0 (v2_4 + (1 : Int32)) x_28 _ _ _ h hW (lv_sub hl [0, 1, 2] rfl)
        · have h := hf_17 c_17
          refine lv_iconst (v := (1 : Int32)) hx hb dX6_litIn_20 (by decide) ?_
          refine lv_iload_n hx hb dX6_litIn_21 rfl (lv_at hl 0 rfl) ?_
          refine lv_ishl hx hb dX6_litIn_22 ?_
          refine lv_goto (tgt := 27) hx hb dX6_litIn_23 (by decide) ?_
          refine lv_ior hx hb dX6_litIn_27 ?_
          obtain ⟨x_28_2, e_x_28_2, h⟩ := of_nm h
          refine x_topi e_x_28_2 ?_
          refine lv_istore_n (lv' := [(1, .int x_28_2), (2, .int v2_4), (0, .ref (q 0))]) hx hb dX6_litIn_28 rfl hl (by decide) rfl (fun ls hl => ?_)
          refine lv_iinc (v := (v2_4 + (1 : Int32))) (lv' := [(2, .int (v2_4 + (1 : Int32))), (1, .int x_28_2), (0, .ref (q 0))]) hx hb dX6_litIn_29 hl (k := 1) rfl rfl (by decide) rfl (fun ls hl => ?_)
          refine lv_goto (tgt := 4) hx hb dX6_litIn_32 (by decide) ?_
          exact ih0 (v2_4 + (1 : Int32)) x_28_2 _ _ _ h hW (lv_sub hl [0, 1, 2] rfl)
  exact L0 200 (0 : Int32) (0 : Int32) _ _ _ h hW (lv_sub hl [0, 1, 2] rfl)
def f_X6_hangBy_88 (k2 : Int32 → Int32 → Option (Int32)) (w : (Nat → Int32)) (v4_56 : Int32) (v2_47 : Int32) : Nat → Int32 → Int32 → Option (Int32)
  | 0, _, _ => none
  | n3 + 1, v5_88, v3_88 =>
    if inR (0 : Int32) 71 then
    if (w (0 : Int32).toNatClampNeg) ≤ v5_88 then
    k2 (v4_56 + (1 : Int32)) v3_88
    else
    Option.bind (f_X6_has v2_47 v5_88) fun p_99 =>
    if p_99 = 0 then
    f_X6_hangBy_88 k2 w v4_56 v2_47 n3 (v5_88 + (1 : Int32)) v3_88
    else
    Option.bind (f_X6_doesSee w v4_56 v5_88) fun p_110 =>
    if p_110 = 0 then
    f_X6_hangBy_88 k2 w v4_56 v2_47 n3 (v5_88 + (1 : Int32)) v3_88
    else
    nm (v3_88 ||| ((1 : Int32) <<< (v4_56 &&& 31))) fun x_122 =>
    f_X6_hangBy_88 k2 w v4_56 v2_47 n3 (v5_88 + (1 : Int32)) x_122
    else none
def f_X6_hangBy_56 (k1 : Int32 → Int32 → Option (Int32)) (w : (Nat → Int32)) (v2_47 : Int32) (x1 : Int32) : Nat → Int32 → Int32 → Option (Int32)
  | 0, _, _ => none
  | n2 + 1, v4_56, v3_56 =>
    if inR (0 : Int32) 71 then
    if (w (0 : Int32).toNatClampNeg) ≤ v4_56 then
    nm (v2_47 ||| v3_56) fun x_138 =>
    k1 v3_56 x_138
    else
    Option.bind (f_X6_has x1 v4_56) fun p_67 =>
    if p_67 = 0 then
    f_X6_hangBy_56 k1 w v2_47 x1 n2 (v4_56 + (1 : Int32)) v3_56
    else
    Option.bind (f_X6_has v2_47 v4_56) fun p_76 =>
    if p_76 = 0 then
    f_X6_hangBy_88 (fun a0 a1 => f_X6_hangBy_56 k1 w v2_47 x1 n2 a0 a1) w v4_56 v2_47 200 (0 : Int32) v3_56
    else
    f_X6_hangBy_56 k1 w v2_47 x1 n2 (v4_56 + (1 : Int32)) v3_56
    else none
def f_X6_hangBy_47 (w : (Nat → Int32)) (x1 : Int32) : Nat → Int32 → Int32 → Option (Int32)
  | 0, _, _ => none
  | n1 + 1, v3_47, v2_47 =>
    if v3_47 = 0 then
    some v2_47
    else
    f_X6_hangBy_56 (fun a0 a1 => f_X6_hangBy_47 w x1 n1 a0 a1) w v2_47 x1 200 (0 : Int32) (0 : Int32)
def f_X6_hangBy_4 (w : (Nat → Int32)) (x1 : Int32) : Nat → Int32 → Int32 → Option (Int32)
  | 0, _, _ => none
  | n0 + 1, v3_4, v2_4 =>
    if inR (0 : Int32) 71 then
    if (w (0 : Int32).toNatClampNeg) ≤ v3_4 then
    f_X6_hangBy_47 w x1 200 v2_4 v2_4
    else
    Option.bind (f_X6_has x1 v3_4) fun p_14 =>
    if p_14 = 0 then
    nm (v2_4 ||| (0 : Int32)) fun x_38 =>
    f_X6_hangBy_4 w x1 n0 (v3_4 + (1 : Int32)) x_38
    else
    Option.bind (f_X6_doesSee w v3_4 (99 : Int32)) fun p_24 =>
    if p_24 = 0 then
    nm (v2_4 ||| (0 : Int32)) fun x_38_2 =>
    f_X6_hangBy_4 w x1 n0 (v3_4 + (1 : Int32)) x_38_2
    else
    nm (v2_4 ||| ((1 : Int32) <<< (v3_4 &&& 31))) fun x_38_3 =>
    f_X6_hangBy_4 w x1 n0 (v3_4 + (1 : Int32)) x_38_3
    else none
def f_X6_hangBy (w : (Nat → Int32)) (x1 : Int32) : Option (Int32) :=
  f_X6_hangBy_4 w x1 200 (0 : Int32) (0 : Int32)
abbrev rmX6_hangBy : Room := { frames := 3, cells := 0, slots := 0, locals := 70 }
set_option maxRecDepth 100000 in
set_option maxHeartbeats 4000000 in
theorem c_X6_hangBy (l : Launch) (G : EnT) (q : Nat → Nat) (w : (Nat → Int32)) (x1 : Int32) (o : Int32) (h : f_X6_hangBy w x1 = some o) : Mi l yX6_hangBy rmX6_hangBy cX6_hangBy 6 (some .int) G false [.ref (q 0), .int x1] (cAR G 71 q w) o (cAR G 71 q w) := by
  refine Mi_of (by decide) (Nat.le_of_ble_eq_true rfl) ?_
  intro p e s m below meth c A0 F hr hW ls hl
  obtain ⟨hx, hb, hml, hown, hts, hK, hNW, hlocks, hA, hSX⟩ := id F
  have hl : lv_has ls 6 [(0, .ref (q 0)), (1, .int x1)] := hl
  have hW : Wd G A0 s (cAR G 71 q w) s.heap [] := hW
  show W p l e rmX6_hangBy s m ([.ref (q 0), .int x1] : List Value).toArray below meth c s.heap [] 0 0 (Qi below G (cAR G 71 q w) o A0 ([.ref (q 0), .int x1] : List Value).toArray s) (F0 m 0 ls [])
  refine lv_iconst (v := (0 : Int32)) hx hb dX6_hangBy_0 (by decide) ?_
  refine lv_istore_n (lv' := [(2, .int (0 : Int32)), (0, .ref (q 0)), (1, .int x1)]) hx hb dX6_hangBy_1 rfl hl (by decide) rfl (fun ls hl => ?_)
  refine lv_iconst (v := (0 : Int32)) hx hb dX6_hangBy_2 (by decide) ?_
  refine lv_istore_n (lv' := [(3, .int (0 : Int32)), (2, .int (0 : Int32)), (0, .ref (q 0)), (1, .int x1)]) hx hb dX6_hangBy_3 rfl hl (by decide) rfl (fun ls hl => ?_)
  have L0 : ∀ (n0 : Nat) (v3_4 : Int32) (v2_4 : Int32) (H : Heap) (locs : List Loc) (ls : Array Slot), f_X6_hangBy_4 w x1 n0 v3_4 v2_4 = some o → Wd G A0 s (cAR G 71 q w) H locs → lv_has ls 6 [(3, .int v3_4), (2, .int v2_4), (0, .ref (q 0)), (1, .int x1)] → W p l e rmX6_hangBy s m ([.ref (q 0), .int x1] : List Value).toArray below meth c H locs 0 0 (Qi below G (cAR G 71 q w) o A0 ([.ref (q 0), .int x1] : List Value).toArray s) (F0 m 4 ls []) := by
    intro n0
    induction n0 with
    | zero => intro v3_4 v2_4 H locs ls h; cases (show (none : Option (Int32)) = some o from h)
    | succ n0 ih0 =>
      intro v3_4 v2_4 H locs ls h hW hl
      refine lv_iload_n hx hb dX6_hangBy_4 rfl (lv_at hl 0 rfl) ?_
      refine lv_aload_n hx hb dX6_hangBy_5 rfl (lv_at hl 2 rfl) ?_
      refine lv_iconst (v := (0 : Int32)) hx hb dX6_hangBy_6 (by decide) ?_
      obtain ⟨g_7, h⟩ := of_guard h
      refine x_iald F hW 0 rfl g_7 dX6_hangBy_7 ?_
      obtain ⟨ht_8, hf_8⟩ := of_ite h
      refine lv_icmp_ge (tgt := 45) hx hb dX6_hangBy_8 (by decide) (fun c_8 => ?_) (fun c_8 => ?_)
      · have h := ht_8 c_8
        refine lv_iload_n hx hb dX6_hangBy_45 rfl (lv_at hl 1 rfl) ?_
        refine lv_istore_n (lv' := [(3, .int v2_4), (2, .int v2_4), (0, .ref (q 0)), (1, .int x1)]) hx hb dX6_hangBy_46 rfl hl (by decide) rfl (fun ls hl => ?_)
        have L1 : ∀ (n1 : Nat) (v3_47 : Int32) (v2_47 : Int32) (H : Heap) (locs : List Loc) (ls : Array Slot), f_X6_hangBy_47 w x1 n1 v3_47 v2_47 = some o → Wd G A0 s (cAR G 71 q w) H locs → lv_has ls 6 [(3, .int v3_47), (2, .int v2_47), (0, .ref (q 0)), (1, .int x1)] → W p l e rmX6_hangBy s m ([.ref (q 0), .int x1] : List Value).toArray below meth c H locs 0 0 (Qi below G (cAR G 71 q w) o A0 ([.ref (q 0), .int x1] : List Value).toArray s) (F0 m 47 ls []) := by
          intro n1
          induction n1 with
          | zero => intro v3_47 v2_47 H locs ls h; cases (show (none : Option (Int32)) = some o from h)
          | succ n1 ih1 =>
            intro v3_47 v2_47 H locs ls h hW hl
            refine lv_iload_n hx hb dX6_hangBy_47 rfl (lv_at hl 0 rfl) ?_
            obtain ⟨ht_48, hf_48⟩ := of_ite h
            refine lv_if_eq (tgt := 142) hx hb dX6_hangBy_48 (by decide) (fun c_48 => ?_) (fun c_48 => ?_)
            · have h := ht_48 c_48
              refine lv_iload_n hx hb dX6_hangBy_142 rfl (lv_at hl 1 rfl) ?_
              obtain rfl := Option.some.inj h
              exact x_reti F hr hW rfl dX6_hangBy_143
            · have h := hf_48 c_48
              refine lv_iconst (v := (0 : Int32)) hx hb dX6_hangBy_51 (by decide) ?_
              refine lv_istore_n (lv' := [(3, .int (0 : Int32)), (2, .int v2_47), (0, .ref (q 0)), (1, .int x1)]) hx hb dX6_hangBy_52 rfl hl (by decide) rfl (fun ls hl => ?_)
              refine lv_iconst (v := (0 : Int32)) hx hb dX6_hangBy_53 (by decide) ?_
              refine lv_istore (lv' := [(4, .int (0 : Int32)), (3, .int (0 : Int32)), (2, .int v2_47), (0, .ref (q 0)), (1, .int x1)]) hx hb dX6_hangBy_54 hl (by decide) rfl (fun ls hl => ?_)
              have L2 : ∀ (n2 : Nat) (v4_56 : Int32) (v3_56 : Int32) (H : Heap) (locs : List Loc) (ls : Array Slot), f_X6_hangBy_56 (fun a0 a1 => f_X6_hangBy_47 w x1 n1 a0 a1) w v2_47 x1 n2 v4_56 v3_56 = some o → Wd G A0 s (cAR G 71 q w) H locs → lv_has ls 6 [(4, .int v4_56), (3, .int v3_56), (2, .int v2_47), (0, .ref (q 0)), (1, .int x1)] → W p l e rmX6_hangBy s m ([.ref (q 0), .int x1] : List Value).toArray below meth c H locs 0 0 (Qi below G (cAR G 71 q w) o A0 ([.ref (q 0), .int x1] : List Value).toArray s) (F0 m 56 ls []) := by
                intro n2
                induction n2 with
                | zero => intro v4_56 v3_56 H locs ls h; cases (show (none : Option (Int32)) = some o from h)
                | succ n2 ih2 =>
                  intro v4_56 v3_56 H locs ls h hW hl
                  refine lv_iload hx hb dX6_hangBy_56 (lv_at hl 0 rfl) ?_
                  refine lv_aload_n hx hb dX6_hangBy_58 rfl (lv_at hl 3 rfl) ?_
                  refine lv_iconst (v := (0 : Int32)) hx hb dX6_hangBy_59 (by decide) ?_
                  obtain ⟨g_60, h⟩ := of_guard h
                  refine x_iald F hW 0 rfl g_60 dX6_hangBy_60 ?_
                  obtain ⟨ht_61, hf_61⟩ := of_ite h
                  refine lv_icmp_ge (tgt := 135) hx hb dX6_hangBy_61 (by decide) (fun c_61 => ?_) (fun c_61 => ?_)
                  · have h := ht_61 c_61
                    refine lv_iload_n hx hb dX6_hangBy_135 rfl (lv_at hl 2 rfl) ?_
                    refine lv_iload_n hx hb dX6_hangBy_136 rfl (lv_at hl 1 rfl) ?_
                    refine lv_ior hx hb dX6_hangBy_137 ?_
                    obtain ⟨x_138, e_x_138, h⟩ := of_nm h
                    refine x_topi e_x_138 ?_
                    refine lv_istore_n (lv' := [(2, .int x_138), (4, .int v4_56), (3, .int v3_56), (0, .ref (q 0)), (1, .int x1)]) hx hb dX6_hangBy_138 rfl hl (by decide) rfl (fun ls hl => ?_)
                    refine lv_goto (tgt := 47) hx hb dX6_hangBy_139 (by decide) ?_
                    exact ih1 v3_56 x_138 _ _ _ h hW (lv_sub hl [2, 0, 3, 4] rfl)
                  · have h := hf_61 c_61
                    refine lv_iload_n hx hb dX6_hangBy_64 rfl (lv_at hl 4 rfl) ?_
                    refine lv_iload hx hb dX6_hangBy_65 (lv_at hl 0 rfl) ?_
                    obtain ⟨p_67, hc_67, h⟩ := of_bind h
                    refine x_Si (av := [.int x1, .int v4_56]) F hW (c_X6_has l G x1 v4_56 _ hc_67) [] rfl rfl (by intro q; cases q) cs_X6_75 rfl rfl hl (Nat.le_of_ble_eq_true rfl) ⟨Nat.le_of_ble_eq_true rfl, Nat.le_of_ble_eq_true rfl⟩ ⟨rfl, rfl⟩ ⟨Nat.le_of_ble_eq_true rfl, Nat.le_of_ble_eq_true rfl⟩ dX6_hangBy_67 rfl [none] rfl (ws' := cAR G 71 q w) rfl (fun H locs hW => ?_)
                    obtain ⟨ht_70, hf_70⟩ := of_ite h
                    refine lv_if_eq (tgt := 129) hx hb dX6_hangBy_70 (by decide) (fun c_70 => ?_) (fun c_70 => ?_)
                    · have h := ht_70 c_70
                      refine lv_iinc (v := (v4_56 + (1 : Int32))) (lv' := [(4, .int (v4_56 + (1 : Int32))), (3, .int v3_56), (2, .int v2_47), (0, .ref (q 0)), (1, .int x1)]) hx hb dX6_hangBy_129 hl (k := 0) rfl rfl (by decide) rfl (fun ls hl => ?_)
                      refine lv_goto (tgt := 56) hx hb dX6_hangBy_132 (by decide) ?_
                      exact ih2 (v4_56 + (1 : Int32)) v3_56 _ _ _ h hW (lv_sub hl [0, 1, 2, 3, 4] rfl)
                    · have h := hf_70 c_70
                      refine lv_iload_n hx hb dX6_hangBy_73 rfl (lv_at hl 2 rfl) ?_
                      refine lv_iload hx hb dX6_hangBy_74 (lv_at hl 0 rfl) ?_
                      obtain ⟨p_76, hc_76, h⟩ := of_bind h
                      refine x_Si (av := [.int v2_47, .int v4_56]) F hW (c_X6_has l G v2_47 v4_56 _ hc_76) [] rfl rfl (by intro q; cases q) cs_X6_75 rfl rfl hl (Nat.le_of_ble_eq_true rfl) ⟨Nat.le_of_ble_eq_true rfl, Nat.le_of_ble_eq_true rfl⟩ ⟨rfl, rfl⟩ ⟨Nat.le_of_ble_eq_true rfl, Nat.le_of_ble_eq_true rfl⟩ dX6_hangBy_76 rfl [none] rfl (ws' := cAR G 71 q w) rfl (fun H locs hW => ?_)
                      obtain ⟨ht_79, hf_79⟩ := of_ite h
                      refine lv_if_eq (tgt := 85) hx hb dX6_hangBy_79 (by decide) (fun c_79 => ?_) (fun c_79 => ?_)
                      · have h := ht_79 c_79
                        refine lv_iconst (v := (0 : Int32)) hx hb dX6_hangBy_85 (by decide) ?_
                        refine lv_istore (lv' := [(5, .int (0 : Int32)), (4, .int v4_56), (3, .int v3_56), (2, .int v2_47), (0, .ref (q 0)), (1, .int x1)]) hx hb dX6_hangBy_86 hl (by decide) rfl (fun ls hl => ?_)
                        have L3 : ∀ (n3 : Nat) (v5_88 : Int32) (v3_88 : Int32) (H : Heap) (locs : List Loc) (ls : Array Slot), f_X6_hangBy_88 (fun a0 a1 => f_X6_hangBy_56 (fun a0 a1 => f_X6_hangBy_47 w x1 n1 a0 a1) w v2_47 x1 n2 a0 a1) w v4_56 v2_47 n3 v5_88 v3_88 = some o → Wd G A0 s (cAR G 71 q w) H locs → lv_has ls 6 [(5, .int v5_88), (4, .int v4_56), (3, .int v3_88), (2, .int v2_47), (0, .ref (q 0)), (1, .int x1)] → W p l e rmX6_hangBy s m ([.ref (q 0), .int x1] : List Value).toArray below meth c H locs 0 0 (Qi below G (cAR G 71 q w) o A0 ([.ref (q 0), .int x1] : List Value).toArray s) (F0 m 88 ls []) := by
                          intro n3
                          induction n3 with
                          | zero => intro v5_88 v3_88 H locs ls h; cases (show (none : Option (Int32)) = some o from h)
                          | succ n3 ih3 =>
                            intro v5_88 v3_88 H locs ls h hW hl
                            refine lv_iload hx hb dX6_hangBy_88 (lv_at hl 0 rfl) ?_
                            refine lv_aload_n hx hb dX6_hangBy_90 rfl (lv_at hl 4 rfl) ?_
                            refine lv_iconst (v := (0 : Int32)) hx hb dX6_hangBy_91 (by decide) ?_
                            obtain ⟨g_92, h⟩ := of_guard h
                            refine x_iald F hW 0 rfl g_92 dX6_hangBy_92 ?_
                            obtain ⟨ht_93, hf_93⟩ := of_ite h
                            refine lv_icmp_ge (tgt := 129) hx hb dX6_hangBy_93 (by decide) (fun c_93 => ?_) (fun c_93 => ?_)
                            · have h := ht_93 c_93
                              refine lv_iinc (v := (v4_56 + (1 : Int32))) (lv' := [(4, .int (v4_56 + (1 : Int32))), (5, .int v5_88), (3, .int v3_88), (2, .int v2_47), (0, .ref (q 0)), (1, .int x1)]) hx hb dX6_hangBy_129 hl (k := 1) rfl rfl (by decide) rfl (fun ls hl => ?_)
                              refine lv_goto (tgt := 56) hx hb dX6_hangBy_132 (by decide) ?_
                              exact ih2 (v4_56 + (1 : Int32)) v3_88 _ _ _ h hW (lv_sub hl [0, 2, 3, 4, 5] rfl)
                            · have h := hf_93 c_93
                              refine lv_iload_n hx hb dX6_hangBy_96 rfl (lv_at hl 3 rfl) ?_
                              refine lv_iload hx hb dX6_hangBy_97 (lv_at hl 0 rfl) ?_
                              obtain ⟨p_99, hc_99, h⟩ := of_bind h
                              refine x_Si (av := [.int v2_47, .int v5_88]) F hW (c_X6_has l G v2_47 v5_88 _ hc_99) [] rfl rfl (by intro q; cases q) cs_X6_75 rfl rfl hl (Nat.le_of_ble_eq_true rfl) ⟨Nat.le_of_ble_eq_true rfl, Nat.le_of_ble_eq_true rfl⟩ ⟨rfl, rfl⟩ ⟨Nat.le_of_ble_eq_true rfl, Nat.le_of_ble_eq_true rfl⟩ dX6_hangBy_99 rfl [none] rfl (ws' := cAR G 71 q w) rfl (fun H locs hW => ?_)
                              obtain ⟨ht_102, hf_102⟩ := of_ite h
                              refine lv_if_eq (tgt := 123) hx hb dX6_hangBy_102 (by decide) (fun c_102 => ?_) (fun c_102 => ?_)
                              · have h := ht_102 c_102
                                refine lv_iinc (v := (v5_88 + (1 : Int32))) (lv' := [(5, .int (v5_88 + (1 : Int32))), (4, .int v4_56), (3, .int v3_88), (2, .int v2_47), (0, .ref (q 0)), (1, .int x1)]) hx hb dX6_hangBy_123 hl (k := 0) rfl rfl (by decide) rfl (fun ls hl => ?_)
                                refine lv_goto (tgt := 88) hx hb dX6_hangBy_126 (by decide) ?_
                                exact ih3 (v5_88 + (1 : Int32)) v3_88 _ _ _ h hW (lv_sub hl [0, 1, 2, 3, 4, 5] rfl)
                              · have h := hf_102 c_102
                                refine lv_aload_n hx hb dX6_hangBy_105 rfl (lv_at hl 4 rfl) ?_
                                refine lv_iload hx hb dX6_hangBy_106 (lv_at hl 1 rfl) ?_
                                refine lv_iload hx hb dX6_hangBy_108 (lv_at hl 0 rfl) ?_
                                obtain ⟨p_110, hc_110, h⟩ := of_bind h
                                refine x_Si (av := [.ref (q 0), .int v4_56, .int v5_88]) F hW (c_X6_doesSee l G q w v4_56 v5_88 _ hc_110) [0] rfl rfl (by intro q; cases q) cs_X6_79 rfl rfl hl (Nat.le_of_ble_eq_true rfl) ⟨Nat.le_of_ble_eq_true rfl, Nat.le_of_ble_eq_true rfl⟩ ⟨rfl, rfl⟩ ⟨Nat.le_of_ble_eq_true rfl, Nat.le_of_ble_eq_true rfl⟩ dX6_hangBy_110 rfl [some 0] rfl (ws' := cAR G 71 q w) rfl (fun H locs hW => ?_)
                                obtain ⟨ht_113, hf_113⟩ := of_ite h
                                refine lv_if_eq (tgt := 123) hx hb dX6_hangBy_113 (by decide) (fun c_113 => ?_) (fun c_113 => ?_)
                                · have h := ht_113 c_113
                                  refine lv_iinc (v := (v5_88 + (1 : Int32))) (lv' := [(5, .int (v5_88 + (1 : Int32))), (4, .int v4_56), (3, .int v3_88), (2, .int v2_47), (0, .ref (q 0)), (1, .int x1)]) hx hb dX6_hangBy_123 hl (k := 0) rfl rfl (by decide) rfl (fun ls hl => ?_)
                                  refine lv_goto (tgt := 88) hx hb dX6_hangBy_126 (by decide) ?_
                                  exact ih3 (v5_88 + (1 : Int32)) v3_88 _ _ _ h hW (lv_sub hl [0, 1, 2, 3, 4, 5] rfl)
                                · have h := hf_113 c_113
                                  refine lv_iload_n hx hb dX6_hangBy_116 rfl (lv_at hl 2 rfl) ?_
                                  refine lv_iconst (v := (1 : Int32)) hx hb dX6_hangBy_117 (by decide) ?_
                                  refine lv_iload hx hb dX6_hangBy_118 (lv_at hl 1 rfl) ?_
                                  refine lv_ishl hx hb dX6_hangBy_120 ?_
                                  refine lv_ior hx hb dX6_hangBy_121 ?_
                                  obtain ⟨x_122, e_x_122, h⟩ := of_nm h
                                  refine x_topi e_x_122 ?_
                                  refine lv_istore_n (lv' := [(3, .int x_122), (5, .int v5_88), (4, .int v4_56), (2, .int v2_47), (0, .ref (q 0)), (1, .int x1)]) hx hb dX6_hangBy_122 rfl hl (by decide) rfl (fun ls hl => ?_)
                                  refine lv_iinc (v := (v5_88 + (1 : Int32))) (lv' := [(5, .int (v5_88 + (1 : Int32))), (3, .int x_122), (4, .int v4_56), (2, .int v2_47), (0, .ref (q 0)), (1, .int x1)]) hx hb dX6_hangBy_123 hl (k := 1) rfl rfl (by decide) rfl (fun ls hl => ?_)
                                  refine lv_goto (tgt := 88) hx hb dX6_hangBy_126 (by decide) ?_
                                  exact ih3 (v5_88 + (1 : Int32)) x_122 _ _ _ h hW (lv_sub hl [0, 2, 1, 3, 4, 5] rfl)
                        exact L3 200 (0 : Int32) v3_56 _ _ _ h hW (lv_sub hl [0, 1, 2, 3, 4, 5] rfl)
                      · have h := hf_79 c_79
                        refine lv_goto (tgt := 129) hx hb dX6_hangBy_82 (by decide) ?_
                        refine lv_iinc (v := (v4_56 + (1 : Int32))) (lv' := [(4, .int (v4_56 + (1 : Int32))), (3, .int v3_56), (2, .int v2_47), (0, .ref (q 0)), (1, .int x1)]) hx hb dX6_hangBy_129 hl (k := 0) rfl rfl (by decide) rfl (fun ls hl => ?_)
                        refine lv_goto (tgt := 56) hx hb dX6_hangBy_132 (by decide) ?_
                        exact ih2 (v4_56 + (1 : Int32)) v3_56 _ _ _ h hW (lv_sub hl [0, 1, 2, 3, 4] rfl)
              exact L2 200 (0 : Int32) (0 : Int32) _ _ _ h hW (lv_sub hl [0, 1, 2, 3, 4] rfl)
        exact L1 200 v2_4 v2_4 _ _ _ h hW (lv_sub hl [0, 1, 2, 3] rfl)
      · have h := hf_8 c_8
        refine lv_iload_n hx hb dX6_hangBy_11 rfl (lv_at hl 1 rfl) ?_
        refine lv_iload_n hx hb dX6_hangBy_12 rfl (lv_at hl 3 rfl) ?_
        refine lv_iload_n hx hb dX6_hangBy_13 rfl (lv_at hl 0 rfl) ?_
        obtain ⟨p_14, hc_14, h⟩ := of_bind h
        refine x_Si (av := [.int x1, .int v3_4]) F hW (c_X6_has l G x1 v3_4 _ hc_14) [] rfl rfl (by intro q; cases q) cs_X6_75 rfl rfl hl (Nat.le_of_ble_eq_true rfl) ⟨Nat.le_of_ble_eq_true rfl, Nat.le_of_ble_eq_true rfl⟩ ⟨rfl, rfl⟩ ⟨Nat.le_of_ble_eq_true rfl, Nat.le_of_ble_eq_true rfl⟩ dX6_hangBy_14 rfl [none] rfl (ws' := cAR G 71 q w) rfl (fun H locs hW => ?_)
        obtain ⟨ht_17, hf_17⟩ := of_ite h
        refine lv_if_eq (tgt := 36) hx hb dX6_hangBy_17 (by decide) (fun c_17 => ?_) (fun c_17 => ?_)
        · have h := ht_17 c_17
          refine lv_iconst (v := (0 : Int32)) hx hb dX6_hangBy_36 (by decide) ?_
          refine lv_ior hx hb dX6_hangBy_37 ?_
          obtain ⟨x_38, e_x_38, h⟩ := of_nm h
          refine x_topi e_x_38 ?_
          refine lv_istore_n (lv' := [(2, .int x_38), (3, .int v3_4), (0, .ref (q 0)), (1, .int x1)]) hx hb dX6_hangBy_38 rfl hl (by decide) rfl (fun ls hl => ?_)
          refine lv_iinc (v := (v3_4 + (1 : Int32))) (lv' := [(3, .int (v3_4 + (1 : Int32))), (2, .int x_38), (0, .ref (q 0)), (1, .int x1)]) hx hb dX6_hangBy_39 hl (k := 1) rfl rfl (by decide) rfl (fun ls hl => ?_)
          refine lv_goto (tgt := 4) hx hb dX6_hangBy_42 (by decide) ?_
          exact ih0 (v3_4 + (1 : Int32)) x_38 _ _ _ h hW (lv_sub hl [0, 1, 2, 3] rfl)
        · have h := hf_17 c_17
          refine lv_aload_n hx hb dX6_hangBy_20 rfl (lv_at hl 2 rfl) ?_
          refine lv_iload_n hx hb dX6_hangBy_21 rfl (lv_at hl 0 rfl) ?_
          refine lv_bipush (v := (99 : Int32)) hx hb dX6_hangBy_22 (by decide) ?_
          obtain ⟨p_24, hc_24, h⟩ := of_bind h
          refine x_Si (av := [.ref (q 0), .int v3_4, .int (99 : Int32)]) F hW (c_X6_doesSee l G q w v3_4 (99 : Int32) _ hc_24) [0] rfl rfl (by intro q; cases q) cs_X6_79 rfl rfl hl (Nat.le_of_ble_eq_true rfl) ⟨Nat.le_of_ble_eq_true rfl, Nat.le_of_ble_eq_true rfl⟩ ⟨rfl, rfl⟩ ⟨Nat.le_of_ble_eq_true rfl, Nat.le_of_ble_eq_true rfl⟩ dX6_hangBy_24 rfl [some 0] rfl (ws' := cAR G 71 q w) rfl (fun H locs hW => ?_)
          obtain ⟨ht_27, hf_27⟩ := of_ite h
          refine lv_if_eq (tgt := 36) hx hb dX6_hangBy_27 (by decide) (fun c_27 => ?_) (fun c_27 => ?_)
          · have h := ht_27 c_27
            refine lv_iconst (v := (0 : Int32)) hx hb dX6_hangBy_36 (by decide) ?_
            refine lv_ior hx hb dX6_hangBy_37 ?_
            obtain ⟨x_38_2, e_x_38_2, h⟩ := of_nm h
            refine x_topi e_x_38_2 ?_
            refine lv_istore_n (lv' := [(2, .int x_38_2), (3, .int v3_4), (0, .ref (q 0)), (1, .int x1)]) hx hb dX6_hangBy_38 rfl hl (by decide) rfl (fun ls hl => ?_)
            refine lv_iinc (v := (v3_4 + (1 : Int32))) (lv' := [(3, .int (v3_4 + (1 : Int32))), (2, .int x_38_2), (0, .ref (q 0)), (1, .int x1)]) hx hb dX6_hangBy_39 hl (k := 1) rfl rfl (by decide) rfl (fun ls hl => ?_)
            refine lv_goto (tgt := 4) hx hb dX6_hangBy_42 (by decide) ?_
            exact ih0 (v3_4 + (1 : Int32)) x_38_2 _ _ _ h hW (lv_sub hl [0, 1, 2, 3] rfl)
          · have h := hf_27 c_27
            refine lv_iconst (v := (1 : Int32)) hx hb dX6_hangBy_30 (by decide) ?_
            refine lv_iload_n hx hb dX6_hangBy_31 rfl (lv_at hl 0 rfl) ?_
            refine lv_ishl hx hb dX6_hangBy_32 ?_
            refine lv_goto (tgt := 37) hx hb dX6_hangBy_33 (by decide) ?_
            refine lv_ior hx hb dX6_hangBy_37 ?_
            obtain ⟨x_38_3, e_x_38_3, h⟩ := of_nm h
            refine x_topi e_x_38_3 ?_
            refine lv_istore_n (lv' := [(2, .int x_38_3), (3, .int v3_4), (0, .ref (q 0)), (1, .int x1)]) hx hb dX6_hangBy_38 rfl hl (by decide) rfl (fun ls hl => ?_)
            refine lv_iinc (v := (v3_4 + (1 : Int32))) (lv' := [(3, .int (v3_4 + (1 : Int32))), (2, .int x_38_3), (0, .ref (q 0)), (1, .int x1)]) hx hb dX6_hangBy_39 hl (k := 1) rfl rfl (by decide) rfl (fun ls hl => ?_)
            refine lv_goto (tgt := 4) hx hb dX6_hangBy_42 (by decide) ?_
            exact ih0 (v3_4 + (1 : Int32)) x_38_3 _ _ _ h hW (lv_sub hl [0, 1, 2, 3] rfl)
  exact L0 200 (0 : Int32) (0 : Int32) _ _ _ h hW (lv_sub hl [0, 1, 2, 3] rfl)
def f_X6_hangIn (w : (Nat → Int32)) : Option (Int32) :=
  Option.bind (f_X6_litIn w) fun p_2 =>
    Option.bind (f_X6_hangBy w p_2) fun p_5 =>
    some p_5
abbrev rmX6_hangIn : Room := { frames := 4, cells := 0, slots := 0, locals := 95 }
set_option maxRecDepth 100000 in
set_option maxHeartbeats 4000000 in
theorem c_X6_hangIn (l : Launch) (G : EnT) (q : Nat → Nat) (w : (Nat → Int32)) (o : Int32) (h : f_X6_hangIn w = some o) : Mi l yX6_hangIn rmX6_hangIn cX6_hangIn 1 (some .int) G false [.ref (q 0)] (cAR G 71 q w) o (cAR G 71 q w) := by
  refine Mi_of (by decide) (Nat.le_of_ble_eq_true rfl) ?_
  intro p e s m below meth c A0 F hr hW ls hl
  obtain ⟨hx, hb, hml, hown, hts, hK, hNW, hlocks, hA, hSX⟩ := id F
  have hl : lv_has ls 1 [(0, .ref (q 0))] := hl
  have hW : Wd G A0 s (cAR G 71 q w) s.heap [] := hW
  show W p l e rmX6_hangIn s m ([.ref (q 0)] : List Value).toArray below meth c s.heap [] 0 0 (Qi below G (cAR G 71 q w) o A0 ([.ref (q 0)] : List Value).toArray s) (F0 m 0 ls [])
  refine lv_aload_n hx hb dX6_hangIn_0 rfl (lv_at hl 0 rfl) ?_
  refine lv_aload_n hx hb dX6_hangIn_1 rfl (lv_at hl 0 rfl) ?_
  obtain ⟨p_2, hc_2, h⟩ := of_bind h
  refine x_Si (av := [.ref (q 0)]) F hW (c_X6_litIn l G q w _ hc_2) [0] rfl rfl (by intro q; cases q) cs_X6_83 rfl rfl hl (Nat.le_of_ble_eq_true rfl) ⟨Nat.le_of_ble_eq_true rfl, Nat.le_of_ble_eq_true rfl⟩ ⟨rfl, rfl⟩ ⟨Nat.le_of_ble_eq_true rfl, Nat.le_of_ble_eq_true rfl⟩ dX6_hangIn_2 rfl [some 0] rfl (ws' := cAR G 71 q w) rfl (fun H locs hW => ?_)
  obtain ⟨p_5, hc_5, h⟩ := of_bind h
  refine x_Si (av := [.ref (q 0), .int p_2]) F hW (c_X6_hangBy l G q w p_2 _ hc_5) [0] rfl rfl (by intro q; cases q) cs_X6_87 rfl rfl hl (Nat.le_of_ble_eq_true rfl) ⟨Nat.le_of_ble_eq_true rfl, Nat.le_of_ble_eq_true rfl⟩ ⟨rfl, rfl⟩ ⟨Nat.le_of_ble_eq_true rfl, Nat.le_of_ble_eq_true rfl⟩ dX6_hangIn_5 rfl [some 0] rfl (ws' := cAR G 71 q w) rfl (fun H locs hW => ?_)
  obtain rfl := Option.some.inj h
  exact x_reti F hr hW rfl dX6_hangIn_8
