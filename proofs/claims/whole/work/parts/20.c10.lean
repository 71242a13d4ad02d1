def f_X5_refusalsCounted (w : EW) (x1 : Int32) : Option (Int32) :=
  if x1 < (1 : Int32) then
    some (-9 : Int32)
    else
    if (6 : Int32) < x1 then
    some (-9 : Int32)
    else
    if inR x1 7 then
    some (w.2.2.2.2.2.1 x1.toNatClampNeg)
    else none
abbrev rmX5_refusalsCounted : Room := { frames := 0, cells := 0, slots := 0, locals := 0 }
set_option maxRecDepth 100000 in
set_option maxHeartbeats 4000000 in
theorem c_X5_refusalsCounted (l : Launch) (G : EnT) (q : Nat → Nat) (w : EW) (x1 : Int32) (o : Int32) (h : f_X5_refusalsCounted w x1 = some o) : Mi l yX5_refusalsCounted rmX5_refusalsCounted cX5_refusalsCounted 2 (some .int) G false [.ref (q 0), .int x1] (cEW G q w) o (cEW G q w) := by
  refine Mi_of (by decide) (Nat.le_of_ble_eq_true rfl) ?_
  intro p e s m below meth c A0 F hr hW ls hl
  obtain ⟨hx, hb, hml, hown, hts, hK, hNW, hlocks, hA, hSX⟩ := id F
  have hl : lv_has ls 2 [(0, .ref (q 0)), (1, .int x1)] := hl
  have hW : Wd G A0 s (cEW G q w) s.heap [] := hW
  show W p l e rmX5_refusalsCounted s m ([.ref (q 0), .int x1] : List Value).toArray below meth c s.heap [] 0 0 (Qi below G (cEW G q w) o A0 ([.ref (q 0), .int x1] : List Value).toArray s) (F0 m 0 ls [])
  refine lv_iload_n hx hb dX5_refusalsCounted_0 rfl (lv_at hl 1 rfl) ?_
  refine lv_iconst (v := (1 : Int32)) hx hb dX5_refusalsCounted_1 (by decide) ?_
  obtain ⟨ht_2, hf_2⟩ := of_ite h
  refine lv_icmp_lt (tgt := 20) hx hb dX5_refusalsCounted_2 (by decide) (fun c_2 => ?_) (fun c_2 => ?_)
  · have h := ht_2 c_2
    refine lv_bipush (v := (-9 : Int32)) hx hb dX5_refusalsCounted_20 (by decide) ?_
    obtain rfl := Option.some.inj h
    exact x_reti F hr hW rfl dX5_refusalsCounted_22
  · have h := hf_2 c_2
    refine lv_iload_n hx hb dX5_refusalsCounted_5 rfl (lv_at hl 1 rfl) ?_
    refine lv_bipush (v := (6 : Int32)) hx hb dX5_refusalsCounted_6 (by decide) ?_
    obtain ⟨ht_8, hf_8⟩ := of_ite h
    refine lv_icmp_gt (tgt := 20) hx hb dX5_refusalsCounted_8 (by decide) (fun c_8 => ?_) (fun c_8 => ?_)
    · have h := ht_8 c_8
      refine lv_bipush (v := (-9 : Int32)) hx hb dX5_refusalsCounted_20 (by decide) ?_
      obtain rfl := Option.some.inj h
      exact x_reti F hr hW rfl dX5_refusalsCounted_22
    · have h := hf_8 c_8
      refine lv_aload_n hx hb dX5_refusalsCounted_11 rfl (lv_at hl 0 rfl) ?_
      refine x_get F hW 0 rfl fa_X5_41 rfl dX5_refusalsCounted_12 ?_
      refine lv_iload_n hx hb dX5_refusalsCounted_15 rfl (lv_at hl 1 rfl) ?_
      obtain ⟨g_16, h⟩ := of_guard h
      refine x_iald F hW 38 rfl g_16 dX5_refusalsCounted_16 ?_
      refine lv_goto (tgt := 22) hx hb dX5_refusalsCounted_17 (by decide) ?_
      obtain rfl := Option.some.inj h
      exact x_reti F hr hW rfl dX5_refusalsCounted_22
def f_X5_count (w : EW) (x1 : Int32) : Option (Int32 × EW) :=
  if x1 = (0 : Int32) then
    some (w.1.1.2.2.2.2.2.1, w)
    else
    if x1 = (1 : Int32) then
    some (w.1.1.2.2.2.2.2.2.2.2, w)
    else
    if x1 = (2 : Int32) then
    some (w.1.1.2.2.2.2.2.2.2.1, w)
    else
    if x1 = (3 : Int32) then
    Option.bind (f_X1_lit w.1.1) fun p_76 =>
    some (p_76, w)
    else
    if x1 = (4 : Int32) then
    Option.bind (f_X4_hangingBehind w.1 (0 : Int32)) fun p_85 =>
    some (p_85.1, (p_85.2, w.2.1, w.2.2.1, w.2.2.2.1, w.2.2.2.2.1, w.2.2.2.2.2.1, w.2.2.2.2.2.2.1, w.2.2.2.2.2.2.2))
    else
    if x1 = (5 : Int32) then
    Option.bind (f_X1_allWicks w.1.1) fun p_93 =>
    some (p_93, w)
    else
    if x1 = (6 : Int32) then
    some (w.2.2.2.2.2.2.2, w)
    else
    if x1 = (7 : Int32) then
    some (w.2.2.2.1.2.1, w)
    else
    Option.bind (f_X5_refusalsCounted w (x1 - (10 : Int32))) fun p_115 =>
    some (p_115, w)
abbrev rmX5_count : Room := { frames := 5, cells := 0, slots := 0, locals := 126 }
set_option maxRecDepth 100000 in
set_option maxHeartbeats 4000000 in
theorem c_X5_count (l : Launch) (G : EnT) (q : Nat → Nat) (w : EW) (x1 : Int32) (o : Int32 × EW) (h : f_X5_count w x1 = some o) : Mi l yX5_count rmX5_count cX5_count 2 (some .int) G false [.ref (q 0), .int x1] (cEW G q w) o.1 (cEW G q o.2) := by
  refine Mi_of (by decide) (Nat.le_of_ble_eq_true rfl) ?_
  intro p e s m below meth c A0 F hr hW ls hl
  obtain ⟨hx, hb, hml, hown, hts, hK, hNW, hlocks, hA, hSX⟩ := id F
  have hl : lv_has ls 2 [(0, .ref (q 0)), (1, .int x1)] := hl
  have hW : Wd G A0 s (cEW G q w) s.heap [] := hW
  show W p l e rmX5_count s m ([.ref (q 0), .int x1] : List Value).toArray below meth c s.heap [] 0 0 (Qi below G (cEW G q o.2) o.1 A0 ([.ref (q 0), .int x1] : List Value).toArray s) (F0 m 0 ls [])
  refine lv_iload_n hx hb dX5_count_0 rfl (lv_at hl 1 rfl) ?_
  obtain ⟨ht_1_0, h⟩ := of_ite h
  by_cases c_1_0 : x1 = (0 : Int32)
  · have h := ht_1_0 c_1_0
    refine x_tableIn c_1_0 hx hb dX5_count_1 (by decide) (by decide) (off := (47)) rfl (tgt := 48) (by decide) ?_
    refine lv_aload_n hx hb dX5_count_48 rfl (lv_at hl 0 rfl) ?_
    refine x_get F hW 0 rfl fa_X5_20 rfl dX5_count_49 ?_
    refine x_get F hW 2 rfl fa_X5_258 rfl dX5_count_52 ?_
    obtain rfl := Option.some.inj h
    exact x_reti F hr hW rfl dX5_count_55
  have h := h c_1_0
  obtain ⟨ht_1_1, h⟩ := of_ite h
  by_cases c_1_1 : x1 = (1 : Int32)
  · have h := ht_1_1 c_1_1
    refine x_tableIn c_1_1 hx hb dX5_count_1 (by decide) (by decide) (off := (55)) rfl (tgt := 56) (by decide) ?_
    refine lv_aload_n hx hb dX5_count_56 rfl (lv_at hl 0 rfl) ?_
    refine x_get F hW 0 rfl fa_X5_20 rfl dX5_count_57 ?_
    refine x_get F hW 2 rfl fa_X5_255 rfl dX5_count_60 ?_
    obtain rfl := Option.some.inj h
    exact x_reti F hr hW rfl dX5_count_63
  have h := h c_1_1
  obtain ⟨ht_1_2, h⟩ := of_ite h
  by_cases c_1_2 : x1 = (2 : Int32)
  · have h := ht_1_2 c_1_2
    refine x_tableIn c_1_2 hx hb dX5_count_1 (by decide) (by decide) (off := (63)) rfl (tgt := 64) (by decide) ?_
    refine lv_aload_n hx hb dX5_count_64 rfl (lv_at hl 0 rfl) ?_
    refine x_get F hW 0 rfl fa_X5_20 rfl dX5_count_65 ?_
    refine x_get F hW 2 rfl fa_X5_125 rfl dX5_count_68 ?_
    obtain rfl := Option.some.inj h
    exact x_reti F hr hW rfl dX5_count_71
  have h := h c_1_2
  obtain ⟨ht_1_3, h⟩ := of_ite h
  by_cases c_1_3 : x1 = (3 : Int32)
  · have h := ht_1_3 c_1_3
    refine x_tableIn c_1_3 hx hb dX5_count_1 (by decide) (by decide) (off := (71)) rfl (tgt := 72) (by decide) ?_
    refine lv_aload_n hx hb dX5_count_72 rfl (lv_at hl 0 rfl) ?_
    refine x_get F hW 0 rfl fa_X5_20 rfl dX5_count_73 ?_
    obtain ⟨p_76, hc_76, h⟩ := of_bind h
    refine x_Vi (av := [.ref (q 2)]) (As := []) F hW (c_X1_lit l G (fun i => q (i + 2)) w.1.1 _ hc_76) [2, 3, 4, 5, 6, 7] rfl rfl (by intro q; cases q) cv_X5_261 rfl ⟨_, rfl, rfl⟩ rfl rfl rfl hl (Nat.le_of_ble_eq_true rfl) ⟨Nat.le_of_ble_eq_true rfl, Nat.le_of_ble_eq_true rfl⟩ ⟨rfl, rfl⟩ ⟨Nat.le_of_ble_eq_true rfl, Nat.le_of_ble_eq_true rfl⟩ dX5_count_76 rfl [none, none, some 0, some 1, some 2, some 3, some 4, some 5, none, none, none, none, none, none, none, none, none, none, none, none, none, none, none, none, none, none, none, none, none, none, none, none, none, none, none, none, none, none, none] rfl (ws' := cEW G q w) rfl (fun H locs hW => ?_)
    obtain rfl := Option.some.inj h
    exact x_reti F hr hW rfl dX5_count_79
  have h := h c_1_3
  obtain ⟨ht_1_4, h⟩ := of_ite h
  by_cases c_1_4 : x1 = (4 : Int32)
  · have h := ht_1_4 c_1_4
    refine x_tableIn c_1_4 hx hb dX5_count_1 (by decide) (by decide) (off := (79)) rfl (tgt := 80) (by decide) ?_
    refine lv_aload_n hx hb dX5_count_80 rfl (lv_at hl 0 rfl) ?_
    refine x_get F hW 0 rfl fa_X5_10 rfl dX5_count_81 ?_
    refine lv_iconst (v := (0 : Int32)) hx hb dX5_count_84 (by decide) ?_
    obtain ⟨p_85, hc_85, h⟩ := of_bind h
    refine x_Vi (av := [.ref (q 1), .int (0 : Int32)]) (As := [.int (0 : Int32)]) F hW (c_X4_hangingBehind l G (fun i => q (i + 1)) w.1 (0 : Int32) _ hc_85) [1, 2, 3, 4, 5, 6, 7, 8, 9, 10, 11, 12, 13, 14, 15, 16, 17, 18, 19, 20, 21, 22] rfl rfl (by intro q; cases q) cv_X5_131 rfl ⟨_, rfl, rfl⟩ rfl rfl rfl hl (Nat.le_of_ble_eq_true rfl) ⟨Nat.le_of_ble_eq_true rfl, Nat.le_of_ble_eq_true rfl⟩ ⟨rfl, rfl⟩ ⟨Nat.le_of_ble_eq_true rfl, Nat.le_of_ble_eq_true rfl⟩ dX5_count_85 rfl [none, some 0, some 1, some 2, some 3, some 4, some 5, some 6, some 7, some 8, some 9, some 10, some 11, some 12, some 13, some 14, some 15, some 16, some 17, some 18, some 19, some 20, some 21, none, none, none, none, none, none, none, none, none, none, none, none, none, none, none, none] rfl (ws' := cEW G q (p_85.2, w.2.1, w.2.2.1, w.2.2.2.1, w.2.2.2.2.1, w.2.2.2.2.2.1, w.2.2.2.2.2.2.1, w.2.2.2.2.2.2.2)) rfl (fun H locs hW => ?_)
    obtain rfl := Option.some.inj h
    exact x_reti F hr hW rfl dX5_count_88
  have h := h c_1_4
  obtain ⟨ht_1_5, h⟩ := of_ite h
  by_cases c_1_5 : x1 = (5 : Int32)
  · have h := ht_1_5 c_1_5
    refine x_tableIn c_1_5 hx hb dX5_count_1 (by decide) (by decide) (off := (88)) rfl (tgt := 89) (by decide) ?_
    refine lv_aload_n hx hb dX5_count_89 rfl (lv_at hl 0 rfl) ?_
    refine x_get F hW 0 rfl fa_X5_20 rfl dX5_count_90 ?_
    obtain ⟨p_93, hc_93, h⟩ := of_bind h
    refine x_Vi (av := [.ref (q 2)]) (As := []) F hW (c_X1_allWicks l G (fun i => q (i + 2)) w.1.1 _ hc_93) [2, 3, 4, 5, 6, 7] rfl rfl (by intro q; cases q) cv_X5_264 rfl ⟨_, rfl, rfl⟩ rfl rfl rfl hl (Nat.le_of_ble_eq_true rfl) ⟨Nat.le_of_ble_eq_true rfl, Nat.le_of_ble_eq_true rfl⟩ ⟨rfl, rfl⟩ ⟨Nat.le_of_ble_eq_true rfl, Nat.le_of_ble_eq_true rfl⟩ dX5_count_93 rfl [none, none, some 0, some 1, some 2, some 3, some 4, some 5, none, none, none, none, none, none, none, none, none, none, none, none, none, none, none, none, none, none, none, none, none, none, none, none, none, none, none, none, none, none, none] rfl (ws' := cEW G q w) rfl (fun H locs hW => ?_)
    obtain rfl := Option.some.inj h
    exact x_reti F hr hW rfl dX5_count_96
  have h := h c_1_5
  obtain ⟨ht_1_6, h⟩ := of_ite h
  by_cases c_1_6 : x1 = (6 : Int32)
  · have h := ht_1_6 c_1_6
    refine x_tableIn c_1_6 hx hb dX5_count_1 (by decide) (by decide) (off := (96)) rfl (tgt := 97) (by decide) ?_
    refine lv_aload_n hx hb dX5_count_97 rfl (lv_at hl 0 rfl) ?_
    refine x_get F hW 0 rfl fa_X5_233 rfl dX5_count_98 ?_
    obtain rfl := Option.some.inj h
    exact x_reti F hr hW rfl dX5_count_101
  have h := h c_1_6
  obtain ⟨ht_1_7, h⟩ := of_ite h
  by_cases c_1_7 : x1 = (7 : Int32)
  · have h := ht_1_7 c_1_7
    refine x_tableIn c_1_7 hx hb dX5_count_1 (by decide) (by decide) (off := (101)) rfl (tgt := 102) (by decide) ?_
    refine lv_aload_n hx hb dX5_count_102 rfl (lv_at hl 0 rfl) ?_
    refine x_get F hW 0 rfl fa_X5_33 rfl dX5_count_103 ?_
    refine x_get F hW 35 rfl fa_X5_267 rfl dX5_count_106 ?_
    obtain rfl := Option.some.inj h
    exact x_reti F hr hW rfl dX5_count_109
  have h := h c_1_7
  refine lv_tableOut hx hb dX5_count_1 (by have z0 := x_ne c_1_0 (z := 0) (by decide); have z1 := x_ne c_1_1 (z := 1) (by decide); have z2 := x_ne c_1_2 (z := 2) (by decide); have z3 := x_ne c_1_3 (z := 3) (by decide); have z4 := x_ne c_1_4 (z := 4) (by decide); have z5 := x_ne c_1_5 (z := 5) (by decide); have z6 := x_ne c_1_6 (z := 6) (by decide); have z7 := x_ne c_1_7 (z := 7) (by decide); omega) (tgt := 110) (by decide) ?_
  refine lv_aload_n hx hb dX5_count_110 rfl (lv_at hl 0 rfl) ?_
  refine lv_iload_n hx hb dX5_count_111 rfl (lv_at hl 1 rfl) ?_
  refine lv_bipush (v := (10 : Int32)) hx hb dX5_count_112 (by decide) ?_
  refine lv_isub hx hb dX5_count_114 ?_
  obtain ⟨p_115, hc_115, h⟩ := of_bind h
  refine x_Vi (av := [.ref (q 0), .int (x1 - (10 : Int32))]) (As := [.int (x1 - (10 : Int32))]) F hW (c_X5_refusalsCounted l G q w (x1 - (10 : Int32)) _ hc_115) [0, 1, 2, 3, 4, 5, 6, 7, 8, 9, 10, 11, 12, 13, 14, 15, 16, 17, 18, 19, 20, 21, 22, 23, 24, 25, 26, 27, 28, 29, 30, 31, 32, 33, 34, 35, 36, 37, 38] rfl rfl (by intro q; cases q) cv_X5_270 rfl ⟨_, rfl, rfl⟩ rfl rfl rfl hl (Nat.le_of_ble_eq_true rfl) ⟨Nat.le_of_ble_eq_true rfl, Nat.le_of_ble_eq_true rfl⟩ ⟨rfl, rfl⟩ ⟨Nat.le_of_ble_eq_true rfl, Nat.le_of_ble_eq_true rfl⟩ dX5_count_115 rfl [some 0, some 1, some 2, some 3, some 4, some 5, some 6, some 7, some 8, some 9, some 10, some 11, some 12, some 13, some 14, some 15, some 16, some 17, some 18, some 19, some 20, some 21, some 22, some 23, some 24, some 25, some 26, some 27, some 28, some 29, some 30, some 31, some 32, some 33, some 34, some 35, some 36, some 37, some 38] rfl (ws' := cEW G q w) rfl (fun H locs hW => ?_)
  obtain rfl := Option.some.inj h
  exact x_reti F hr hW rfl dX5_count_118
