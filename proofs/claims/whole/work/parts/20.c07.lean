def f_X5_house (w : EW) (x1 : Int32) (x2 : Int32) : Option (Int32 × EW) :=
  Option.bind (f_X1_isHouse w.1.1 x1) fun p_5 =>
    if p_5 = 0 then
    Option.bind (f_X5_refuse w (-1 : Int32)) fun p_13 =>
    some (p_13.1, p_13.2)
    else
    if x2 = (0 : Int32) then
    if inR x1 8 then
    some ((w.1.1.2.1 x1.toNatClampNeg), w)
    else none
    else
    if x2 = (1 : Int32) then
    if inR x1 8 then
    some ((w.1.1.2.2.1 x1.toNatClampNeg), w)
    else none
    else
    if x2 = (2 : Int32) then
    if inR x1 8 then
    some ((w.1.1.2.2.2.1 x1.toNatClampNeg), w)
    else none
    else
    if x2 = (3 : Int32) then
    if inR x1 8 then
    some ((w.1.1.2.2.2.2.1 x1.toNatClampNeg), w)
    else none
    else
    if x2 = (4 : Int32) then
    Option.bind (f_X1_isCalled w.1.1 x1) fun p_109 =>
    if p_109 = 0 then
    some ((0 : Int32), w)
    else
    some ((1 : Int32), w)
    else
    if x2 = (5 : Int32) then
    Option.bind (f_X1_isLit w.1.1 x1) fun p_126 =>
    if p_126 = 0 then
    some ((0 : Int32), w)
    else
    some ((1 : Int32), w)
    else
    if x2 = (6 : Int32) then
    Option.bind (f_X1_eyeOf w.1.1 x1) fun p_143 =>
    some (p_143, w)
    else
    if x2 = (7 : Int32) then
    Option.bind (f_X1_burnsOf w.1.1 x1) fun p_152 =>
    some (p_152, w)
    else
    Option.bind (f_X5_refuse w (-2 : Int32)) fun p_159 =>
    some (p_159.1, p_159.2)
abbrev rmX5_house : Room := { frames := 2, cells := 0, slots := 0, locals := 44 }
set_option maxRecDepth 100000 in
set_option maxHeartbeats 4000000 in
theorem c_X5_house (l : Launch) (G : EnT) (q : Nat → Nat) (w : EW) (x1 : Int32) (x2 : Int32) (o : Int32 × EW) (h : f_X5_house w x1 x2 = some o) : Mi l yX5_house rmX5_house cX5_house 3 (some .int) G false [.ref (q 0), .int x1, .int x2] (cEW G q w) o.1 (cEW G q o.2) := by
  refine Mi_of (by decide) (Nat.le_of_ble_eq_true rfl) ?_
  intro p e s m below meth c A0 F hr hW ls hl
  obtain ⟨hx, hb, hml, hown, hts, hK, hNW, hlocks, hA, hSX⟩ := id F
  have hl : lv_has ls 3 [(0, .ref (q 0)), (1, .int x1), (2, .int x2)] := hl
  have hW : Wd G A0 s (cEW G q w) s.heap [] := hW
  show W p l e rmX5_house s m ([.ref (q 0), .int x1, .int x2] : List Value).toArray below meth c s.heap [] 0 0 (Qi below G (cEW G q o.2) o.1 A0 ([.ref (q 0), .int x1, .int x2] : List Value).toArray s) (F0 m 0 ls [])
  refine lv_aload_n hx hb dX5_house_0 rfl (lv_at hl 0 rfl) ?_
  refine x_get F hW 0 rfl fa_X5_20 rfl dX5_house_1 ?_
  refine lv_iload_n hx hb dX5_house_4 rfl (lv_at hl 1 rfl) ?_
  obtain ⟨p_5, hc_5, h⟩ := of_bind h
  refine x_Vi (av := [.ref (q 2), .int x1]) (As := [.int x1]) F hW (c_X1_isHouse l G (fun i => q (i + 2)) w.1.1 x1 _ hc_5) [2, 3, 4, 5, 6, 7] rfl rfl (by intro q; cases q) cv_X5_74 rfl ⟨_, rfl, rfl⟩ rfl rfl rfl hl (Nat.le_of_ble_eq_true rfl) ⟨Nat.le_of_ble_eq_true rfl, Nat.le_of_ble_eq_true rfl⟩ ⟨rfl, rfl⟩ ⟨Nat.le_of_ble_eq_true rfl, Nat.le_of_ble_eq_true rfl⟩ dX5_house_5 rfl [none, none, some 0, some 1, some 2, some 3, some 4, some 5, none, none, none, none, none, none, none, none, none, none, none, none, none, none, none, none, none, none, none, none, none, none, none, none, none, none, none, none, none, none, none] rfl (ws' := cEW G q w) rfl (fun H locs hW => ?_)
  obtain ⟨ht_8, hf_8⟩ := of_ite h
  refine lv_if_ne (tgt := 17) hx hb dX5_house_8 (by decide) (fun c_8 => ?_) (fun c_8 => ?_)
  · have h := hf_8 c_8
    refine lv_iload_n hx hb dX5_house_17 rfl (lv_at hl 2 rfl) ?_
    obtain ⟨ht_18_0, h⟩ := of_ite h
    by_cases c_18_0 : x2 = (0 : Int32)
    · have h := ht_18_0 c_18_0
      refine x_tableIn c_18_0 hx hb dX5_house_18 (by decide) (by decide) (off := (46)) rfl (tgt := 64) (by decide) ?_
      refine lv_aload_n hx hb dX5_house_64 rfl (lv_at hl 0 rfl) ?_
      refine x_get F hW 0 rfl fa_X5_20 rfl dX5_house_65 ?_
      refine x_get F hW 2 rfl fa_X5_78 rfl dX5_house_68 ?_
      refine lv_iload_n hx hb dX5_house_71 rfl (lv_at hl 1 rfl) ?_
      obtain ⟨g_72, h⟩ := of_guard h
      refine x_iald F hW 4 rfl g_72 dX5_house_72 ?_
      obtain rfl := Option.some.inj h
      exact x_reti F hr hW rfl dX5_house_73
    have h := h c_18_0
    obtain ⟨ht_18_1, h⟩ := of_ite h
    by_cases c_18_1 : x2 = (1 : Int32)
    · have h := ht_18_1 c_18_1
      refine x_tableIn c_18_1 hx hb dX5_house_18 (by decide) (by decide) (off := (56)) rfl (tgt := 74) (by decide) ?_
      refine lv_aload_n hx hb dX5_house_74 rfl (lv_at hl 0 rfl) ?_
      refine x_get F hW 0 rfl fa_X5_20 rfl dX5_house_75 ?_
      refine x_get F hW 2 rfl fa_X5_81 rfl dX5_house_78 ?_
      refine lv_iload_n hx hb dX5_house_81 rfl (lv_at hl 1 rfl) ?_
      obtain ⟨g_82, h⟩ := of_guard h
      refine x_iald F hW 5 rfl g_82 dX5_house_82 ?_
      obtain rfl := Option.some.inj h
      exact x_reti F hr hW rfl dX5_house_83
    have h := h c_18_1
    obtain ⟨ht_18_2, h⟩ := of_ite h
    by_cases c_18_2 : x2 = (2 : Int32)
    · have h := ht_18_2 c_18_2
      refine x_tableIn c_18_2 hx hb dX5_house_18 (by decide) (by decide) (off := (66)) rfl (tgt := 84) (by decide) ?_
      refine lv_aload_n hx hb dX5_house_84 rfl (lv_at hl 0 rfl) ?_
      refine x_get F hW 0 rfl fa_X5_20 rfl dX5_house_85 ?_
      refine x_get F hW 2 rfl fa_X5_84 rfl dX5_house_88 ?_
      refine lv_iload_n hx hb dX5_house_91 rfl (lv_at hl 1 rfl) ?_
      obtain ⟨g_92, h⟩ := of_guard h
      refine x_iald F hW 6 rfl g_92 dX5_house_92 ?_
      obtain rfl := Option.some.inj h
      exact x_reti F hr hW rfl dX5_house_93
    have h := h c_18_2
    obtain ⟨ht_18_3, h⟩ := of_ite h
    by_cases c_18_3 : x2 = (3 : Int32)
    · have h := ht_18_3 c_18_3
      refine x_tableIn c_18_3 hx hb dX5_house_18 (by decide) (by decide) (off := (76)) rfl (tgt := 94) (by decide) ?_
      refine lv_aload_n hx hb dX5_house_94 rfl (lv_at hl 0 rfl) ?_
      refine x_get F hW 0 rfl fa_X5_20 rfl dX5_house_95 ?_
      refine x_get F hW 2 rfl fa_X5_87 rfl dX5_house_98 ?_
      refine lv_iload_n hx hb dX5_house_101 rfl (lv_at hl 1 rfl) ?_
      obtain ⟨g_102, h⟩ := of_guard h
      refine x_iald F hW 7 rfl g_102 dX5_house_102 ?_
      obtain rfl := Option.some.inj h
      exact x_reti F hr hW rfl dX5_house_103
    have h := h c_18_3
    obtain ⟨ht_18_4, h⟩ := of_ite h
    by_cases c_18_4 : x2 = (4 : Int32)
    · have h := ht_18_4 c_18_4
      refine x_tableIn c_18_4 hx hb dX5_house_18 (by decide) (by decide) (off := (86)) rfl (tgt := 104) (by decide) ?_
      refine lv_aload_n hx hb dX5_house_104 rfl (lv_at hl 0 rfl) ?_
      refine x_get F hW 0 rfl fa_X5_20 rfl dX5_house_105 ?_
      refine lv_iload_n hx hb dX5_house_108 rfl (lv_at hl 1 rfl) ?_
      obtain ⟨p_109, hc_109, h⟩ := of_bind h
      refine x_Vi (av := [.ref (q 2), .int x1]) (As := [.int x1]) F hW (c_X1_isCalled l G (fun i => q (i + 2)) w.1.1 x1 _ hc_109) [2, 3, 4, 5, 6, 7] rfl rfl (by intro q; cases q) cv_X5_90 rfl ⟨_, rfl, rfl⟩ rfl rfl rfl hl (Nat.le_of_ble_eq_true rfl) ⟨Nat.le_of_ble_eq_true rfl, Nat.le_of_ble_eq_true rfl⟩ ⟨rfl, rfl⟩ ⟨Nat.le_of_ble_eq_true rfl, Nat.le_of_ble_eq_true rfl⟩ dX5_house_109 rfl [none, none, some 0, some 1, some 2, some 3, some 4, some 5, none, none, none, none, none, none, none, none, none, none, none, none, none, none, none, none, none, none, none, none, none, none, none, none, none, none, none, none, none, none, none] rfl (ws' := cEW G q w) rfl (fun H locs hW => ?_)
      obtain ⟨ht_112, hf_112⟩ := of_ite h
      refine lv_if_eq (tgt := 119) hx hb dX5_house_112 (by decide) (fun c_112 => ?_) (fun c_112 => ?_)
      · have h := ht_112 c_112
        refine lv_iconst (v := (0 : Int32)) hx hb dX5_house_119 (by decide) ?_
        obtain rfl := Option.some.inj h
        exact x_reti F hr hW rfl dX5_house_120
      · have h := hf_112 c_112
        refine lv_iconst (v := (1 : Int32)) hx hb dX5_house_115 (by decide) ?_
        refine lv_goto (tgt := 120) hx hb dX5_house_116 (by decide) ?_
        obtain rfl := Option.some.inj h
        exact x_reti F hr hW rfl dX5_house_120
    have h := h c_18_4
    obtain ⟨ht_18_5, h⟩ := of_ite h
    by_cases c_18_5 : x2 = (5 : Int32)
    · have h := ht_18_5 c_18_5
      refine x_tableIn c_18_5 hx hb dX5_house_18 (by decide) (by decide) (off := (103)) rfl (tgt := 121) (by decide) ?_
      refine lv_aload_n hx hb dX5_house_121 rfl (lv_at hl 0 rfl) ?_
      refine x_get F hW 0 rfl fa_X5_20 rfl dX5_house_122 ?_
      refine lv_iload_n hx hb dX5_house_125 rfl (lv_at hl 1 rfl) ?_
      obtain ⟨p_126, hc_126, h⟩ := of_bind h
      refine x_Vi (av := [.ref (q 2), .int x1]) (As := [.int x1]) F hW (c_X1_isLit l G (fun i => q (i + 2)) w.1.1 x1 _ hc_126) [2, 3, 4, 5, 6, 7] rfl rfl (by intro q; cases q) cv_X5_93 rfl ⟨_, rfl, rfl⟩ rfl rfl rfl hl (Nat.le_of_ble_eq_true rfl) ⟨Nat.le_of_ble_eq_true rfl, Nat.le_of_ble_eq_true rfl⟩ ⟨rfl, rfl⟩ ⟨Nat.le_of_ble_eq_true rfl, Nat.le_of_ble_eq_true rfl⟩ dX5_house_126 rfl [none, none, some 0, some 1, some 2, some 3, some 4, some 5, none, none, none, none, none, none, none, none, none, none, none, none, none, none, none, none, none, none, none, none, none, none, none, none, none, none, none, none, none, none, none] rfl (ws' := cEW G q w) rfl (fun H locs hW => ?_)
      obtain ⟨ht_129, hf_129⟩ := of_ite h
      refine lv_if_eq (tgt := 136) hx hb dX5_house_129 (by decide) (fun c_129 => ?_) (fun c_129 => ?_)
      · have h := ht_129 c_129
        refine lv_iconst (v := (0 : Int32)) hx hb dX5_house_136 (by decide) ?_
        obtain rfl := Option.some.inj h
        exact x_reti F hr hW rfl dX5_house_137
      · have h := hf_129 c_129
        refine lv_iconst (v := (1 : Int32)) hx hb dX5_house_132 (by decide) ?_
        refine lv_goto (tgt := 137) hx hb dX5_house_133 (by decide) ?_
        obtain rfl := Option.some.inj h
        exact x_reti F hr hW rfl dX5_house_137
    have h := h c_18_5
    obtain ⟨ht_18_6, h⟩ := of_ite h
    by_cases c_18_6 : x2 = (6 : Int32)
    · have h := ht_18_6 c_18_6
      refine x_tableIn c_18_6 hx hb dX5_house_18 (by decide) (by decide) (off := (120)) rfl (tgt := 138) (by decide) ?_
      refine lv_aload_n hx hb dX5_house_138 rfl (lv_at hl 0 rfl) ?_
      refine x_get F hW 0 rfl fa_X5_20 rfl dX5_house_139 ?_
      refine lv_iload_n hx hb dX5_house_142 rfl (lv_at hl 1 rfl) ?_
      obtain ⟨p_143, hc_143, h⟩ := of_bind h
      refine x_Vi (av := [.ref (q 2), .int x1]) (As := [.int x1]) F hW (c_X1_eyeOf l G (fun i => q (i + 2)) w.1.1 x1 _ hc_143) [2, 3, 4, 5, 6, 7] rfl rfl (by intro q; cases q) cv_X5_96 rfl ⟨_, rfl, rfl⟩ rfl rfl rfl hl (Nat.le_of_ble_eq_true rfl) ⟨Nat.le_of_ble_eq_true rfl, Nat.le_of_ble_eq_true rfl⟩ ⟨rfl, rfl⟩ ⟨Nat.le_of_ble_eq_true rfl, Nat.le_of_ble_eq_true rfl⟩ dX5_house_143 rfl [none, none, some 0, some 1, some 2, some 3, some 4, some 5, none, none, none, none, none, none, none, none, none, none, none, none, none, none, none, none, none, none, none, none, none, none, none, none, none, none, none, none, none, none, none] rfl (ws' := cEW G q w) rfl (fun H locs hW => ?_)
      obtain rfl := Option.some.inj h
      exact x_reti F hr hW rfl dX5_house_146
    have h := h c_18_6
    obtain ⟨ht_18_7, h⟩ := of_ite h
    by_cases c_18_7 : x2 = (7 : Int32)
    · have h := ht_18_7 c_18_7
      refine x_tableIn c_18_7 hx hb dX5_house_18 (by decide) (by decide) (off := (129)) rfl (tgt := 147) (by decide) ?_
      refine lv_aload_n hx hb dX5_house_147 rfl (lv_at hl 0 rfl) ?_
      refine x_get F hW 0 rfl fa_X5_20 rfl dX5_house_148 ?_
      refine lv_iload_n hx hb dX5_house_151 rfl (lv_at hl 1 rfl) ?_
      obtain ⟨p_152, hc_152, h⟩ := of_bind h
      refine x_Vi (av := [.ref (q 2), .int x1]) (As := [.int x1]) F hW (c_X1_burnsOf l G (fun i => q (i + 2)) w.1.1 x1 _ hc_152) [2, 3, 4, 5, 6, 7] rfl rfl (by intro q; cases q) cv_X5_99 rfl ⟨_, rfl, rfl⟩ rfl rfl rfl hl (Nat.le_of_ble_eq_true rfl) ⟨Nat.le_of_ble_eq_true rfl, Nat.le_of_ble_eq_true rfl⟩ ⟨rfl, rfl⟩ ⟨Nat.le_of_ble_eq_true rfl, Nat.le_of_ble_eq_true rfl⟩ dX5_house_152 rfl [none, none, some 0, some 1, some 2, some 3, some 4, some 5, none, none, none, none, none, none, none, none, none, none, none, none, none, none, none, none, none, none, none, none, none, none, none, none, none, none, none, none, none, none, none] rfl (ws' := cEW G q w) rfl (fun H locs hW => ?_)
      obtain rfl := Option.some.inj h
      exact x_reti F hr hW rfl dX5_house_155
    have h := h c_18_7
    refine lv_tableOut hx hb dX5_house_18 (by have z0 := x_ne c_18_0 (z := 0) (by decide); have z1 := x_ne c_18_1 (z := 1) (by decide); have z2 := x_ne c_18_2 (z := 2) (by decide); have z3 := x_ne c_18_3 (z := 3) (by decide); have z4 := x_ne c_18_4 (z := 4) (by decide); have z5 := x_ne c_18_5 (z := 5) (by decide); have z6 := x_ne c_18_6 (z := 6) (by decide); have z7 := x_ne c_18_7 (z := 7) (by decide); omega) (tgt := 156) (by decide) ?_
    refine lv_aload_n hx hb dX5_house_156 rfl (lv_at hl 0 rfl) ?_
    refine lv_bipush (v := (-2 : Int32)) hx hb dX5_house_157 (by decide) ?_
    obtain ⟨p_159, hc_159, h⟩ := of_bind h
    refine x_Vi (av := [.ref (q 0), .int (-2 : Int32)]) (As := [.int (-2 : Int32)]) F hW (c_X5_refuse l G q w (-2 : Int32) _ hc_159) [0, 1, 2, 3, 4, 5, 6, 7, 8, 9, 10, 11, 12, 13, 14, 15, 16, 17, 18, 19, 20, 21, 22, 23, 24, 25, 26, 27, 28, 29, 30, 31, 32, 33, 34, 35, 36, 37, 38] rfl rfl (by intro q; cases q) cv_X5_44 rfl ⟨_, rfl, rfl⟩ rfl rfl rfl hl (Nat.le_of_ble_eq_true rfl) ⟨Nat.le_of_ble_eq_true rfl, Nat.le_of_ble_eq_true rfl⟩ ⟨rfl, rfl⟩ ⟨Nat.le_of_ble_eq_true rfl, Nat.le_of_ble_eq_true rfl⟩ dX5_house_159 rfl [some 0, some 1, some 2, some 3, some 4, some 5, some 6, some 7, some 8, some 9, some 10, some 11, some 12, some 13, some 14, some 15, some 16, some 17, some 18, some 19, some 20, some 21, some 22, some 23, some 24, some 25, some 26, some 27, some 28, some 29, some 30, some 31, some 32, some 33, some 34, some 35, some 36, some 37, some 38] rfl (ws' := cEW G q p_159.2) rfl (fun H locs hW => ?_)
    obtain rfl := Option.some.inj h
    exact x_reti F hr hW rfl dX5_house_162
  · have h := ht_8 c_8
    refine lv_aload_n hx hb dX5_house_11 rfl (lv_at hl 0 rfl) ?_
    refine lv_iconst (v := (-1 : Int32)) hx hb dX5_house_12 (by decide) ?_
    obtain ⟨p_13, hc_13, h⟩ := of_bind h
    refine x_Vi (av := [.ref (q 0), .int (-1 : Int32)]) (As := [.int (-1 : Int32)]) F hW (c_X5_refuse l G q w (-1 : Int32) _ hc_13) [0, 1, 2, 3, 4, 5, 6, 7, 8, 9, 10, 11, 12, 13, 14, 15, 16, 17, 18, 19, 20, 21, 22, 23, 24, 25, 26, 27, 28, 29, 30, 31, 32, 33, 34, 35, 36, 37, 38] rfl rfl (by intro q; cases q) cv_X5_44 rfl ⟨_, rfl, rfl⟩ rfl rfl rfl hl (Nat.le_of_ble_eq_true rfl) ⟨Nat.le_of_ble_eq_true rfl, Nat.le_of_ble_eq_true rfl⟩ ⟨rfl, rfl⟩ ⟨Nat.le_of_ble_eq_true rfl, Nat.le_of_ble_eq_true rfl⟩ dX5_house_13 rfl [some 0, some 1, some 2, some 3, some 4, some 5, some 6, some 7, some 8, some 9, some 10, some 11, some 12, some 13, some 14, some 15, some 16, some 17, some 18, some 19, some 20, some 21, some 22, some 23, some 24, some 25, some 26, some 27, some 28, some 29, some 30, some 31, some 32, some 33, some 34, some 35, some 36, some 37, some 38] rfl (ws' := cEW G q p_13.2) rfl (fun H locs hW => ?_)
    obtain rfl := Option.some.inj h
    exact x_reti F hr hW rfl dX5_house_16
def f_X5_height (w : EW) (x1 : Int32) : Option (Int32 × EW) :=
  Option.bind (f_X1_isCell x1) fun p_1 =>
    if p_1 = 0 then
    Option.bind (f_X5_refuse w (-1 : Int32)) fun p_21 =>
    some (p_21.1, p_21.2)
    else
    if inR x1 20 then
    some ((w.1.1.1 x1.toNatClampNeg), w)
    else none
abbrev rmX5_height : Room := { frames := 1, cells := 0, slots := 0, locals := 21 }
set_option maxRecDepth 100000 in
set_option maxHeartbeats 4000000 in
theorem c_X5_height (l : Launch) (G : EnT) (q : Nat → Nat) (w : EW) (x1 : Int32) (o : Int32 × EW) (h : f_X5_height w x1 = some o) : Mi l yX5_height rmX5_height cX5_height 2 (some .int) G false [.ref (q 0), .int x1] (cEW G q w) o.1 (cEW G q o.2) := by
  refine Mi_of (by decide) (Nat.le_of_ble_eq_true rfl) ?_
  intro p e s m below meth c A0 F hr hW ls hl
  obtain ⟨hx, hb, hml, hown, hts, hK, hNW, hlocks, hA, hSX⟩ := id F
  have hl : lv_has ls 2 [(0, .ref (q 0)), (1, .int x1)] := hl
  have hW : Wd G A0 s (cEW G q w) s.heap [] := hW
  show W p l e rmX5_height s m ([.ref (q 0), .int x1] : List Value).toArray below meth c s.heap [] 0 0 (Qi below G (cEW G q o.2) o.1 A0 ([.ref (q 0), .int x1] : List Value).toArray s) (F0 m 0 ls [])
  refine lv_iload_n hx hb dX5_height_0 rfl (lv_at hl 1 rfl) ?_
  obtain ⟨p_1, hc_1, h⟩ := of_bind h
  refine x_Si (av := [.int x1]) F hW (c_X1_isCell l G x1 _ hc_1) [] rfl rfl (by intro q; cases q) cs_X5_102 rfl rfl hl (Nat.le_of_ble_eq_true rfl) ⟨Nat.le_of_ble_eq_true rfl, Nat.le_of_ble_eq_true rfl⟩ ⟨rfl, rfl⟩ ⟨Nat.le_of_ble_eq_true rfl, Nat.le_of_ble_eq_true rfl⟩ dX5_height_1 rfl [none, none, none, none, none, none, none, none, none, none, none, none, none, none, none, none, none, none, none, none, none, none, none, none, none, none, none, none, none, none, none, none, none, none, none, none, none, none, none] rfl (ws' := cEW G q w) rfl (fun H locs hW => ?_)
  obtain ⟨ht_4, hf_4⟩ := of_ite h
  refine lv_if_eq (tgt := 19) hx hb dX5_height_4 (by decide) (fun c_4 => ?_) (fun c_4 => ?_)
  · have h := ht_4 c_4
    refine lv_aload_n hx hb dX5_height_19 rfl (lv_at hl 0 rfl) ?_
    refine lv_iconst (v := (-1 : Int32)) hx hb dX5_height_20 (by decide) ?_
    obtain ⟨p_21, hc_21, h⟩ := of_bind h
    refine x_Vi (av := [.ref (q 0), .int (-1 : Int32)]) (As := [.int (-1 : Int32)]) F hW (c_X5_refuse l G q w (-1 : Int32) _ hc_21) [0, 1, 2, 3, 4, 5, 6, 7, 8, 9, 10, 11, 12, 13, 14, 15, 16, 17, 18, 19, 20, 21, 22, 23, 24, 25, 26, 27, 28, 29, 30, 31, 32, 33, 34, 35, 36, 37, 38] rfl rfl (by intro q; cases q) cv_X5_44 rfl ⟨_, rfl, rfl⟩ rfl rfl rfl hl (Nat.le_of_ble_eq_true rfl) ⟨Nat.le_of_ble_eq_true rfl, Nat.le_of_ble_eq_true rfl⟩ ⟨rfl, rfl⟩ ⟨Nat.le_of_ble_eq_true rfl, Nat.le_of_ble_eq_true rfl⟩ dX5_height_21 rfl [some 0, some 1, some 2, some 3, some 4, some 5, some 6, some 7, some 8, some 9, some 10, some 11, some 12, some 13, some 14, some 15, some 16, some 17, some 18, some 19, some 20, some 21, some 22, some 23, some 24, some 25, some 26, some 27, some 28, some 29, some 30, some 31, some 32, some 33, some 34, some 35, some 36, some 37, some 38] rfl (ws' := cEW G q p_21.2) rfl (fun H locs hW => ?_)
    obtain rfl := Option.some.inj h
    exact x_reti F hr hW rfl dX5_height_24
  · have h := hf_4 c_4
    refine lv_aload_n hx hb dX5_height_7 rfl (lv_at hl 0 rfl) ?_
    refine x_get F hW 0 rfl fa_X5_20 rfl dX5_height_8 ?_
    refine x_get F hW 2 rfl fa_X5_105 rfl dX5_height_11 ?_
    refine lv_iload_n hx hb dX5_height_14 rfl (lv_at hl 1 rfl) ?_
    obtain ⟨g_15, h⟩ := of_guard h
    refine x_iald F hW 3 rfl g_15 dX5_height_15 ?_
    refine lv_goto (tgt := 24) hx hb dX5_height_16 (by decide) ?_
    obtain rfl := Option.some.inj h
    exact x_reti F hr hW rfl dX5_height_24
def f_X5_outside (x1 : Int32) (x2 : Int32) (x3 : Int32) : Option (Int32) :=
  if x2 ≤ x1 then
    if x1 ≤ x3 then
    some (0 : Int32)
    else
    some (-6 : Int32)
    else
    some (-4 : Int32)
abbrev rmX5_outside : Room := { frames := 0, cells := 0, slots := 0, locals := 0 }
set_option maxRecDepth 100000 in
set_option maxHeartbeats 4000000 in
theorem c_X5_outside (l : Launch) (G : EnT) (x1 : Int32) (x2 : Int32) (x3 : Int32) (o : Int32) (h : f_X5_outside x1 x2 x3 = some o) : Mi l yX5_outside rmX5_outside cX5_outside 3 (some .int) G false [.int x1, .int x2, .int x3] ([]) o ([]) := by
  refine Mi_of (by decide) (Nat.le_of_ble_eq_true rfl) ?_
  intro p e s m below meth c A0 F hr hW ls hl
  obtain ⟨hx, hb, hml, hown, hts, hK, hNW, hlocks, hA, hSX⟩ := id F
  have hl : lv_has ls 3 [(0, .int x1), (1, .int x2), (2, .int x3)] := hl
  have hW : Wd G A0 s ([]) s.heap [] := hW
  show W p l e rmX5_outside s m ([.int x1, .int x2, .int x3] : List Value).toArray below meth c s.heap [] 0 0 (Qi below G ([]) o A0 ([.int x1, .int x2, .int x3] : List Value).toArray s) (F0 m 0 ls [])
  refine lv_iload_n hx hb dX5_outside_0 rfl (lv_at hl 0 rfl) ?_
  refine lv_iload_n hx hb dX5_outside_1 rfl (lv_at hl 1 rfl) ?_
  obtain ⟨ht_2, hf_2⟩ := of_ite h
  refine lv_icmp_ge (tgt := 8) hx hb dX5_outside_2 (by decide) (fun c_2 => ?_) (fun c_2 => ?_)
  · have h := ht_2 c_2
    refine lv_iload_n hx hb dX5_outside_8 rfl (lv_at hl 0 rfl) ?_
    refine lv_iload_n hx hb dX5_outside_9 rfl (lv_at hl 2 rfl) ?_
    obtain ⟨ht_10, hf_10⟩ := of_ite h
    refine lv_icmp_le (tgt := 18) hx hb dX5_outside_10 (by decide) (fun c_10 => ?_) (fun c_10 => ?_)
    · have h := ht_10 c_10
      refine lv_iconst (v := (0 : Int32)) hx hb dX5_outside_18 (by decide) ?_
      obtain rfl := Option.some.inj h
      exact x_reti F hr hW rfl dX5_outside_19
    · have h := hf_10 c_10
      refine lv_bipush (v := (-6 : Int32)) hx hb dX5_outside_13 (by decide) ?_
      refine lv_goto (tgt := 19) hx hb dX5_outside_15 (by decide) ?_
      obtain rfl := Option.some.inj h
      exact x_reti F hr hW rfl dX5_outside_19
  · have h := hf_2 c_2
    refine lv_bipush (v := (-4 : Int32)) hx hb dX5_outside_5 (by decide) ?_
    obtain rfl := Option.some.inj h
    exact x_reti F hr hW rfl dX5_outside_7
def f_X5_heaps (w : EW) (x1 : Int32) (x2 : Int32) : Option (Int32 × EW) :=
  Option.bind (f_X1_isCell x1) fun p_1 =>
    if p_1 = 0 then
    Option.bind (f_X5_refuse w (-1 : Int32)) fun p_9 =>
    some (p_9.1, p_9.2)
    else
    Option.bind (f_X5_outside x2 (0 : Int32) (9 : Int32)) fun p_17 =>
    if p_17 = 0 then
    if inR x1 20 then
    nm (w.1.1.1 x1.toNatClampNeg) fun x_40 =>
    Option.bind (f_X1_putHeight w.1.1 x1 x2) fun p_48 =>
    some (x_40, ((p_48.2, w.1.2.1, w.1.2.2.1, w.1.2.2.2.1, w.1.2.2.2.2.1, w.1.2.2.2.2.2.1, w.1.2.2.2.2.2.2), w.2.1, w.2.2.1, w.2.2.2.1, w.2.2.2.2.1, w.2.2.2.2.2.1, w.2.2.2.2.2.2.1, w.2.2.2.2.2.2.2))
    else none
    else
    Option.bind (f_X5_refuse w p_17) fun p_27 =>
    some (p_27.1, p_27.2)
abbrev rmX5_heaps : Room := { frames := 2, cells := 0, slots := 0, locals := 42 }
set_option maxRecDepth 100000 in
set_option maxHeartbeats 4000000 in
theorem c_X5_heaps (l : Launch) (G : EnT) (q : Nat → Nat) (w : EW) (x1 : Int32) (x2 : Int32) (o : Int32 × EW) (h : f_X5_heaps w x1 x2 = some o) : Mi l yX5_heaps rmX5_heaps cX5_heaps 5 (some .int) G false [.ref (q 0), .int x1, .int x2] (cEW G q w) o.1 (cEW G q o.2) := by
  refine Mi_of (by decide) (Nat.le_of_ble_eq_true rfl) ?_
  intro p e s m below meth c A0 F hr hW ls hl
  obtain ⟨hx, hb, hml, hown, hts, hK, hNW, hlocks, hA, hSX⟩ := id F
  have hl : lv_has ls 5 [(0, .ref (q 0)), (1, .int x1), (2, .int x2)] := hl
  have hW : Wd G A0 s (cEW G q w) s.heap [] := hW
  show W p l e rmX5_heaps s m ([.ref (q 0), .int x1, .int x2] : List Value).toArray below meth c s.heap [] 0 0 (Qi below G (cEW G q o.2) o.1 A0 ([.ref (q 0), .int x1, .int x2] : List Value).toArray s) (F0 m 0 ls [])
  refine lv_iload_n hx hb dX5_heaps_0 rfl (lv_at hl 1 rfl) ?_
  obtain ⟨p_1, hc_1, h⟩ := of_bind h
  refine x_Si (av := [.int x1]) F hW (c_X1_isCell l G x1 _ hc_1) [] rfl rfl (by intro q; cases q) cs_X5_102 rfl rfl hl (Nat.le_of_ble_eq_true rfl) ⟨Nat.le_of_ble_eq_true rfl, Nat.le_of_ble_eq_true rfl⟩ ⟨rfl, rfl⟩ ⟨Nat.le_of_ble_eq_true rfl, Nat.le_of_ble_eq_true rfl⟩ dX5_heaps_1 rfl [none, none, none, none, none, none, none, none, none, none, none, none, none, none, none, none, none, none, none, none, none, none, none, none, none, none, none, none, none, none, none, none, none, none, none, none, none, none, none] rfl (ws' := cEW G q w) rfl (fun H locs hW => ?_)
  obtain ⟨ht_4, hf_4⟩ := of_ite h
  refine lv_if_ne (tgt := 13) hx hb dX5_heaps_4 (by decide) (fun c_4 => ?_) (fun c_4 => ?_)
  · have h := hf_4 c_4
    refine lv_iload_n hx hb dX5_heaps_13 rfl (lv_at hl 2 rfl) ?_
    refine lv_iconst (v := (0 : Int32)) hx hb dX5_heaps_14 (by decide) ?_
    refine lv_bipush (v := (9 : Int32)) hx hb dX5_heaps_15 (by decide) ?_
    obtain ⟨p_17, hc_17, h⟩ := of_bind h
    refine x_Si (av := [.int x2, .int (0 : Int32), .int (9 : Int32)]) F hW (c_X5_outside l G x2 (0 : Int32) (9 : Int32) _ hc_17) [] rfl rfl (by intro q; cases q) cs_X5_108 rfl rfl hl (Nat.le_of_ble_eq_true rfl) ⟨Nat.le_of_ble_eq_true rfl, Nat.le_of_ble_eq_true rfl⟩ ⟨rfl, rfl⟩ ⟨Nat.le_of_ble_eq_true rfl, Nat.le_of_ble_eq_true rfl⟩ dX5_heaps_17 rfl [none, none, none, none, none, none, none, none, none, none, none, none, none, none, none, none, none, none, none, none, none, none, none, none, none, none, none, none, none, none, none, none, none, none, none, none, none, none, none] rfl (ws' := cEW G q w) rfl (fun H locs hW => ?_)
    refine lv_istore_n (lv' := [(3, .int p_17), (0, .ref (q 0)), (1, .int x1), (2, .int x2)]) hx hb dX5_heaps_20 rfl hl (by decide) rfl (fun ls hl => ?_)
    refine lv_iload_n hx hb dX5_heaps_21 rfl (lv_at hl 0 rfl) ?_
    obtain ⟨ht_22, hf_22⟩ := of_ite h
    refine lv_if_eq (tgt := 31) hx hb dX5_heaps_22 (by decide) (fun c_22 => ?_) (fun c_22 => ?_)
    · have h := ht_22 c_22
      refine lv_aload_n hx hb dX5_heaps_31 rfl (lv_at hl 1 rfl) ?_
      refine x_get F hW 0 rfl fa_X5_20 rfl dX5_heaps_32 ?_
      refine x_get F hW 2 rfl fa_X5_105 rfl dX5_heaps_35 ?_
      refine lv_iload_n hx hb dX5_heaps_38 rfl (lv_at hl 2 rfl) ?_
      obtain ⟨g_39, h⟩ := of_guard h
      refine x_iald F hW 3 rfl g_39 dX5_heaps_39 ?_
      obtain ⟨x_40, e_x_40, h⟩ := of_nm h
      refine x_topi e_x_40 ?_
      refine lv_istore (lv' := [(4, .int x_40), (3, .int p_17), (0, .ref (q 0)), (1, .int x1), (2, .int x2)]) hx hb dX5_heaps_40 hl (by decide) rfl (fun ls hl => ?_)
      refine lv_aload_n hx hb dX5_heaps_42 rfl (lv_at hl 2 rfl) ?_
      refine x_get F hW 0 rfl fa_X5_20 rfl dX5_heaps_43 ?_
      refine lv_iload_n hx hb dX5_heaps_46 rfl (lv_at hl 3 rfl) ?_
      refine lv_iload_n hx hb dX5_heaps_47 rfl (lv_at hl 4 rfl) ?_
      obtain ⟨p_48, hc_48, h⟩ := of_bind h
      refine x_Vi (av := [.ref (q 2), .int x1, .int x2]) (As := [.int x1, .int x2]) F hW (c_X1_putHeight l G (fun i => q (i + 2)) w.1.1 x1 x2 _ hc_48) [2, 3, 4, 5, 6, 7] rfl rfl (by intro q; cases q) cv_X5_112 rfl ⟨_, rfl, rfl⟩ rfl rfl rfl hl (Nat.le_of_ble_eq_true rfl) ⟨Nat.le_of_ble_eq_true rfl, Nat.le_of_ble_eq_true rfl⟩ ⟨rfl, rfl⟩ ⟨Nat.le_of_ble_eq_true rfl, Nat.le_of_ble_eq_true rfl⟩ dX5_heaps_48 rfl [none, none, some 0, some 1, some 2, some 3, some 4, some 5, none, none, none, none, none, none, none, none, none, none, none, none, none, none, none, none, none, none, none, none, none, none, none, none, none, none, none, none, none, none, none] rfl (ws' := cEW G q ((p_48.2, w.1.2.1, w.1.2.2.1, w.1.2.2.2.1, w.1.2.2.2.2.1, w.1.2.2.2.2.2.1, w.1.2.2.2.2.2.2), w.2.1, w.2.2.1, w.2.2.2.1, w.2.2.2.2.1, w.2.2.2.2.2.1, w.2.2.2.2.2.2.1, w.2.2.2.2.2.2.2)) rfl (fun H locs hW => ?_)
      refine lv_pop hx hb dX5_heaps_51 rfl ?_
      refine lv_iload hx hb dX5_heaps_52 (lv_at hl 0 rfl) ?_
      obtain rfl := Option.some.inj h
      exact x_reti F hr hW rfl dX5_heaps_54
    · have h := hf_22 c_22
      refine lv_aload_n hx hb dX5_heaps_25 rfl (lv_at hl 1 rfl) ?_
      refine lv_iload_n hx hb dX5_heaps_26 rfl (lv_at hl 0 rfl) ?_
      obtain ⟨p_27, hc_27, h⟩ := of_bind h
      refine x_Vi (av := [.ref (q 0), .int p_17]) (As := [.int p_17]) F hW (c_X5_refuse l G q w p_17 _ hc_27) [0, 1, 2, 3, 4, 5, 6, 7, 8, 9, 10, 11, 12, 13, 14, 15, 16, 17, 18, 19, 20, 21, 22, 23, 24, 25, 26, 27, 28, 29, 30, 31, 32, 33, 34, 35, 36, 37, 38] rfl rfl (by intro q; cases q) cv_X5_44 rfl ⟨_, rfl, rfl⟩ rfl rfl rfl hl (Nat.le_of_ble_eq_true rfl) ⟨Nat.le_of_ble_eq_true rfl, Nat.le_of_ble_eq_true rfl⟩ ⟨rfl, rfl⟩ ⟨Nat.le_of_ble_eq_true rfl, Nat.le_of_ble_eq_true rfl⟩ dX5_heaps_27 rfl [some 0, some 1, some 2, some 3, some 4, some 5, some 6, some 7, some 8, some 9, some 10, some 11, some 12, some 13, some 14, some 15, some 16, some 17, some 18, some 19, some 20, some 21, some 22, some 23, some 24, some 25, some 26, some 27, some 28, some 29, some 30, some 31, some 32, some 33, some 34, some 35, some 36, some 37, some 38] rfl (ws' := cEW G q p_27.2) rfl (fun H locs hW => ?_)
      obtain rfl := Option.some.inj h
      exact x_reti F hr hW rfl dX5_heaps_30
  · have h := ht_4 c_4
    refine lv_aload_n hx hb dX5_heaps_7 rfl (lv_at hl 0 rfl) ?_
    refine lv_iconst (v := (-1 : Int32)) hx hb dX5_heaps_8 (by decide) ?_
    obtain ⟨p_9, hc_9, h⟩ := of_bind h
    refine x_Vi (av := [.ref (q 0), .int (-1 : Int32)]) (As := [.int (-1 : Int32)]) F hW (c_X5_refuse l G q w (-1 : Int32) _ hc_9) [0, 1, 2, 3, 4, 5, 6, 7, 8, 9, 10, 11, 12, 13, 14, 15, 16, 17, 18, 19, 20, 21, 22, 23, 24, 25, 26, 27, 28, 29, 30, 31, 32, 33, 34, 35, 36, 37, 38] rfl rfl (by intro q; cases q) cv_X5_44 rfl ⟨_, rfl, rfl⟩ rfl rfl rfl hl (Nat.le_of_ble_eq_true rfl) ⟨Nat.le_of_ble_eq_true rfl, Nat.le_of_ble_eq_true rfl⟩ ⟨rfl, rfl⟩ ⟨Nat.le_of_ble_eq_true rfl, Nat.le_of_ble_eq_true rfl⟩ dX5_heaps_9 rfl [some 0, some 1, some 2, some 3, some 4, some 5, some 6, some 7, some 8, some 9, some 10, some 11, some 12, some 13, some 14, some 15, some 16, some 17, some 18, some 19, some 20, some 21, some 22, some 23, some 24, some 25, some 26, some 27, some 28, some 29, some 30, some 31, some 32, some 33, some 34, some 35, some 36, some 37, some 38] rfl (ws' := cEW G q p_9.2) rfl (fun H locs hW => ?_)
    obtain rfl := Option.some.inj h
    exact x_reti F hr hW rfl dX5_heaps_12
def f_X5_moves (w : EW) (x1 : Int32) (x2 : Int32) : Option (Int32 × EW) :=
  Option.bind (f_X1_isHouse w.1.1 x1) fun p_5 =>
    if p_5 = 0 then
    Option.bind (f_X5_refuse w (-1 : Int32)) fun p_20 =>
    some (p_20.1, p_20.2)
    else
    Option.bind (f_X1_isCell x2) fun p_12 =>
    if p_12 = 0 then
    Option.bind (f_X5_refuse w (-1 : Int32)) fun p_20_2 =>
    some (p_20_2.1, p_20_2.2)
    else
    if inR x1 8 then
    nm (w.1.1.2.2.2.1 x1.toNatClampNeg) fun x_33 =>
    Option.bind (f_X1_putHouse w.1.1 x1 x2) fun p_40 =>
    some (x_33, ((p_40.2, w.1.2.1, w.1.2.2.1, w.1.2.2.2.1, w.1.2.2.2.2.1, w.1.2.2.2.2.2.1, w.1.2.2.2.2.2.2), w.2.1, w.2.2.1, w.2.2.2.1, w.2.2.2.2.1, w.2.2.2.2.2.1, w.2.2.2.2.2.2.1, w.2.2.2.2.2.2.2))
    else none
abbrev rmX5_moves : Room := { frames := 2, cells := 0, slots := 0, locals := 43 }
set_option maxRecDepth 100000 in
set_option maxHeartbeats 4000000 in
theorem c_X5_moves (l : Launch) (G : EnT) (q : Nat → Nat) (w : EW) (x1 : Int32) (x2 : Int32) (o : Int32 × EW) (h : f_X5_moves w x1 x2 = some o) : Mi l yX5_moves rmX5_moves cX5_moves 4 (some .int) G false [.ref (q 0), .int x1, .int x2] (cEW G q w) o.1 (cEW G q o.2) := by
  refine Mi_of (by decide) (Nat.le_of_ble_eq_true rfl) ?_
  intro p e s m below meth c A0 F hr hW ls hl
  obtain ⟨hx, hb, hml, hown, hts, hK, hNW, hlocks, hA, hSX⟩ := id F
  have hl : lv_has ls 4 [(0, .ref (q 0)), (1, .int x1), (2, .int x2)] := hl
  have hW : Wd G A0 s (cEW G q w) s.heap [] := hW
  show W p l e rmX5_moves s m ([.ref (q 0), .int x1, .int x2] : List Value).toArray below meth c s.heap [] 0 0 (Qi below G (cEW G q o.2) o.1 A0 ([.ref (q 0), .int x1, .int x2] : List Value).toArray s) (F0 m 0 ls [])
  refine lv_aload_n hx hb dX5_moves_0 rfl (lv_at hl 0 rfl) ?_
  refine x_get F hW 0 rfl fa_X5_20 rfl dX5_moves_1 ?_
  refine lv_iload_n hx hb dX5_moves_4 rfl (lv_at hl 1 rfl) ?_
  obtain ⟨p_5, hc_5, h⟩ := of_bind h
  refine x_Vi (av := [.ref (q 2), .int x1]) (As := [.int x1]) F hW (c_X1_isHouse l G (fun i => q (i + 2)) w.1.1 x1 _ hc_5) [2, 3, 4, 5, 6, 7] rfl rfl (by intro q; cases q) cv_X5_74 rfl ⟨_, rfl, rfl⟩ rfl rfl rfl hl (Nat.le_of_ble_eq_true rfl) ⟨Nat.le_of_ble_eq_true rfl, Nat.le_of_ble_eq_true rfl⟩ ⟨rfl, rfl⟩ ⟨Nat.le_of_ble_eq_true rfl, Nat.le_of_ble_eq_true rfl⟩ dX5_moves_5 rfl [none, none, some 0, some 1, some 2, some 3, some 4, some 5, none, none, none, none, none, none, none, none, none, none, none, none, none, none, none, none, none, none, none, none, none, none, none, none, none, none, none, none, none, none, none] rfl (ws' := cEW G q w) rfl (fun H locs hW => ?_)
  obtain ⟨ht_8, hf_8⟩ := of_ite h
  refine lv_if_eq (tgt := 18) hx hb dX5_moves_8 (by decide) (fun c_8 => ?_) (fun c_8 => ?_)
  · have h := ht_8 c_8
    refine lv_aload_n hx hb dX5_moves_18 rfl (lv_at hl 0 rfl) ?_
    refine lv_iconst (v := (-1 : Int32)) hx hb dX5_moves_19 (by decide) ?_
    obtain ⟨p_20, hc_20, h⟩ := of_bind h
    refine x_Vi (av := [.ref (q 0), .int (-1 : Int32)]) (As := [.int (-1 : Int32)]) F hW (c_X5_refuse l G q w (-1 : Int32) _ hc_20) [0, 1, 2, 3, 4, 5, 6, 7, 8, 9, 10, 11, 12, 13, 14, 15, 16, 17, 18, 19, 20, 21, 22, 23, 24, 25, 26, 27, 28, 29, 30, 31, 32, 33, 34, 35, 36, 37, 38] rfl rfl (by intro q; cases q) cv_X5_44 rfl ⟨_, rfl, rfl⟩ rfl rfl rfl hl (Nat.le_of_ble_eq_true rfl) ⟨Nat.le_of_ble_eq_true rfl, Nat.le_of_ble_eq_true rfl⟩ ⟨rfl, rfl⟩ ⟨Nat.le_of_ble_eq_true rfl, Nat.le_of_ble_eq_true rfl⟩ dX5_moves_20 rfl [some 0, some 1, some 2, some 3, some 4, some 5, some 6, some 7, some 8, some 9, some 10, some 11, some 12, some 13, some 14, some 15, some 16, some 17, some 18, some 19, some 20, some 21, some 22, some 23, some 24, some 25, some 26, some 27, some 28, some 29, some 30, some 31, some 32, some 33, some 34, some 35, some 36, some 37, some 38] rfl (ws' := cEW G q p_20.2) rfl (fun H locs hW => ?_)
    obtain rfl := Option.some.inj h
    exact x_reti F hr hW rfl dX5_moves_23
  · have h := hf_8 c_8
    refine lv_iload_n hx hb dX5_moves_11 rfl (lv_at hl 2 rfl) ?_
    obtain ⟨p_12, hc_12, h⟩ := of_bind h
    refine x_Si (av := [.int x2]) F hW (c_X1_isCell l G x2 _ hc_12) [] rfl rfl (by intro q; cases q) cs_X5_102 rfl rfl hl (Nat.le_of_ble_eq_true rfl) ⟨Nat.le_of_ble_eq_true rfl, Nat.le_of_ble_eq_true rfl⟩ ⟨rfl, rfl⟩ ⟨Nat.le_of_ble_eq_true rfl, Nat.le_of_ble_eq_true rfl⟩ dX5_moves_12 rfl [none, none, none, none, none, none, none, none, none, none, none, none, none, none, none, none, none, none, none, none, none, none, none, none, none, none, none, none, none, none, none, none, none, none, none, none, none, none, none] rfl (ws' := cEW G q w) rfl (fun H locs hW => ?_)
    obtain ⟨ht_15, hf_15⟩ := of_ite h
    refine lv_if_ne (tgt := 24) hx hb dX5_moves_15 (by decide) (fun c_15 => ?_) (fun c_15 => ?_)
    · have h := hf_15 c_15
      refine lv_aload_n hx hb dX5_moves_24 rfl (lv_at hl 0 rfl) ?_
      refine x_get F hW 0 rfl fa_X5_20 rfl dX5_moves_25 ?_
      refine x_get F hW 2 rfl fa_X5_84 rfl dX5_moves_28 ?_
      refine lv_iload_n hx hb dX5_moves_31 rfl (lv_at hl 1 rfl) ?_
      obtain ⟨g_32, h⟩ := of_guard h
      refine x_iald F hW 6 rfl g_32 dX5_moves_32 ?_
      obtain ⟨x_33, e_x_33, h⟩ := of_nm h
      refine x_topi e_x_33 ?_
      refine lv_istore_n (lv' := [(3, .int x_33), (0, .ref (q 0)), (1, .int x1), (2, .int x2)]) hx hb dX5_moves_33 rfl hl (by decide) rfl (fun ls hl => ?_)
      refine lv_aload_n hx hb dX5_moves_34 rfl (lv_at hl 1 rfl) ?_
      refine x_get F hW 0 rfl fa_X5_20 rfl dX5_moves_35 ?_
      refine lv_iload_n hx hb dX5_moves_38 rfl (lv_at hl 2 rfl) ?_
      refine lv_iload_n hx hb dX5_moves_39 rfl (lv_at hl 3 rfl) ?_
      obtain ⟨p_40, hc_40, h⟩ := of_bind h
      refine x_Vi (av := [.ref (q 2), .int x1, .int x2]) (As := [.int x1, .int x2]) F hW (c_X1_putHouse l G (fun i => q (i + 2)) w.1.1 x1 x2 _ hc_40) [2, 3, 4, 5, 6, 7] rfl rfl (by intro q; cases q) cv_X5_116 rfl ⟨_, rfl, rfl⟩ rfl rfl rfl hl (Nat.le_of_ble_eq_true rfl) ⟨Nat.le_of_ble_eq_true rfl, Nat.le_of_ble_eq_true rfl⟩ ⟨rfl, rfl⟩ ⟨Nat.le_of_ble_eq_true rfl, Nat.le_of_ble_eq_true rfl⟩ dX5_moves_40 rfl [none, none, some 0, some 1, some 2, some 3, some 4, some 5, none, none, none, none, none, none, none, none, none, none, none, none, none, none, none, none, none, none, none, none, none, none, none, none, none, none, none, none, none, none, none] rfl (ws' := cEW G q ((p_40.2, w.1.2.1, w.1.2.2.1, w.1.2.2.2.1, w.1.2.2.2.2.1, w.1.2.2.2.2.2.1, w.1.2.2.2.2.2.2), w.2.1, w.2.2.1, w.2.2.2.1, w.2.2.2.2.1, w.2.2.2.2.2.1, w.2.2.2.2.2.2.1, w.2.2.2.2.2.2.2)) rfl (fun H locs hW => ?_)
      refine lv_pop hx hb dX5_moves_43 rfl ?_
      refine lv_iload_n hx hb dX5_moves_44 rfl (lv_at hl 0 rfl) ?_
      obtain rfl := Option.some.inj h
      exact x_reti F hr hW rfl dX5_moves_45
    · have h := ht_15 c_15
      refine lv_aload_n hx hb dX5_moves_18 rfl (lv_at hl 0 rfl) ?_
      refine lv_iconst (v := (-1 : Int32)) hx hb dX5_moves_19 (by decide) ?_
      obtain ⟨p_20_2, hc_20, h⟩ := of_bind h
      refine x_Vi (av := [.ref (q 0), .int (-1 : Int32)]) (As := [.int (-1 : Int32)]) F hW (c_X5_refuse l G q w (-1 : Int32) _ hc_20) [0, 1, 2, 3, 4, 5, 6, 7, 8, 9, 10, 11, 12, 13, 14, 15, 16, 17, 18, 19, 20, 21, 22, 23, 24, 25, 26, 27, 28, 29, 30, 31, 32, 33, 34, 35, 36, 37, 38] rfl rfl (by intro q; cases q) cv_X5_44 rfl ⟨_, rfl, rfl⟩ rfl rfl rfl hl (Nat.le_of_ble_eq_true rfl) ⟨Nat.le_of_ble_eq_true rfl, Nat.le_of_ble_eq_true rfl⟩ ⟨rfl, rfl⟩ ⟨Nat.le_of_ble_eq_true rfl, Nat.le_of_ble_eq_true rfl⟩ dX5_moves_20 rfl [some 0, some 1, some 2, some 3, some 4, some 5, some 6, some 7, some 8, some 9, some 10, some 11, some 12, some 13, some 14, some 15, some 16, some 17, some 18, some 19, some 20, some 21, some 22, some 23, some 24, some 25, some 26, some 27, some 28, some 29, some 30, some 31, some 32, some 33, some 34, some 35, some 36, some 37, some 38] rfl (ws' := cEW G q p_20_2.2) rfl (fun H locs hW => ?_)
      obtain rfl := Option.some.inj h
      exact x_reti F hr hW rfl dX5_moves_23
def f_X5_gives (w : EW) (x1 : Int32) (x2 : Int32) : Option (Int32 × EW) :=
  Option.bind (f_X1_isHouse w.1.1 x1) fun p_5 =>
    if p_5 = 0 then
    Option.bind (f_X5_refuse w (-1 : Int32)) fun p_13 =>
    some (p_13.1, p_13.2)
    else
    Option.bind (f_X5_outside x2 (0 : Int32) (99 : Int32)) fun p_21 =>
    if p_21 = 0 then
    Option.bind (f_X1_addWicks w.1.1 x1 x2) fun p_41 =>
    if inR x1 8 then
    some ((p_41.2.2.2.2.2.1 x1.toNatClampNeg), ((p_41.2, w.1.2.1, w.1.2.2.1, w.1.2.2.2.1, w.1.2.2.2.2.1, w.1.2.2.2.2.2.1, w.1.2.2.2.2.2.2), w.2.1, w.2.2.1, w.2.2.2.1, w.2.2.2.2.1, w.2.2.2.2.2.1, w.2.2.2.2.2.2.1, w.2.2.2.2.2.2.2))
    else none
    else
    Option.bind (f_X5_refuse w p_21) fun p_31 =>
    some (p_31.1, p_31.2)
abbrev rmX5_gives : Room := { frames := 2, cells := 0, slots := 0, locals := 43 }
set_option maxRecDepth 100000 in
set_option maxHeartbeats 4000000 in
theorem c_X5_gives (l : Launch) (G : EnT) (q : Nat → Nat) (w : EW) (x1 : Int32) (x2 : Int32) (o : Int32 × EW) (h : f_X5_gives w x1 x2 = some o) : Mi l yX5_gives rmX5_gives cX5_gives 4 (some .int) G false [.ref (q 0), .int x1, .int x2] (cEW G q w) o.1 (cEW G q o.2) := by
  refine Mi_of (by decide) (Nat.le_of_ble_eq_true rfl) ?_
  intro p e s m below meth c A0 F hr hW ls hl
  obtain ⟨hx, hb, hml, hown, hts, hK, hNW, hlocks, hA, hSX⟩ := id F
  have hl : lv_has ls 4 [(0, .ref (q 0)), (1, .int x1), (2, .int x2)] := hl
  have hW : Wd G A0 s (cEW G q w) s.heap [] := hW
  show W p l e rmX5_gives s m ([.ref (q 0), .int x1, .int x2] : List Value).toArray below meth c s.heap [] 0 0 (Qi below G (cEW G q o.2) o.1 A0 ([.ref (q 0), .int x1, .int x2] : List Value).toArray s) (F0 m 0 ls [])
  refine lv_aload_n hx hb dX5_gives_0 rfl (lv_at hl 0 rfl) ?_
  refine x_get F hW 0 rfl fa_X5_20 rfl dX5_gives_1 ?_
  refine lv_iload_n hx hb dX5_gives_4 rfl (lv_at hl 1 rfl) ?_
  obtain ⟨p_5, hc_5, h⟩ := of_bind h
  refine x_Vi (av := [.ref (q 2), .int x1]) (As := [.int x1]) F hW (c_X1_isHouse l G (fun i => q (i + 2)) w.1.1 x1 _ hc_5) [2, 3, 4, 5, 6, 7] rfl rfl (by intro q; cases q) cv_X5_74 rfl ⟨_, rfl, rfl⟩ rfl rfl rfl hl (Nat.le_of_ble_eq_true rfl) ⟨Nat.le_of_ble_eq_true rfl, Nat.le_of_ble_eq_true rfl⟩ ⟨rfl, rfl⟩ ⟨Nat.le_of_ble_eq_true rfl, Nat.le_of_ble_eq_true rfl⟩ dX5_gives_5 rfl [none, none, some 0, some 1, some 2, some 3, some 4, some 5, none, none, none, none, none, none, none, none, none, none, none, none, none, none, none, none, none, none, none, none, none, none, none, none, none, none, none, none, none, none, none] rfl (ws' := cEW G q w) rfl (fun H locs hW => ?_)
  obtain ⟨ht_8, hf_8⟩ := of_ite h
  refine lv_if_ne (tgt := 17) hx hb dX5_gives_8 (by decide) (fun c_8 => ?_) (fun c_8 => ?_)
  · have h := hf_8 c_8
    refine lv_iload_n hx hb dX5_gives_17 rfl (lv_at hl 2 rfl) ?_
    refine lv_iconst (v := (0 : Int32)) hx hb dX5_gives_18 (by decide) ?_
    refine lv_bipush (v := (99 : Int32)) hx hb dX5_gives_19 (by decide) ?_
    obtain ⟨p_21, hc_21, h⟩ := of_bind h
    refine x_Si (av := [.int x2, .int (0 : Int32), .int (99 : Int32)]) F hW (c_X5_outside l G x2 (0 : Int32) (99 : Int32) _ hc_21) [] rfl rfl (by intro q; cases q) cs_X5_108 rfl rfl hl (Nat.le_of_ble_eq_true rfl) ⟨Nat.le_of_ble_eq_true rfl, Nat.le_of_ble_eq_true rfl⟩ ⟨rfl, rfl⟩ ⟨Nat.le_of_ble_eq_true rfl, Nat.le_of_ble_eq_true rfl⟩ dX5_gives_21 rfl [none, none, none, none, none, none, none, none, none, none, none, none, none, none, none, none, none, none, none, none, none, none, none, none, none, none, none, none, none, none, none, none, none, none, none, none, none, none, none] rfl (ws' := cEW G q w) rfl (fun H locs hW => ?_)
    refine lv_istore_n (lv' := [(3, .int p_21), (0, .ref (q 0)), (1, .int x1), (2, .int x2)]) hx hb dX5_gives_24 rfl hl (by decide) rfl (fun ls hl => ?_)
    refine lv_iload_n hx hb dX5_gives_25 rfl (lv_at hl 0 rfl) ?_
    obtain ⟨ht_26, hf_26⟩ := of_ite h
    refine lv_if_eq (tgt := 35) hx hb dX5_gives_26 (by decide) (fun c_26 => ?_) (fun c_26 => ?_)
    · have h := ht_26 c_26
      refine lv_aload_n hx hb dX5_gives_35 rfl (lv_at hl 1 rfl) ?_
      refine x_get F hW 0 rfl fa_X5_20 rfl dX5_gives_36 ?_
      refine lv_iload_n hx hb dX5_gives_39 rfl (lv_at hl 2 rfl) ?_
      refine lv_iload_n hx hb dX5_gives_40 rfl (lv_at hl 3 rfl) ?_
      obtain ⟨p_41, hc_41, h⟩ := of_bind h
      refine x_Vi (av := [.ref (q 2), .int x1, .int x2]) (As := [.int x1, .int x2]) F hW (c_X1_addWicks l G (fun i => q (i + 2)) w.1.1 x1 x2 _ hc_41) [2, 3, 4, 5, 6, 7] rfl rfl (by intro q; cases q) cv_X5_119 rfl ⟨_, rfl, rfl⟩ rfl rfl rfl hl (Nat.le_of_ble_eq_true rfl) ⟨Nat.le_of_ble_eq_true rfl, Nat.le_of_ble_eq_true rfl⟩ ⟨rfl, rfl⟩ ⟨Nat.le_of_ble_eq_true rfl, Nat.le_of_ble_eq_true rfl⟩ dX5_gives_41 rfl [none, none, some 0, some 1, some 2, some 3, some 4, some 5, none, none, none, none, none, none, none, none, none, none, none, none, none, none, none, none, none, none, none, none, none, none, none, none, none, none, none, none, none, none, none] rfl (ws' := cEW G q ((p_41.2, w.1.2.1, w.1.2.2.1, w.1.2.2.2.1, w.1.2.2.2.2.1, w.1.2.2.2.2.2.1, w.1.2.2.2.2.2.2), w.2.1, w.2.2.1, w.2.2.2.1, w.2.2.2.2.1, w.2.2.2.2.2.1, w.2.2.2.2.2.2.1, w.2.2.2.2.2.2.2)) rfl (fun H locs hW => ?_)
      refine lv_pop hx hb dX5_gives_44 rfl ?_
      refine lv_aload_n hx hb dX5_gives_45 rfl (lv_at hl 1 rfl) ?_
      refine x_get F hW 0 rfl fa_X5_20 rfl dX5_gives_46 ?_
      refine x_get F hW 2 rfl fa_X5_87 rfl dX5_gives_49 ?_
      refine lv_iload_n hx hb dX5_gives_52 rfl (lv_at hl 2 rfl) ?_
      obtain ⟨g_53, h⟩ := of_guard h
      refine x_iald F hW 7 rfl g_53 dX5_gives_53 ?_
      obtain rfl := Option.some.inj h
      exact x_reti F hr hW rfl dX5_gives_54
    · have h := hf_26 c_26
      refine lv_aload_n hx hb dX5_gives_29 rfl (lv_at hl 1 rfl) ?_
      refine lv_iload_n hx hb dX5_gives_30 rfl (lv_at hl 0 rfl) ?_
      obtain ⟨p_31, hc_31, h⟩ := of_bind h
      refine x_Vi (av := [.ref (q 0), .int p_21]) (As := [.int p_21]) F hW (c_X5_refuse l G q w p_21 _ hc_31) [0, 1, 2, 3, 4, 5, 6, 7, 8, 9, 10, 11, 12, 13, 14, 15, 16, 17, 18, 19, 20, 21, 22, 23, 24, 25, 26, 27, 28, 29, 30, 31, 32, 33, 34, 35, 36, 37, 38] rfl rfl (by intro q; cases q) cv_X5_44 rfl ⟨_, rfl, rfl⟩ rfl rfl rfl hl (Nat.le_of_ble_eq_true rfl) ⟨Nat.le_of_ble_eq_true rfl, Nat.le_of_ble_eq_true rfl⟩ ⟨rfl, rfl⟩ ⟨Nat.le_of_ble_eq_true rfl, Nat.le_of_ble_eq_true rfl⟩ dX5_gives_31 rfl [some 0, some 1, some 2, some 3, some 4, some 5, some 6, some 7, some 8, some 9, some 10, some 11, some 12, some 13, some 14, some 15, some 16, some 17, some 18, some 19, some 20, some 21, some 22, some 23, some 24, some 25, some 26, some 27, some 28, some 29, some 30, some 31, some 32, some 33, some 34, some 35, some 36, some 37, some 38] rfl (ws' := cEW G q p_31.2) rfl (fun H locs hW => ?_)
      obtain rfl := Option.some.inj h
      exact x_reti F hr hW rfl dX5_gives_34
  · have h := ht_8 c_8
    refine lv_aload_n hx hb dX5_gives_11 rfl (lv_at hl 0 rfl) ?_
    refine lv_iconst (v := (-1 : Int32)) hx hb dX5_gives_12 (by decide) ?_
    obtain ⟨p_13, hc_13, h⟩ := of_bind h
    refine x_Vi (av := [.ref (q 0), .int (-1 : Int32)]) (As := [.int (-1 : Int32)]) F hW (c_X5_refuse l G q w (-1 : Int32) _ hc_13) [0, 1, 2, 3, 4, 5, 6, 7, 8, 9, 10, 11, 12, 13, 14, 15, 16, 17, 18, 19, 20, 21, 22, 23, 24, 25, 26, 27, 28, 29, 30, 31, 32, 33, 34, 35, 36, 37, 38] rfl rfl (by intro q; cases q) cv_X5_44 rfl ⟨_, rfl, rfl⟩ rfl rfl rfl hl (Nat.le_of_ble_eq_true rfl) ⟨Nat.le_of_ble_eq_true rfl, Nat.le_of_ble_eq_true rfl⟩ ⟨rfl, rfl⟩ ⟨Nat.le_of_ble_eq_true rfl, Nat.le_of_ble_eq_true rfl⟩ dX5_gives_13 rfl [some 0, some 1, some 2, some 3, some 4, some 5, some 6, some 7, some 8, some 9, some 10, some 11, some 12, some 13, some 14, some 15, some 16, some 17, some 18, some 19, some 20, some 21, some 22, some 23, some 24, some 25, some 26, some 27, some 28, some 29, some 30, some 31, some 32, some 33, some 34, some 35, some 36, some 37, some 38] rfl (ws' := cEW G q p_13.2) rfl (fun H locs hW => ?_)
    obtain rfl := Option.some.inj h
    exact x_reti F hr hW rfl dX5_gives_16
def f_X5_calls (w : EW) (x1 : Int32) : Option (Int32 × EW) :=
  Option.bind (f_X1_isHouse w.1.1 x1) fun p_5 =>
    if p_5 = 0 then
    Option.bind (f_X5_refuse w (-1 : Int32)) fun p_13 =>
    some (p_13.1, p_13.2)
    else
    Option.bind (f_X1_switchCall w.1.1 x1) fun p_22 =>
    Option.bind (f_X1_isCalled p_22.2 x1) fun p_31 =>
    if p_31 = 0 then
    some ((0 : Int32), ((p_22.2, w.1.2.1, w.1.2.2.1, w.1.2.2.2.1, w.1.2.2.2.2.1, w.1.2.2.2.2.2.1, w.1.2.2.2.2.2.2), w.2.1, w.2.2.1, w.2.2.2.1, w.2.2.2.2.1, w.2.2.2.2.2.1, w.2.2.2.2.2.2.1, w.2.2.2.2.2.2.2))
    else
    some ((1 : Int32), ((p_22.2, w.1.2.1, w.1.2.2.1, w.1.2.2.2.1, w.1.2.2.2.2.1, w.1.2.2.2.2.2.1, w.1.2.2.2.2.2.2), w.2.1, w.2.2.1, w.2.2.2.1, w.2.2.2.2.1, w.2.2.2.2.2.1, w.2.2.2.2.2.2.1, w.2.2.2.2.2.2.2))
abbrev rmX5_calls : Room := { frames := 2, cells := 0, slots := 0, locals := 42 }
set_option maxRecDepth 100000 in
set_option maxHeartbeats 4000000 in
theorem c_X5_calls (l : Launch) (G : EnT) (q : Nat → Nat) (w : EW) (x1 : Int32) (o : Int32 × EW) (h : f_X5_calls w x1 = some o) : Mi l yX5_calls rmX5_calls cX5_calls 2 (some .int) G false [.ref (q 0), .int x1] (cEW G q w) o.1 (cEW G q o.2) := by
  refine Mi_of (by decide) (Nat.le_of_ble_eq_true rfl) ?_
  intro p e s m below meth c A0 F hr hW ls hl
  obtain ⟨hx, hb, hml, hown, hts, hK, hNW, hlocks, hA, hSX⟩ := id F
  have hl : lv_has ls 2 [(0, .ref (q 0)), (1, .int x1)] := hl
  have hW : Wd G A0 s (cEW G q w) s.heap [] := hW
  show W p l e rmX5_calls s m ([.ref (q 0), .int x1] : List Value).toArray below meth c s.heap [] 0 0 (Qi below G (cEW G q o.2) o.1 A0 ([.ref (q 0), .int x1] : List Value).toArray s) (F0 m 0 ls [])
  refine lv_aload_n hx hb dX5_calls_0 rfl (lv_at hl 0 rfl) ?_
  refine x_get F hW 0 rfl fa_X5_20 rfl dX5_calls_1 ?_
  refine lv_iload_n hx hb dX5_calls_4 rfl (lv_at hl 1 rfl) ?_
  obtain ⟨p_5, hc_5, h⟩ := of_bind h
  refine x_Vi (av := [.ref (q 2), .int x1]) (As := [.int x1]) F hW (c_X1_isHouse l G (fun i => q (i + 2)) w.1.1 x1 _ hc_5) [2, 3, 4, 5, 6, 7] rfl rfl (by intro q; cases q) cv_X5_74 rfl ⟨_, rfl, rfl⟩ rfl rfl rfl hl (Nat.le_of_ble_eq_true rfl) ⟨Nat.le_of_ble_eq_true rfl, Nat.le_of_ble_eq_true rfl⟩ ⟨rfl, rfl⟩ ⟨Nat.le_of_ble_eq_true rfl, Nat.le_of_ble_eq_true rfl⟩ dX5_calls_5 rfl [none, none, some 0, some 1, some 2, some 3, some 4, some 5, none, none, none, none, none, none, none, none, none, none, none, none, none, none, none, none, none, none, none, none, none, none, none, none, none, none, none, none, none, none, none] rfl (ws' := cEW G q w) rfl (fun H locs hW => ?_)
  obtain ⟨ht_8, hf_8⟩ := of_ite h
  refine lv_if_ne (tgt := 17) hx hb dX5_calls_8 (by decide) (fun c_8 => ?_) (fun c_8 => ?_)
  · have h := hf_8 c_8
    refine lv_aload_n hx hb dX5_calls_17 rfl (lv_at hl 0 rfl) ?_
    refine x_get F hW 0 rfl fa_X5_20 rfl dX5_calls_18 ?_
    refine lv_iload_n hx hb dX5_calls_21 rfl (lv_at hl 1 rfl) ?_
    obtain ⟨p_22, hc_22, h⟩ := of_bind h
    refine x_Vi (av := [.ref (q 2), .int x1]) (As := [.int x1]) F hW (c_X1_switchCall l G (fun i => q (i + 2)) w.1.1 x1 _ hc_22) [2, 3, 4, 5, 6, 7] rfl rfl (by intro q; cases q) cv_X5_122 rfl ⟨_, rfl, rfl⟩ rfl rfl rfl hl (Nat.le_of_ble_eq_true rfl) ⟨Nat.le_of_ble_eq_true rfl, Nat.le_of_ble_eq_true rfl⟩ ⟨rfl, rfl⟩ ⟨Nat.le_of_ble_eq_true rfl, Nat.le_of_ble_eq_true rfl⟩ dX5_calls_22 rfl [none, none, some 0, some 1, some 2, some 3, some 4, some 5, none, none, none, none, none, none, none, none, none, none, none, none, none, none, none, none, none, none, none, none, none, none, none, none, none, none, none, none, none, none, none] rfl (ws' := cEW G q ((p_22.2, w.1.2.1, w.1.2.2.1, w.1.2.2.2.1, w.1.2.2.2.2.1, w.1.2.2.2.2.2.1, w.1.2.2.2.2.2.2), w.2.1, w.2.2.1, w.2.2.2.1, w.2.2.2.2.1, w.2.2.2.2.2.1, w.2.2.2.2.2.2.1, w.2.2.2.2.2.2.2)) rfl (fun H locs hW => ?_)
    refine lv_pop hx hb dX5_calls_25 rfl ?_
    refine lv_aload_n hx hb dX5_calls_26 rfl (lv_at hl 0 rfl) ?_
    refine x_get F hW 0 rfl fa_X5_20 rfl dX5_calls_27 ?_
    refine lv_iload_n hx hb dX5_calls_30 rfl (lv_at hl 1 rfl) ?_
    obtain ⟨p_31, hc_31, h⟩ := of_bind h
    refine x_Vi (av := [.ref (q 2), .int x1]) (As := [.int x1]) F hW (c_X1_isCalled l G (fun i => q (i + 2)) p_22.2 x1 _ hc_31) [2, 3, 4, 5, 6, 7] rfl rfl (by intro q; cases q) cv_X5_90 rfl ⟨_, rfl, rfl⟩ rfl rfl rfl hl (Nat.le_of_ble_eq_true rfl) ⟨Nat.le_of_ble_eq_true rfl, Nat.le_of_ble_eq_true rfl⟩ ⟨rfl, rfl⟩ ⟨Nat.le_of_ble_eq_true rfl, Nat.le_of_ble_eq_true rfl⟩ dX5_calls_31 rfl [none, none, some 0, some 1, some 2, some 3, some 4, some 5, none, none, none, none, none, none, none, none, none, none, none, none, none, none, none, none, none, none, none, none, none, none, none, none, none, none, none, none, none, none, none] rfl (ws' := cEW G q ((p_22.2, w.1.2.1, w.1.2.2.1, w.1.2.2.2.1, w.1.2.2.2.2.1, w.1.2.2.2.2.2.1, w.1.2.2.2.2.2.2), w.2.1, w.2.2.1, w.2.2.2.1, w.2.2.2.2.1, w.2.2.2.2.2.1, w.2.2.2.2.2.2.1, w.2.2.2.2.2.2.2)) rfl (fun H locs hW => ?_)
    obtain ⟨ht_34, hf_34⟩ := of_ite h
    refine lv_if_eq (tgt := 41) hx hb dX5_calls_34 (by decide) (fun c_34 => ?_) (fun c_34 => ?_)
    · have h := ht_34 c_34
      refine lv_iconst (v := (0 : Int32)) hx hb dX5_calls_41 (by decide) ?_
      obtain rfl := Option.some.inj h
      exact x_reti F hr hW rfl dX5_calls_42
    · have h := hf_34 c_34
      refine lv_iconst (v := (1 : Int32)) hx hb dX5_calls_37 (by decide) ?_
      refine lv_goto (tgt := 42) hx hb dX5_calls_38 (by decide) ?_
      obtain rfl := Option.some.inj h
      exact x_reti F hr hW rfl dX5_calls_42
  · have h := ht_8 c_8
    refine lv_aload_n hx hb dX5_calls_11 rfl (lv_at hl 0 rfl) ?_
    refine lv_iconst (v := (-1 : Int32)) hx hb dX5_calls_12 (by decide) ?_
    obtain ⟨p_13, hc_13, h⟩ := of_bind h
    refine x_Vi (av := [.ref (q 0), .int (-1 : Int32)]) (As := [.int (-1 : Int32)]) F hW (c_X5_refuse l G q w (-1 : Int32) _ hc_13) [0, 1, 2, 3, 4, 5, 6, 7, 8, 9, 10, 11, 12, 13, 14, 15, 16, 17, 18, 19, 20, 21, 22, 23, 24, 25, 26, 27, 28, 29, 30, 31, 32, 33, 34, 35, 36, 37, 38] rfl rfl (by intro q; cases q) cv_X5_44 rfl ⟨_, rfl, rfl⟩ rfl rfl rfl hl (Nat.le_of_ble_eq_true rfl) ⟨Nat.le_of_ble_eq_true rfl, Nat.le_of_ble_eq_true rfl⟩ ⟨rfl, rfl⟩ ⟨Nat.le_of_ble_eq_true rfl, Nat.le_of_ble_eq_true rfl⟩ dX5_calls_13 rfl [some 0, some 1, some 2, some 3, some 4, some 5, some 6, some 7, some 8, some 9, some 10, some 11, some 12, some 13, some 14, some 15, some 16, some 17, some 18, some 19, some 20, some 21, some 22, some 23, some 24, some 25, some 26, some 27, some 28, some 29, some 30, some 31, some 32, some 33, some 34, some 35, some 36, some 37, some 38] rfl (ws' := cEW G q p_13.2) rfl (fun H locs hW => ?_)
    obtain rfl := Option.some.inj h
    exact x_reti F hr hW rfl dX5_calls_16
def f_X5_fog (w : EW) (x1 : Int32) : Option (Int32 × EW) :=
  Option.bind (f_X5_outside x1 (0 : Int32) (9 : Int32)) fun p_4 =>
    if p_4 = 0 then
    nm w.1.1.2.2.2.2.2.2.2.1 fun x_25 =>
    some (x_25, (((w.1.1.1, w.1.1.2.1, w.1.1.2.2.1, w.1.1.2.2.2.1, w.1.1.2.2.2.2.1, w.1.1.2.2.2.2.2.1, w.1.1.2.2.2.2.2.2.1, x1, w.1.1.2.2.2.2.2.2.2.2), w.1.2.1, w.1.2.2.1, w.1.2.2.2.1, w.1.2.2.2.2.1, w.1.2.2.2.2.2.1, w.1.2.2.2.2.2.2), w.2.1, w.2.2.1, w.2.2.2.1, w.2.2.2.2.1, w.2.2.2.2.2.1, w.2.2.2.2.2.2.1, w.2.2.2.2.2.2.2))
    else
    Option.bind (f_X5_refuse w p_4) fun p_14 =>
    some (p_14.1, p_14.2)
abbrev rmX5_fog : Room := { frames := 1, cells := 0, slots := 0, locals := 22 }
set_option maxRecDepth 100000 in
set_option maxHeartbeats 4000000 in
theorem c_X5_fog (l : Launch) (G : EnT) (q : Nat → Nat) (w : EW) (x1 : Int32) (o : Int32 × EW) (h : f_X5_fog w x1 = some o) : Mi l yX5_fog rmX5_fog cX5_fog 4 (some .int) G false [.ref (q 0), .int x1] (cEW G q w) o.1 (cEW G q o.2) := by
  refine Mi_of (by decide) (Nat.le_of_ble_eq_true rfl) ?_
  intro p e s m below meth c A0 F hr hW ls hl
  obtain ⟨hx, hb, hml, hown, hts, hK, hNW, hlocks, hA, hSX⟩ := id F
  have hl : lv_has ls 4 [(0, .ref (q 0)), (1, .int x1)] := hl
  have hW : Wd G A0 s (cEW G q w) s.heap [] := hW
  show W p l e rmX5_fog s m ([.ref (q 0), .int x1] : List Value).toArray below meth c s.heap [] 0 0 (Qi below G (cEW G q o.2) o.1 A0 ([.ref (q 0), .int x1] : List Value).toArray s) (F0 m 0 ls [])
  refine lv_iload_n hx hb dX5_fog_0 rfl (lv_at hl 1 rfl) ?_
  refine lv_iconst (v := (0 : Int32)) hx hb dX5_fog_1 (by decide) ?_
  refine lv_bipush (v := (9 : Int32)) hx hb dX5_fog_2 (by decide) ?_
  obtain ⟨p_4, hc_4, h⟩ := of_bind h
  refine x_Si (av := [.int x1, .int (0 : Int32), .int (9 : Int32)]) F hW (c_X5_outside l G x1 (0 : Int32) (9 : Int32) _ hc_4) [] rfl rfl (by intro q; cases q) cs_X5_108 rfl rfl hl (Nat.le_of_ble_eq_true rfl) ⟨Nat.le_of_ble_eq_true rfl, Nat.le_of_ble_eq_true rfl⟩ ⟨rfl, rfl⟩ ⟨Nat.le_of_ble_eq_true rfl, Nat.le_of_ble_eq_true rfl⟩ dX5_fog_4 rfl [none, none, none, none, none, none, none, none, none, none, none, none, none, none, none, none, none, none, none, none, none, none, none, none, none, none, none, none, none, none, none, none, none, none, none, none, none, none, none] rfl (ws' := cEW G q w) rfl (fun H locs hW => ?_)
  refine lv_istore_n (lv' := [(2, .int p_4), (0, .ref (q 0)), (1, .int x1)]) hx hb dX5_fog_7 rfl hl (by decide) rfl (fun ls hl => ?_)
  refine lv_iload_n hx hb dX5_fog_8 rfl (lv_at hl 0 rfl) ?_
  obtain ⟨ht_9, hf_9⟩ := of_ite h
  refine lv_if_eq (tgt := 18) hx hb dX5_fog_9 (by decide) (fun c_9 => ?_) (fun c_9 => ?_)
  · have h := ht_9 c_9
    refine lv_aload_n hx hb dX5_fog_18 rfl (lv_at hl 1 rfl) ?_
    refine x_get F hW 0 rfl fa_X5_20 rfl dX5_fog_19 ?_
    refine x_get F hW 2 rfl fa_X5_125 rfl dX5_fog_22 ?_
    obtain ⟨x_25, e_x_25, h⟩ := of_nm h
    refine x_topi e_x_25 ?_
    refine lv_istore_n (lv' := [(3, .int x_25), (2, .int p_4), (0, .ref (q 0)), (1, .int x1)]) hx hb dX5_fog_25 rfl hl (by decide) rfl (fun ls hl => ?_)
    refine lv_aload_n hx hb dX5_fog_26 rfl (lv_at hl 2 rfl) ?_
    refine x_get F hW 0 rfl fa_X5_20 rfl dX5_fog_27 ?_
    refine lv_iload_n hx hb dX5_fog_30 rfl (lv_at hl 3 rfl) ?_
    refine x_put F hW 2 rfl fp_X5_125 rfl rfl (Nat.le_of_ble_eq_true rfl) (ws' := cEW G q (((w.1.1.1, w.1.1.2.1, w.1.1.2.2.1, w.1.1.2.2.2.1, w.1.1.2.2.2.2.1, w.1.1.2.2.2.2.2.1, w.1.1.2.2.2.2.2.2.1, x1, w.1.1.2.2.2.2.2.2.2.2), w.1.2.1, w.1.2.2.1, w.1.2.2.2.1, w.1.2.2.2.2.1, w.1.2.2.2.2.2.1, w.1.2.2.2.2.2.2), w.2.1, w.2.2.1, w.2.2.2.1, w.2.2.2.2.1, w.2.2.2.2.2.1, w.2.2.2.2.2.2.1, w.2.2.2.2.2.2.2)) rfl dX5_fog_31 (fun H locs hW => ?_)
    refine lv_iload_n hx hb dX5_fog_34 rfl (lv_at hl 0 rfl) ?_
    obtain rfl := Option.some.inj h
    exact x_reti F hr hW rfl dX5_fog_35
  · have h := hf_9 c_9
    refine lv_aload_n hx hb dX5_fog_12 rfl (lv_at hl 1 rfl) ?_
    refine lv_iload_n hx hb dX5_fog_13 rfl (lv_at hl 0 rfl) ?_
    obtain ⟨p_14, hc_14, h⟩ := of_bind h
    refine x_Vi (av := [.ref (q 0), .int p_4]) (As := [.int p_4]) F hW (c_X5_refuse l G q w p_4 _ hc_14) [0, 1, 2, 3, 4, 5, 6, 7, 8, 9, 10, 11, 12, 13, 14, 15, 16, 17, 18, 19, 20, 21, 22, 23, 24, 25, 26, 27, 28, 29, 30, 31, 32, 33, 34, 35, 36, 37, 38] rfl rfl (by intro q; cases q) cv_X5_44 rfl ⟨_, rfl, rfl⟩ rfl rfl rfl hl (Nat.le_of_ble_eq_true rfl) ⟨Nat.le_of_ble_eq_true rfl, Nat.le_of_ble_eq_true rfl⟩ ⟨rfl, rfl⟩ ⟨Nat.le_of_ble_eq_true rfl, Nat.le_of_ble_eq_true rfl⟩ dX5_fog_14 rfl [some 0, some 1, some 2, some 3, some 4, some 5, some 6, some 7, some 8, some 9, some 10, some 11, some 12, some 13, some 14, some 15, some 16, some 17, some 18, some 19, some 20, some 21, some 22, some 23, some 24, some 25, some 26, some 27, some 28, some 29, some 30, some 31, some 32, some 33, some 34, some 35, some 36, some 37, some 38] rfl (ws' := cEW G q p_14.2) rfl (fun H locs hW => ?_)
    obtain rfl := Option.some.inj h
    exact x_reti F hr hW rfl dX5_fog_17
def f_X5_turn (w : EW) (x1 : Int32) (x2 : Int32) (x3 : Int32) : Option (Int32 × EW) :=
  Option.bind (f_X1_isHouse w.1.1 x1) fun p_5 =>
    if p_5 = 0 then
    Option.bind (f_X5_refuse w (-1 : Int32)) fun p_13 =>
    some (p_13.1, p_13.2)
    else
    if x2 < 0 then
    Option.bind (f_X5_refuse w (-2 : Int32)) fun p_30 =>
    some (p_30.1, p_30.2)
    else
    if x2 < (6 : Int32) then
    Option.bind (f_X5_outside x3 (0 : Int32) (9 : Int32)) fun p_38 =>
    if p_38 = 0 then
    if inR x1 8 then
    if inR x1 8 then
    nm (((10 : Int32) * (w.1.1.2.1 x1.toNatClampNeg)) + (w.1.1.2.2.1 x1.toNatClampNeg)) fun x_77 =>
    if inR x1 8 then
    if inR x1 8 then
    some (x_77, (((w.1.1.1, (upd w.1.1.2.1 x1.toNatClampNeg x2), (upd w.1.1.2.2.1 x1.toNatClampNeg x3), w.1.1.2.2.2.1, w.1.1.2.2.2.2.1, w.1.1.2.2.2.2.2.1, w.1.1.2.2.2.2.2.2.1, w.1.1.2.2.2.2.2.2.2.1, w.1.1.2.2.2.2.2.2.2.2), w.1.2.1, w.1.2.2.1, w.1.2.2.2.1, w.1.2.2.2.2.1, w.1.2.2.2.2.2.1, w.1.2.2.2.2.2.2), w.2.1, w.2.2.1, w.2.2.2.1, w.2.2.2.2.1, w.2.2.2.2.2.1, w.2.2.2.2.2.2.1, w.2.2.2.2.2.2.2))
    else none
    else none
    else none
    else none
    else
    Option.bind (f_X5_refuse w p_38) fun p_51 =>
    some (p_51.1, p_51.2)
    else
    Option.bind (f_X5_refuse w (-2 : Int32)) fun p_30_2 =>
    some (p_30_2.1, p_30_2.2)
abbrev rmX5_turn : Room := { frames := 1, cells := 0, slots := 0, locals := 22 }
set_option maxRecDepth 100000 in
set_option maxHeartbeats 4000000 in
theorem c_X5_turn (l : Launch) (G : EnT) (q : Nat → Nat) (w : EW) (x1 : Int32) (x2 : Int32) (x3 : Int32) (o : Int32 × EW) (h : f_X5_turn w x1 x2 x3 = some o) : Mi l yX5_turn rmX5_turn cX5_turn 6 (some .int) G false [.ref (q 0), .int x1, .int x2, .int x3] (cEW G q w) o.1 (cEW G q o.2) := by
  refine Mi_of (by decide) (Nat.le_of_ble_eq_true rfl) ?_
  intro p e s m below meth c A0 F hr hW ls hl
  obtain ⟨hx, hb, hml, hown, hts, hK, hNW, hlocks, hA, hSX⟩ := id F
  have hl : lv_has ls 6 [(0, .ref (q 0)), (1, .int x1), (2, .int x2), (3, .int x3)] := hl
  have hW : Wd G A0 s (cEW G q w) s.heap [] := hW
  show W p l e rmX5_turn s m ([.ref (q 0), .int x1, .int x2, .int x3] : List Value).toArray below meth c s.heap [] 0 0 (Qi below G (cEW G q o.2) o.1 A0 ([.ref (q 0), .int x1, .int x2, .int x3] : List Value).toArray s) (F0 m 0 ls [])
  refine lv_aload_n hx hb dX5_turn_0 rfl (lv_at hl 0 rfl) ?_
  refine x_get F hW 0 rfl fa_X5_20 rfl dX5_turn_1 ?_
  refine lv_iload_n hx hb dX5_turn_4 rfl (lv_at hl 1 rfl) ?_
  obtain ⟨p_5, hc_5, h⟩ := of_bind h
  refine x_Vi (av := [.ref (q 2), .int x1]) (As := [.int x1]) F hW (c_X1_isHouse l G (fun i => q (i + 2)) w.1.1 x1 _ hc_5) [2, 3, 4, 5, 6, 7] rfl rfl (by intro q; cases q) cv_X5_74 rfl ⟨_, rfl, rfl⟩ rfl rfl rfl hl (Nat.le_of_ble_eq_true rfl) ⟨Nat.le_of_ble_eq_true rfl, Nat.le_of_ble_eq_true rfl⟩ ⟨rfl, rfl⟩ ⟨Nat.le_of_ble_eq_true rfl, Nat.le_of_ble_eq_true rfl⟩ dX5_turn_5 rfl [none, none, some 0, some 1, some 2, some 3, some 4, some 5, none, none, none, none, none, none, none, none, none, none, none, none, none, none, none, none, none, none, none, none, none, none, none, none, none, none, none, none, none, none, none] rfl (ws' := cEW G q w) rfl (fun H locs hW => ?_)
  obtain ⟨ht_8, hf_8⟩ := of_ite h
  refine lv_if_ne (tgt := 17) hx hb dX5_turn_8 (by decide) (fun c_8 => ?_) (fun c_8 => ?_)
  · have h := hf_8 c_8
    refine lv_iload_n hx hb dX5_turn_17 rfl (lv_at hl 2 rfl) ?_
    obtain ⟨ht_18, hf_18⟩ := of_ite h
    refine lv_if_lt (tgt := 27) hx hb dX5_turn_18 (by decide) (fun c_18 => ?_) (fun c_18 => ?_)
    · have h := ht_18 c_18
      refine lv_aload_n hx hb dX5_turn_27 rfl (lv_at hl 0 rfl) ?_
      refine lv_bipush (v := (-2 : Int32)) hx hb dX5_turn_28 (by decide) ?_
      obtain ⟨p_30, hc_30, h⟩ := of_bind h
      refine x_Vi (av := [.ref (q 0), .int (-2 : Int32)]) (As := [.int (-2 : Int32)]) F hW (c_X5_refuse l G q w (-2 : Int32) _ hc_30) [0, 1, 2, 3, 4, 5, 6, 7, 8, 9, 10, 11, 12, 13, 14, 15, 16, 17, 18, 19, 20, 21, 22, 23, 24, 25, 26, 27, 28, 29, 30, 31, 32, 33, 34, 35, 36, 37, 38] rfl rfl (by intro q; cases q) cv_X5_44 rfl ⟨_, rfl, rfl⟩ rfl rfl rfl hl (Nat.le_of_ble_eq_true rfl) ⟨Nat.le_of_ble_eq_true rfl, Nat.le_of_ble_eq_true rfl⟩ ⟨rfl, rfl⟩ ⟨Nat.le_of_ble_eq_true rfl, Nat.le_of_ble_eq_true rfl⟩ dX5_turn_30 rfl [some 0, some 1, some 2, some 3, some 4, some 5, some 6, some 7, some 8, some 9, some 10, some 11, some 12, some 13, some 14, some 15, some 16, some 17, some 18, some 19, some 20, some 21, some 22, some 23, some 24, some 25, some 26, some 27, some 28, some 29, some 30, some 31, some 32, some 33, some 34, some 35, some 36, some 37, some 38] rfl (ws' := cEW G q p_30.2) rfl (fun H locs hW => ?_)
      obtain rfl := Option.some.inj h
      exact x_reti F hr hW rfl dX5_turn_33
    · have h := hf_18 c_18
      refine lv_iload_n hx hb dX5_turn_21 rfl (lv_at hl 2 rfl) ?_
      refine lv_bipush (v := (6 : Int32)) hx hb dX5_turn_22 (by decide) ?_
      obtain ⟨ht_24, hf_24⟩ := of_ite h
      refine lv_icmp_lt (tgt := 34) hx hb dX5_turn_24 (by decide) (fun c_24 => ?_) (fun c_24 => ?_)
      · have h := ht_24 c_24
        refine lv_iload_n hx hb dX5_turn_34 rfl (lv_at hl 3 rfl) ?_
        refine lv_iconst (v := (0 : Int32)) hx hb dX5_turn_35 (by decide) ?_
        refine lv_bipush (v := (9 : Int32)) hx hb dX5_turn_36 (by decide) ?_
        obtain ⟨p_38, hc_38, h⟩ := of_bind h
        refine x_Si (av := [.int x3, .int (0 : Int32), .int (9 : Int32)]) F hW (c_X5_outside l G x3 (0 : Int32) (9 : Int32) _ hc_38) [] rfl rfl (by intro q; cases q) cs_X5_108 rfl rfl hl (Nat.le_of_ble_eq_true rfl) ⟨Nat.le_of_ble_eq_true rfl, Nat.le_of_ble_eq_true rfl⟩ ⟨rfl, rfl⟩ ⟨Nat.le_of_ble_eq_true rfl, Nat.le_of_ble_eq_true rfl⟩ dX5_turn_38 rfl [none, none, none, none, none, none, none, none, none, none, none, none, none, none, none, none, none, none, none, none, none, none, none, none, none, none, none, none, none, none, none, none, none, none, none, none, none, none, none] rfl (ws' := cEW G q w) rfl (fun H locs hW => ?_)
        refine lv_istore (lv' := [(4, .int p_38), (0, .ref (q 0)), (1, .int x1), (2, .int x2), (3, .int x3)]) hx hb dX5_turn_41 hl (by decide) rfl (fun ls hl => ?_)
        refine lv_iload hx hb dX5_turn_43 (lv_at hl 0 rfl) ?_
        obtain ⟨ht_45, hf_45⟩ := of_ite h
        refine lv_if_eq (tgt := 55) hx hb dX5_turn_45 (by decide) (fun c_45 => ?_) (fun c_45 => ?_)
        · have h := ht_45 c_45
          refine lv_bipush (v := (10 : Int32)) hx hb dX5_turn_55 (by decide) ?_
          refine lv_aload_n hx hb dX5_turn_57 rfl (lv_at hl 1 rfl) ?_
          refine x_get F hW 0 rfl fa_X5_20 rfl dX5_turn_58 ?_
          refine x_get F hW 2 rfl fa_X5_78 rfl dX5_turn_61 ?_
          refine lv_iload_n hx hb dX5_turn_64 rfl (lv_at hl 2 rfl) ?_
          obtain ⟨g_65, h⟩ := of_guard h
          refine x_iald F hW 4 rfl g_65 dX5_turn_65 ?_
          refine lv_imul hx hb dX5_turn_66 ?_
          refine lv_aload_n hx hb dX5_turn_67 rfl (lv_at hl 1 rfl) ?_
          refine x_get F hW 0 rfl fa_X5_20 rfl dX5_turn_68 ?_
          refine x_get F hW 2 rfl fa_X5_81 rfl dX5_turn_71 ?_
          refine lv_iload_n hx hb dX5_turn_74 rfl (lv_at hl 2 rfl) ?_
          obtain ⟨g_75, h⟩ := of_guard h
          refine x_iald F hW 5 rfl g_75 dX5_turn_75 ?_
          refine lv_iadd hx hb dX5_turn_76 ?_
          obtain ⟨x_77, e_x_77, h⟩ := of_nm h
          refine x_topi e_x_77 ?_
          refine lv_istore (lv' := [(5, .int x_77), (4, .int p_38), (0, .ref (q 0)), (1, .int x1), (2, .int x2), (3, .int x3)]) hx hb dX5_turn_77 hl (by decide) rfl (fun ls hl => ?_)
          refine lv_aload_n hx hb dX5_turn_79 rfl (lv_at hl 2 rfl) ?_
          refine x_get F hW 0 rfl fa_X5_20 rfl dX5_turn_80 ?_
          refine x_get F hW 2 rfl fa_X5_78 rfl dX5_turn_83 ?_
          refine lv_iload_n hx hb dX5_turn_86 rfl (lv_at hl 3 rfl) ?_
          refine lv_iload_n hx hb dX5_turn_87 rfl (lv_at hl 4 rfl) ?_
          obtain ⟨g_88, h⟩ := of_guard h
          refine x_iast F hW 4 rfl g_88 (ws' := cEW G q (((w.1.1.1, (upd w.1.1.2.1 x1.toNatClampNeg x2), w.1.1.2.2.1, w.1.1.2.2.2.1, w.1.1.2.2.2.2.1, w.1.1.2.2.2.2.2.1, w.1.1.2.2.2.2.2.2.1, w.1.1.2.2.2.2.2.2.2.1, w.1.1.2.2.2.2.2.2.2.2), w.1.2.1, w.1.2.2.1, w.1.2.2.2.1, w.1.2.2.2.2.1, w.1.2.2.2.2.2.1, w.1.2.2.2.2.2.2), w.2.1, w.2.2.1, w.2.2.2.1, w.2.2.2.2.1, w.2.2.2.2.2.1, w.2.2.2.2.2.2.1, w.2.2.2.2.2.2.2)) rfl dX5_turn_88 (fun H locs hW => ?_)
          refine lv_aload_n hx hb dX5_turn_89 rfl (lv_at hl 2 rfl) ?_
          refine x_get F hW 0 rfl fa_X5_20 rfl dX5_turn_90 ?_
          refine x_get F hW 2 rfl fa_X5_81 rfl dX5_turn_93 ?_
          refine lv_iload_n hx hb dX5_turn_96 rfl (lv_at hl 3 rfl) ?_
          refine lv_iload_n hx hb dX5_turn_97 rfl (lv_at hl 5 rfl) ?_
          obtain ⟨g_98, h⟩ := of_guard h
          refine x_iast F hW 5 rfl g_98 (ws' := cEW G q (((w.1.1.1, (upd w.1.1.2.1 x1.toNatClampNeg x2), (upd w.1.1.2.2.1 x1.toNatClampNeg x3), w.1.1.2.2.2.1, w.1.1.2.2.2.2.1, w.1.1.2.2.2.2.2.1, w.1.1.2.2.2.2.2.2.1, w.1.1.2.2.2.2.2.2.2.1, w.1.1.2.2.2.2.2.2.2.2), w.1.2.1, w.1.2.2.1, w.1.2.2.2.1, w.1.2.2.2.2.1, w.1.2.2.2.2.2.1, w.1.2.2.2.2.2.2), w.2.1, w.2.2.1, w.2.2.2.1, w.2.2.2.2.1, w.2.2.2.2.2.1, w.2.2.2.2.2.2.1, w.2.2.2.2.2.2.2)) rfl dX5_turn_98 (fun H locs hW => ?_)
          refine lv_iload hx hb dX5_turn_99 (lv_at hl 0 rfl) ?_
          obtain rfl := Option.some.inj h
          exact x_reti F hr hW rfl dX5_turn_101
        · have h := hf_45 c_45
          refine lv_aload_n hx hb dX5_turn_48 rfl (lv_at hl 1 rfl) ?_
          refine lv_iload hx hb dX5_turn_49 (lv_at hl 0 rfl) ?_
          obtain ⟨p_51, hc_51, h⟩ := of_bind h
          refine x_Vi (av := [.ref (q 0), .int p_38]) (As := [.int p_38]) F hW (c_X5_refuse l G q w p_38 _ hc_51) [0, 1, 2, 3, 4, 5, 6, 7, 8, 9, 10, 11, 12, 13, 14, 15, 16, 17, 18, 19, 20, 21, 22, 23, 24, 25, 26, 27, 28, 29, 30, 31, 32, 33, 34, 35, 36, 37, 38] rfl rfl (by intro q; cases q) cv_X5_44 rfl ⟨_, rfl, rfl⟩ rfl rfl rfl hl (Nat.le_of_ble_eq_true rfl) ⟨Nat.le_of_ble_eq_true rfl, Nat.le_of_ble_eq_true rfl⟩ ⟨rfl, rfl⟩ ⟨Nat.le_of_ble_eq_true rfl, Nat.le_of_ble_eq_true rfl⟩ dX5_turn_51 rfl [some 0, some 1, some 2, some 3, some 4, some 5, some 6, some 7, some 8, some 9, some 10, some 11, some 12, some 13, some 14, some 15, some 16, some 17, some 18, some 19, some 20, some 21, some 22, some 23, some 24, some 25, some 26, some 27, some 28, some 29, some 30, some 31, some 32, some 33, some 34, some 35, some 36, some 37, some 38] rfl (ws' := cEW G q p_51.2) rfl (fun H locs hW => ?_)
          obtain rfl := Option.some.inj h
          exact x_reti F hr hW rfl dX5_turn_54
      · have h := hf_24 c_24
        refine lv_aload_n hx hb dX5_turn_27 rfl (lv_at hl 0 rfl) ?_
        refine lv_bipush (v := (-2 : Int32)) hx hb dX5_turn_28 (by decide) ?_
        obtain ⟨p_30_2, hc_30, h⟩ := of_bind h
        refine x_Vi (av := [.ref (q 0), .int (-2 : Int32)]) (As := [.int (-2 : Int32)]) F hW (c_X5_refuse l G q w (-2 : Int32) _ hc_30) [0, 1, 2, 3, 4, 5, 6, 7, 8, 9, 10, 11, 12, 13, 14, 15, 16, 17, 18, 19, 20, 21, 22, 23, 24, 25, 26, 27, 28, 29, 30, 31, 32, 33, 34, 35, 36, 37, 38] rfl rfl (by intro q; cases q) cv_X5_44 rfl ⟨_, rfl, rfl⟩ rfl rfl rfl hl (Nat.le_of_ble_eq_true rfl) ⟨Nat.le_of_ble_eq_true rfl, Nat.le_of_ble_eq_true rfl⟩ ⟨rfl, rfl⟩ ⟨Nat.le_of_ble_eq_true rfl, Nat.le_of_ble_eq_true rfl⟩ dX5_turn_30 rfl [some 0, some 1, some 2, some 3, some 4, some 5, some 6, some 7, some 8, some 9, some 10, some 11, some 12, some 13, some 14, some 15, some 16, some 17, some 18, some 19, some 20, some 21, some 22, some 23, some 24, some 25, some 26, some 27, some 28, some 29, some 30, some 31, some 32, some 33, some 34, some 35, some 36, some 37, some 38] rfl (ws' := cEW G q p_30_2.2) rfl (fun H locs hW => ?_)
        obtain rfl := Option.some.inj h
        exact x_reti F hr hW rfl dX5_turn_33
  · have h := ht_8 c_8
    refine lv_aload_n hx hb dX5_turn_11 rfl (lv_at hl 0 rfl) ?_
    refine lv_iconst (v := (-1 : Int32)) hx hb dX5_turn_12 (by decide) ?_
    obtain ⟨p_13, hc_13, h⟩ := of_bind h
    refine x_Vi (av := [.ref (q 0), .int (-1 : Int32)]) (As := [.int (-1 : Int32)]) F hW (c_X5_refuse l G q w (-1 : Int32) _ hc_13) [0, 1, 2, 3, 4, 5, 6, 7, 8, 9, 10, 11, 12, 13, 14, 15, 16, 17, 18, 19, 20, 21, 22, 23, 24, 25, 26, 27, 28, 29, 30, 31, 32, 33, 34, 35, 36, 37, 38] rfl rfl (by intro q; cases q) cv_X5_44 rfl ⟨_, rfl, rfl⟩ rfl rfl rfl hl (Nat.le_of_ble_eq_true rfl) ⟨Nat.le_of_ble_eq_true rfl, Nat.le_of_ble_eq_true rfl⟩ ⟨rfl, rfl⟩ ⟨Nat.le_of_ble_eq_true rfl, Nat.le_of_ble_eq_true rfl⟩ dX5_turn_13 rfl [some 0, some 1, some 2, some 3, some 4, some 5, some 6, some 7, some 8, some 9, some 10, some 11, some 12, some 13, some 14, some 15, some 16, some 17, some 18, some 19, some 20, some 21, some 22, some 23, some 24, some 25, some 26, some 27, some 28, some 29, some 30, some 31, some 32, some 33, some 34, some 35, some 36, some 37, some 38] rfl (ws' := cEW G q p_13.2) rfl (fun H locs hW => ?_)
    obtain rfl := Option.some.inj h
    exact x_reti F hr hW rfl dX5_turn_16
def f_X5_nights (w : EW) (x1 : Int32) : Option (Int32 × EW) :=
  Option.bind (f_X5_outside x1 (1 : Int32) (60 : Int32)) fun p_4 =>
    if p_4 = 0 then
    Option.bind (f_X1_goBy w.1.1 x1) fun p_23 =>
    if p_23.1 = 0 then
    Option.bind (f_X5_refuse ((p_23.2, w.1.2.1, w.1.2.2.1, w.1.2.2.2.1, w.1.2.2.2.2.1, w.1.2.2.2.2.2.1, w.1.2.2.2.2.2.2), w.2.1, w.2.2.1, w.2.2.2.1, w.2.2.2.2.1, w.2.2.2.2.2.1, w.2.2.2.2.2.2.1, w.2.2.2.2.2.2.2) (-6 : Int32)) fun p_46 =>
    some (p_46.1, p_46.2)
    else
    Option.bind (f_X4_hangingBehind (p_23.2, w.1.2.1, w.1.2.2.1, w.1.2.2.2.1, w.1.2.2.2.2.1, w.1.2.2.2.2.2.1, w.1.2.2.2.2.2.2) (0 : Int32)) fun p_34 =>
    Option.bind (f_J6_bitCount_0f7a4 p_34.1) fun p_37 =>
    some (p_37, (p_34.2, w.2.1, w.2.2.1, w.2.2.2.1, w.2.2.2.2.1, w.2.2.2.2.2.1, w.2.2.2.2.2.2.1, w.2.2.2.2.2.2.2))
    else
    Option.bind (f_X5_refuse w p_4) fun p_14 =>
    some (p_14.1, p_14.2)
abbrev rmX5_nights : Room := { frames := 5, cells := 0, slots := 0, locals := 126 }
set_option maxRecDepth 100000 in
set_option maxHeartbeats 4000000 in
theorem c_X5_nights (l : Launch) (G : EnT) (q : Nat → Nat) (w : EW) (x1 : Int32) (o : Int32 × EW) (h : f_X5_nights w x1 = some o) : Mi l yX5_nights rmX5_nights cX5_nights 3 (some .int) G false [.ref (q 0), .int x1] (cEW G q w) o.1 (cEW G q o.2) := by
  refine Mi_of (by decide) (Nat.le_of_ble_eq_true rfl) ?_
  intro p e s m below meth c A0 F hr hW ls hl
  obtain ⟨hx, hb, hml, hown, hts, hK, hNW, hlocks, hA, hSX⟩ := id F
  have hl : lv_has ls 3 [(0, .ref (q 0)), (1, .int x1)] := hl
  have hW : Wd G A0 s (cEW G q w) s.heap [] := hW
  show W p l e rmX5_nights s m ([.ref (q 0), .int x1] : List Value).toArray below meth c s.heap [] 0 0 (Qi below G (cEW G q o.2) o.1 A0 ([.ref (q 0), .int x1] : List Value).toArray s) (F0 m 0 ls [])
  refine lv_iload_n hx hb dX5_nights_0 rfl (lv_at hl 1 rfl) ?_
  refine lv_iconst (v := (1 : Int32)) hx hb dX5_nights_1 (by decide) ?_
  refine lv_bipush (v := (60 : Int32)) hx hb dX5_nights_2 (by decide) ?_
  obtain ⟨p_4, hc_4, h⟩ := of_bind h
  refine x_Si (av := [.int x1, .int (1 : Int32), .int (60 : Int32)]) F hW (c_X5_outside l G x1 (1 : Int32) (60 : Int32) _ hc_4) [] rfl rfl (by intro q; cases q) cs_X5_108 rfl rfl hl (Nat.le_of_ble_eq_true rfl) ⟨Nat.le_of_ble_eq_true rfl, Nat.le_of_ble_eq_true rfl⟩ ⟨rfl, rfl⟩ ⟨Nat.le_of_ble_eq_true rfl, Nat.le_of_ble_eq_true rfl⟩ dX5_nights_4 rfl [none, none, none, none, none, none, none, none, none, none, none, none, none, none, none, none, none, none, none, none, none, none, none, none, none, none, none, none, none, none, none, none, none, none, none, none, none, none, none] rfl (ws' := cEW G q w) rfl (fun H locs hW => ?_)
  refine lv_istore_n (lv' := [(2, .int p_4), (0, .ref (q 0)), (1, .int x1)]) hx hb dX5_nights_7 rfl hl (by decide) rfl (fun ls hl => ?_)
  refine lv_iload_n hx hb dX5_nights_8 rfl (lv_at hl 0 rfl) ?_
  obtain ⟨ht_9, hf_9⟩ := of_ite h
  refine lv_if_eq (tgt := 18) hx hb dX5_nights_9 (by decide) (fun c_9 => ?_) (fun c_9 => ?_)
  · have h := ht_9 c_9
    refine lv_aload_n hx hb dX5_nights_18 rfl (lv_at hl 1 rfl) ?_
    refine x_get F hW 0 rfl fa_X5_20 rfl dX5_nights_19 ?_
    refine lv_iload_n hx hb dX5_nights_22 rfl (lv_at hl 2 rfl) ?_
    obtain ⟨p_23, hc_23, h⟩ := of_bind h
    refine x_Vi (av := [.ref (q 2), .int x1]) (As := [.int x1]) F hW (c_X1_goBy l G (fun i => q (i + 2)) w.1.1 x1 _ hc_23) [2, 3, 4, 5, 6, 7] rfl rfl (by intro q; cases q) cv_X5_128 rfl ⟨_, rfl, rfl⟩ rfl rfl rfl hl (Nat.le_of_ble_eq_true rfl) ⟨Nat.le_of_ble_eq_true rfl, Nat.le_of_ble_eq_true rfl⟩ ⟨rfl, rfl⟩ ⟨Nat.le_of_ble_eq_true rfl, Nat.le_of_ble_eq_true rfl⟩ dX5_nights_23 rfl [none, none, some 0, some 1, some 2, some 3, some 4, some 5, none, none, none, none, none, none, none, none, none, none, none, none, none, none, none, none, none, none, none, none, none, none, none, none, none, none, none, none, none, none, none] rfl (ws' := cEW G q ((p_23.2, w.1.2.1, w.1.2.2.1, w.1.2.2.2.1, w.1.2.2.2.2.1, w.1.2.2.2.2.2.1, w.1.2.2.2.2.2.2), w.2.1, w.2.2.1, w.2.2.2.1, w.2.2.2.2.1, w.2.2.2.2.2.1, w.2.2.2.2.2.2.1, w.2.2.2.2.2.2.2)) rfl (fun H locs hW => ?_)
    obtain ⟨ht_26, hf_26⟩ := of_ite h
    refine lv_if_eq (tgt := 43) hx hb dX5_nights_26 (by decide) (fun c_26 => ?_) (fun c_26 => ?_)
    · have h := ht_26 c_26
      refine lv_aload_n hx hb dX5_nights_43 rfl (lv_at hl 1 rfl) ?_
      refine lv_bipush (v := (-6 : Int32)) hx hb dX5_nights_44 (by decide) ?_
      obtain ⟨p_46, hc_46, h⟩ := of_bind h
      refine x_Vi (av := [.ref (q 0), .int (-6 : Int32)]) (As := [.int (-6 : Int32)]) F hW (c_X5_refuse l G q ((p_23.2, w.1.2.1, w.1.2.2.1, w.1.2.2.2.1, w.1.2.2.2.2.1, w.1.2.2.2.2.2.1, w.1.2.2.2.2.2.2), w.2.1, w.2.2.1, w.2.2.2.1, w.2.2.2.2.1, w.2.2.2.2.2.1, w.2.2.2.2.2.2.1, w.2.2.2.2.2.2.2) (-6 : Int32) _ hc_46) [0, 1, 2, 3, 4, 5, 6, 7, 8, 9, 10, 11, 12, 13, 14, 15, 16, 17, 18, 19, 20, 21, 22, 23, 24, 25, 26, 27, 28, 29, 30, 31, 32, 33, 34, 35, 36, 37, 38] rfl rfl (by intro q; cases q) cv_X5_44 rfl ⟨_, rfl, rfl⟩ rfl rfl rfl hl (Nat.le_of_ble_eq_true rfl) ⟨Nat.le_of_ble_eq_true rfl, Nat.le_of_ble_eq_true rfl⟩ ⟨rfl, rfl⟩ ⟨Nat.le_of_ble_eq_true rfl, Nat.le_of_ble_eq_true rfl⟩ dX5_nights_46 rfl [some 0, some 1, some 2, some 3, some 4, some 5, some 6, some 7, some 8, some 9, some 10, some 11, some 12, some 13, some 14, some 15, some 16, some 17, some 18, some 19, some 20, some 21, some 22, some 23, some 24, some 25, some 26, some 27, some 28, some 29, some 30, some 31, some 32, some 33, some 34, some 35, some 36, some 37, some 38] rfl (ws' := cEW G q p_46.2) rfl (fun H locs hW => ?_)
      obtain rfl := Option.some.inj h
      exact x_reti F hr hW rfl dX5_nights_49
    · have h := hf_26 c_26
      refine lv_aload_n hx hb dX5_nights_29 rfl (lv_at hl 1 rfl) ?_
      refine x_get F hW 0 rfl fa_X5_10 rfl dX5_nights_30 ?_
      refine lv_iconst (v := (0 : Int32)) hx hb dX5_nights_33 (by decide) ?_
      obtain ⟨p_34, hc_34, h⟩ := of_bind h
      refine x_Vi (av := [.ref (q 1), .int (0 : Int32)]) (As := [.int (0 : Int32)]) F hW (c_X4_hangingBehind l G (fun i => q (i + 1)) (p_23.2, w.1.2.1, w.1.2.2.1, w.1.2.2.2.1, w.1.2.2.2.2.1, w.1.2.2.2.2.2.1, w.1.2.2.2.2.2.2) (0 : Int32) _ hc_34) [1, 2, 3, 4, 5, 6, 7, 8, 9, 10, 11, 12, 13, 14, 15, 16, 17, 18, 19, 20, 21, 22] rfl rfl (by intro q; cases q) cv_X5_131 rfl ⟨_, rfl, rfl⟩ rfl rfl rfl hl (Nat.le_of_ble_eq_true rfl) ⟨Nat.le_of_ble_eq_true rfl, Nat.le_of_ble_eq_true rfl⟩ ⟨rfl, rfl⟩ ⟨Nat.le_of_ble_eq_true rfl, Nat.le_of_ble_eq_true rfl⟩ dX5_nights_34 rfl [none, some 0, some 1, some 2, some 3, some 4, some 5, some 6, some 7, some 8, some 9, some 10, some 11, some 12, some 13, some 14, some 15, some 16, some 17, some 18, some 19, some 20, some 21, none, none, none, none, none, none, none, none, none, none, none, none, none, none, none, none] rfl (ws' := cEW G q (p_34.2, w.2.1, w.2.2.1, w.2.2.2.1, w.2.2.2.2.1, w.2.2.2.2.2.1, w.2.2.2.2.2.2.1, w.2.2.2.2.2.2.2)) rfl (fun H locs hW => ?_)
      obtain ⟨p_37, hc_37, h⟩ := of_bind h
      refine x_Si (av := [.int p_34.1]) F hW (c_J6_bitCount_0f7a4 l G p_34.1 _ hc_37) [] rfl rfl (by intro q; cases q) cs_X5_134 rfl rfl hl (Nat.le_of_ble_eq_true rfl) ⟨Nat.le_of_ble_eq_true rfl, Nat.le_of_ble_eq_true rfl⟩ ⟨rfl, rfl⟩ ⟨Nat.le_of_ble_eq_true rfl, Nat.le_of_ble_eq_true rfl⟩ dX5_nights_37 rfl [none, none, none, none, none, none, none, none, none, none, none, none, none, none, none, none, none, none, none, none, none, none, none, none, none, none, none, none, none, none, none, none, none, none, none, none, none, none, none] rfl (ws' := cEW G q (p_34.2, w.2.1, w.2.2.1, w.2.2.2.1, w.2.2.2.2.1, w.2.2.2.2.2.1, w.2.2.2.2.2.2.1, w.2.2.2.2.2.2.2)) rfl (fun H locs hW => ?_)
      refine lv_goto (tgt := 49) hx hb dX5_nights_40 (by decide) ?_
      obtain rfl := Option.some.inj h
      exact x_reti F hr hW rfl dX5_nights_49
  · have h := hf_9 c_9
    refine lv_aload_n hx hb dX5_nights_12 rfl (lv_at hl 1 rfl) ?_
    refine lv_iload_n hx hb dX5_nights_13 rfl (lv_at hl 0 rfl) ?_
    obtain ⟨p_14, hc_14, h⟩ := of_bind h
    refine x_Vi (av := [.ref (q 0), .int p_4]) (As := [.int p_4]) F hW (c_X5_refuse l G q w p_4 _ hc_14) [0, 1, 2, 3, 4, 5, 6, 7, 8, 9, 10, 11, 12, 13, 14, 15, 16, 17, 18, 19, 20, 21, 22, 23, 24, 25, 26, 27, 28, 29, 30, 31, 32, 33, 34, 35, 36, 37, 38] rfl rfl (by intro q; cases q) cv_X5_44 rfl ⟨_, rfl, rfl⟩ rfl rfl rfl hl (Nat.le_of_ble_eq_true rfl) ⟨Nat.le_of_ble_eq_true rfl, Nat.le_of_ble_eq_true rfl⟩ ⟨rfl, rfl⟩ ⟨Nat.le_of_ble_eq_true rfl, Nat.le_of_ble_eq_true rfl⟩ dX5_nights_14 rfl [some 0, some 1, some 2, some 3, some 4, some 5, some 6, some 7, some 8, some 9, some 10, some 11, some 12, some 13, some 14, some 15, some 16, some 17, some 18, some 19, some 20, some 21, some 22, some 23, some 24, some 25, some 26, some 27, some 28, some 29, some 30, some 31, some 32, some 33, some 34, some 35, some 36, some 37, some 38] rfl (ws' := cEW G q p_14.2) rfl (fun H locs hW => ?_)
    obtain rfl := Option.some.inj h
    exact x_reti F hr hW rfl dX5_nights_17
def f_X5_litThen (w : EW) (x1 : Int32) : Option (Int32 × EW) :=
  Option.bind (f_X5_outside x1 (0 : Int32) (60 : Int32)) fun p_4 =>
    if p_4 = 0 then
    Option.bind (f_X4_litBehind w.1 x1) fun p_25 =>
    some (p_25.1, (p_25.2, w.2.1, w.2.2.1, w.2.2.2.1, w.2.2.2.2.1, w.2.2.2.2.2.1, w.2.2.2.2.2.2.1, w.2.2.2.2.2.2.2))
    else
    Option.bind (f_X5_refuse w p_4) fun p_14 =>
    some (p_14.1, p_14.2)
abbrev rmX5_litThen : Room := { frames := 5, cells := 0, slots := 0, locals := 108 }
set_option maxRecDepth 100000 in
set_option maxHeartbeats 4000000 in
theorem c_X5_litThen (l : Launch) (G : EnT) (q : Nat → Nat) (w : EW) (x1 : Int32) (o : Int32 × EW) (h : f_X5_litThen w x1 = some o) : Mi l yX5_litThen rmX5_litThen cX5_litThen 3 (some .int) G false [.ref (q 0), .int x1] (cEW G q w) o.1 (cEW G q o.2) := by
  refine Mi_of (by decide) (Nat.le_of_ble_eq_true rfl) ?_
  intro p e s m below meth c A0 F hr hW ls hl
  obtain ⟨hx, hb, hml, hown, hts, hK, hNW, hlocks, hA, hSX⟩ := id F
  have hl : lv_has ls 3 [(0, .ref (q 0)), (1, .int x1)] := hl
  have hW : Wd G A0 s (cEW G q w) s.heap [] := hW
  show W p l e rmX5_litThen s m ([.ref (q 0), .int x1] : List Value).toArray below meth c s.heap [] 0 0 (Qi below G (cEW G q o.2) o.1 A0 ([.ref (q 0), .int x1] : List Value).toArray s) (F0 m 0 ls [])
  refine lv_iload_n hx hb dX5_litThen_0 rfl (lv_at hl 1 rfl) ?_
  refine lv_iconst (v := (0 : Int32)) hx hb dX5_litThen_1 (by decide) ?_
  refine lv_bipush (v := (60 : Int32)) hx hb dX5_litThen_2 (by decide) ?_
  obtain ⟨p_4, hc_4, h⟩ := of_bind h
  refine x_Si (av := [.int x1, .int (0 : Int32), .int (60 : Int32)]) F hW (c_X5_outside l G x1 (0 : Int32) (60 : Int32) _ hc_4) [] rfl rfl (by intro q; cases q) cs_X5_108 rfl rfl hl (Nat.le_of_ble_eq_true rfl) ⟨Nat.le_of_ble_eq_true rfl, Nat.le_of_ble_eq_true rfl⟩ ⟨rfl, rfl⟩ ⟨Nat.le_of_ble_eq_true rfl, Nat.le_of_ble_eq_true rfl⟩ dX5_litThen_4 rfl [none, none, none, none, none, none, none, none, none, none, none, none, none, none, none, none, none, none, none, none, none, none, none, none, none, none, none, none, none, none, none, none, none, none, none, none, none, none, none] rfl (ws' := cEW G q w) rfl (fun H locs hW => ?_)
  refine lv_istore_n (lv' := [(2, .int p_4), (0, .ref (q 0)), (1, .int x1)]) hx hb dX5_litThen_7 rfl hl (by decide) rfl (fun ls hl => ?_)
  refine lv_iload_n hx hb dX5_litThen_8 rfl (lv_at hl 0 rfl) ?_
  obtain ⟨ht_9, hf_9⟩ := of_ite h
  refine lv_if_eq (tgt := 20) hx hb dX5_litThen_9 (by decide) (fun c_9 => ?_) (fun c_9 => ?_)
  · have h := ht_9 c_9
    refine lv_aload_n hx hb dX5_litThen_20 rfl (lv_at hl 1 rfl) ?_
    refine x_get F hW 0 rfl fa_X5_10 rfl dX5_litThen_21 ?_
    refine lv_iload_n hx hb dX5_litThen_24 rfl (lv_at hl 2 rfl) ?_
    obtain ⟨p_25, hc_25, h⟩ := of_bind h
    refine x_Vi (av := [.ref (q 1), .int x1]) (As := [.int x1]) F hW (c_X4_litBehind l G (fun i => q (i + 1)) w.1 x1 _ hc_25) [1, 2, 3, 4, 5, 6, 7, 8, 9, 10, 11, 12, 13, 14, 15, 16, 17, 18, 19, 20, 21, 22] rfl rfl (by intro q; cases q) cv_X5_139 rfl ⟨_, rfl, rfl⟩ rfl rfl rfl hl (Nat.le_of_ble_eq_true rfl) ⟨Nat.le_of_ble_eq_true rfl, Nat.le_of_ble_eq_true rfl⟩ ⟨rfl, rfl⟩ ⟨Nat.le_of_ble_eq_true rfl, Nat.le_of_ble_eq_true rfl⟩ dX5_litThen_25 rfl [none, some 0, some 1, some 2, some 3, some 4, some 5, some 6, some 7, some 8, some 9, some 10, some 11, some 12, some 13, some 14, some 15, some 16, some 17, some 18, some 19, some 20, some 21, none, none, none, none, none, none, none, none, none, none, none, none, none, none, none, none] rfl (ws' := cEW G q (p_25.2, w.2.1, w.2.2.1, w.2.2.2.1, w.2.2.2.2.1, w.2.2.2.2.2.1, w.2.2.2.2.2.2.1, w.2.2.2.2.2.2.2)) rfl (fun H locs hW => ?_)
    obtain rfl := Option.some.inj h
    exact x_reti F hr hW rfl dX5_litThen_28
  · have h := hf_9 c_9
    refine lv_aload_n hx hb dX5_litThen_12 rfl (lv_at hl 1 rfl) ?_
    refine lv_iload_n hx hb dX5_litThen_13 rfl (lv_at hl 0 rfl) ?_
    obtain ⟨p_14, hc_14, h⟩ := of_bind h
    refine x_Vi (av := [.ref (q 0), .int p_4]) (As := [.int p_4]) F hW (c_X5_refuse l G q w p_4 _ hc_14) [0, 1, 2, 3, 4, 5, 6, 7, 8, 9, 10, 11, 12, 13, 14, 15, 16, 17, 18, 19, 20, 21, 22, 23, 24, 25, 26, 27, 28, 29, 30, 31, 32, 33, 34, 35, 36, 37, 38] rfl rfl (by intro q; cases q) cv_X5_44 rfl ⟨_, rfl, rfl⟩ rfl rfl rfl hl (Nat.le_of_ble_eq_true rfl) ⟨Nat.le_of_ble_eq_true rfl, Nat.le_of_ble_eq_true rfl⟩ ⟨rfl, rfl⟩ ⟨Nat.le_of_ble_eq_true rfl, Nat.le_of_ble_eq_true rfl⟩ dX5_litThen_14 rfl [some 0, some 1, some 2, some 3, some 4, some 5, some 6, some 7, some 8, some 9, some 10, some 11, some 12, some 13, some 14, some 15, some 16, some 17, some 18, some 19, some 20, some 21, some 22, some 23, some 24, some 25, some 26, some 27, some 28, some 29, some 30, some 31, some 32, some 33, some 34, some 35, some 36, some 37, some 38] rfl (ws' := cEW G q p_14.2) rfl (fun H locs hW => ?_)
    refine lv_goto (tgt := 28) hx hb dX5_litThen_17 (by decide) ?_
    obtain rfl := Option.some.inj h
    exact x_reti F hr hW rfl dX5_litThen_28
def f_X5_hangThen (w : EW) (x1 : Int32) : Option (Int32 × EW) :=
  Option.bind (f_X5_outside x1 (0 : Int32) (60 : Int32)) fun p_4 =>
    if p_4 = 0 then
    Option.bind (f_X4_hangingBehind w.1 x1) fun p_25 =>
    some (p_25.1, (p_25.2, w.2.1, w.2.2.1, w.2.2.2.1, w.2.2.2.2.1, w.2.2.2.2.2.1, w.2.2.2.2.2.2.1, w.2.2.2.2.2.2.2))
    else
    Option.bind (f_X5_refuse w p_4) fun p_14 =>
    some (p_14.1, p_14.2)
abbrev rmX5_hangThen : Room := { frames := 5, cells := 0, slots := 0, locals := 126 }
set_option maxRecDepth 100000 in
set_option maxHeartbeats 4000000 in
theorem c_X5_hangThen (l : Launch) (G : EnT) (q : Nat → Nat) (w : EW) (x1 : Int32) (o : Int32 × EW) (h : f_X5_hangThen w x1 = some o) : Mi l yX5_hangThen rmX5_hangThen cX5_hangThen 3 (some .int) G false [.ref (q 0), .int x1] (cEW G q w) o.1 (cEW G q o.2) := by
  refine Mi_of (by decide) (Nat.le_of_ble_eq_true rfl) ?_
  intro p e s m below meth c A0 F hr hW ls hl
  obtain ⟨hx, hb, hml, hown, hts, hK, hNW, hlocks, hA, hSX⟩ := id F
  have hl : lv_has ls 3 [(0, .ref (q 0)), (1, .int x1)] := hl
  have hW : Wd G A0 s (cEW G q w) s.heap [] := hW
  show W p l e rmX5_hangThen s m ([.ref (q 0), .int x1] : List Value).toArray below meth c s.heap [] 0 0 (Qi below G (cEW G q o.2) o.1 A0 ([.ref (q 0), .int x1] : List Value).toArray s) (F0 m 0 ls [])
  refine lv_iload_n hx hb dX5_hangThen_0 rfl (lv_at hl 1 rfl) ?_
  refine lv_iconst (v := (0 : Int32)) hx hb dX5_hangThen_1 (by decide) ?_
  refine lv_bipush (v := (60 : Int32)) hx hb dX5_hangThen_2 (by decide) ?_
  obtain ⟨p_4, hc_4, h⟩ := of_bind h
  refine x_Si (av := [.int x1, .int (0 : Int32), .int (60 : Int32)]) F hW (c_X5_outside l G x1 (0 : Int32) (60 : Int32) _ hc_4) [] rfl rfl (by intro q; cases q) cs_X5_108 rfl rfl hl (Nat.le_of_ble_eq_true rfl) ⟨Nat.le_of_ble_eq_true rfl, Nat.le_of_ble_eq_true rfl⟩ ⟨rfl, rfl⟩ ⟨Nat.le_of_ble_eq_true rfl, Nat.le_of_ble_eq_true rfl⟩ dX5_hangThen_4 rfl [none, none, none, none, none, none, none, none, none, none, none, none, none, none, none, none, none, none, none, none, none, none, none, none, none, none, none, none, none, none, none, none, none, none, none, none, none, none, none] rfl (ws' := cEW G q w) rfl (fun H locs hW => ?_)
  refine lv_istore_n (lv' := [(2, .int p_4), (0, .ref (q 0)), (1, .int x1)]) hx hb dX5_hangThen_7 rfl hl (by decide) rfl (fun ls hl => ?_)
  refine lv_iload_n hx hb dX5_hangThen_8 rfl (lv_at hl 0 rfl) ?_
  obtain ⟨ht_9, hf_9⟩ := of_ite h
  refine lv_if_eq (tgt := 20) hx hb dX5_hangThen_9 (by decide) (fun c_9 => ?_) (fun c_9 => ?_)
  · have h := ht_9 c_9
    refine lv_aload_n hx hb dX5_hangThen_20 rfl (lv_at hl 1 rfl) ?_
    refine x_get F hW 0 rfl fa_X5_10 rfl dX5_hangThen_21 ?_
    refine lv_iload_n hx hb dX5_hangThen_24 rfl (lv_at hl 2 rfl) ?_
    obtain ⟨p_25, hc_25, h⟩ := of_bind h
    refine x_Vi (av := [.ref (q 1), .int x1]) (As := [.int x1]) F hW (c_X4_hangingBehind l G (fun i => q (i + 1)) w.1 x1 _ hc_25) [1, 2, 3, 4, 5, 6, 7, 8, 9, 10, 11, 12, 13, 14, 15, 16, 17, 18, 19, 20, 21, 22] rfl rfl (by intro q; cases q) cv_X5_131 rfl ⟨_, rfl, rfl⟩ rfl rfl rfl hl (Nat.le_of_ble_eq_true rfl) ⟨Nat.le_of_ble_eq_true rfl, Nat.le_of_ble_eq_true rfl⟩ ⟨rfl, rfl⟩ ⟨Nat.le_of_ble_eq_true rfl, Nat.le_of_ble_eq_true rfl⟩ dX5_hangThen_25 rfl [none, some 0, some 1, some 2, some 3, some 4, some 5, some 6, some 7, some 8, some 9, some 10, some 11, some 12, some 13, some 14, some 15, some 16, some 17, some 18, some 19, some 20, some 21, none, none, none, none, none, none, none, none, none, none, none, none, none, none, none, none] rfl (ws' := cEW G q (p_25.2, w.2.1, w.2.2.1, w.2.2.2.1, w.2.2.2.2.1, w.2.2.2.2.2.1, w.2.2.2.2.2.2.1, w.2.2.2.2.2.2.2)) rfl (fun H locs hW => ?_)
    obtain rfl := Option.some.inj h
    exact x_reti F hr hW rfl dX5_hangThen_28
  · have h := hf_9 c_9
    refine lv_aload_n hx hb dX5_hangThen_12 rfl (lv_at hl 1 rfl) ?_
    refine lv_iload_n hx hb dX5_hangThen_13 rfl (lv_at hl 0 rfl) ?_
    obtain ⟨p_14, hc_14, h⟩ := of_bind h
    refine x_Vi (av := [.ref (q 0), .int p_4]) (As := [.int p_4]) F hW (c_X5_refuse l G q w p_4 _ hc_14) [0, 1, 2, 3, 4, 5, 6, 7, 8, 9, 10, 11, 12, 13, 14, 15, 16, 17, 18, 19, 20, 21, 22, 23, 24, 25, 26, 27, 28, 29, 30, 31, 32, 33, 34, 35, 36, 37, 38] rfl rfl (by intro q; cases q) cv_X5_44 rfl ⟨_, rfl, rfl⟩ rfl rfl rfl hl (Nat.le_of_ble_eq_true rfl) ⟨Nat.le_of_ble_eq_true rfl, Nat.le_of_ble_eq_true rfl⟩ ⟨rfl, rfl⟩ ⟨Nat.le_of_ble_eq_true rfl, Nat.le_of_ble_eq_true rfl⟩ dX5_hangThen_14 rfl [some 0, some 1, some 2, some 3, some 4, some 5, some 6, some 7, some 8, some 9, some 10, some 11, some 12, some 13, some 14, some 15, some 16, some 17, some 18, some 19, some 20, some 21, some 22, some 23, some 24, some 25, some 26, some 27, some 28, some 29, some 30, some 31, some 32, some 33, some 34, some 35, some 36, some 37, some 38] rfl (ws' := cEW G q p_14.2) rfl (fun H locs hW => ?_)
    refine lv_goto (tgt := 28) hx hb dX5_hangThen_17 (by decide) ?_
    obtain rfl := Option.some.inj h
    exact x_reti F hr hW rfl dX5_hangThen_28
def f_X5_wicksThen (w : EW) (x1 : Int32) (x2 : Int32) : Option (Int32 × EW) :=
  Option.bind (f_X1_isHouse w.1.1 x1) fun p_5 =>
    if p_5 = 0 then
    Option.bind (f_X5_refuse w (-1 : Int32)) fun p_13 =>
    some (p_13.1, p_13.2)
    else
    Option.bind (f_X5_outside x2 (0 : Int32) (60 : Int32)) fun p_21 =>
    if p_21 = 0 then
    Option.bind (f_X4_wicksBehind w.1 x1 x2) fun p_43 =>
    some (p_43.1, (p_43.2, w.2.1, w.2.2.1, w.2.2.2.1, w.2.2.2.2.1, w.2.2.2.2.2.1, w.2.2.2.2.2.2.1, w.2.2.2.2.2.2.2))
    else
    Option.bind (f_X5_refuse w p_21) fun p_31 =>
    some (p_31.1, p_31.2)
abbrev rmX5_wicksThen : Room := { frames := 5, cells := 0, slots := 0, locals := 109 }
set_option maxRecDepth 100000 in
set_option maxHeartbeats 4000000 in
theorem c_X5_wicksThen (l : Launch) (G : EnT) (q : Nat → Nat) (w : EW) (x1 : Int32) (x2 : Int32) (o : Int32 × EW) (h : f_X5_wicksThen w x1 x2 = some o) : Mi l yX5_wicksThen rmX5_wicksThen cX5_wicksThen 4 (some .int) G false [.ref (q 0), .int x1, .int x2] (cEW G q w) o.1 (cEW G q o.2) := by
  refine Mi_of (by decide) (Nat.le_of_ble_eq_true rfl) ?_
  intro p e s m below meth c A0 F hr hW ls hl
  obtain ⟨hx, hb, hml, hown, hts, hK, hNW, hlocks, hA, hSX⟩ := id F
  have hl : lv_has ls 4 [(0, .ref (q 0)), (1, .int x1), (2, .int x2)] := hl
  have hW : Wd G A0 s (cEW G q w) s.heap [] := hW
  show W p l e rmX5_wicksThen s m ([.ref (q 0), .int x1, .int x2] : List Value).toArray below meth c s.heap [] 0 0 (Qi below G (cEW G q o.2) o.1 A0 ([.ref (q 0), .int x1, .int x2] : List Value).toArray s) (F0 m 0 ls [])
  refine lv_aload_n hx hb dX5_wicksThen_0 rfl (lv_at hl 0 rfl) ?_
  refine x_get F hW 0 rfl fa_X5_20 rfl dX5_wicksThen_1 ?_
  refine lv_iload_n hx hb dX5_wicksThen_4 rfl (lv_at hl 1 rfl) ?_
  obtain ⟨p_5, hc_5, h⟩ := of_bind h
  refine x_Vi (av := [.ref (q 2), .int x1]) (As := [.int x1]) F hW (c_X1_isHouse l G (fun i => q (i + 2)) w.1.1 x1 _ hc_5) [2, 3, 4, 5, 6, 7] rfl rfl (by intro q; cases q) cv_X5_74 rfl ⟨_, rfl, rfl⟩ rfl rfl rfl hl (Nat.le_of_ble_eq_true rfl) ⟨Nat.le_of_ble_eq_true rfl, Nat.le_of_ble_eq_true rfl⟩ ⟨rfl, rfl⟩ ⟨Nat.le_of_ble_eq_true rfl, Nat.le_of_ble_eq_true rfl⟩ dX5_wicksThen_5 rfl [none, none, some 0, some 1, some 2, some 3, some 4, some 5, none, none, none, none, none, none, none, none, none, none, none, none, none, none, none, none, none, none, none, none, none, none, none, none, none, none, none, none, none, none, none] rfl (ws' := cEW G q w) rfl (fun H locs hW => ?_)
  obtain ⟨ht_8, hf_8⟩ := of_ite h
  refine lv_if_ne (tgt := 17) hx hb dX5_wicksThen_8 (by decide) (fun c_8 => ?_) (fun c_8 => ?_)
  · have h := hf_8 c_8
    refine lv_iload_n hx hb dX5_wicksThen_17 rfl (lv_at hl 2 rfl) ?_
    refine lv_iconst (v := (0 : Int32)) hx hb dX5_wicksThen_18 (by decide) ?_
    refine lv_bipush (v := (60 : Int32)) hx hb dX5_wicksThen_19 (by decide) ?_
    obtain ⟨p_21, hc_21, h⟩ := of_bind h
    refine x_Si (av := [.int x2, .int (0 : Int32), .int (60 : Int32)]) F hW (c_X5_outside l G x2 (0 : Int32) (60 : Int32) _ hc_21) [] rfl rfl (by intro q; cases q) cs_X5_108 rfl rfl hl (Nat.le_of_ble_eq_true rfl) ⟨Nat.le_of_ble_eq_true rfl, Nat.le_of_ble_eq_true rfl⟩ ⟨rfl, rfl⟩ ⟨Nat.le_of_ble_eq_true rfl, Nat.le_of_ble_eq_true rfl⟩ dX5_wicksThen_21 rfl [none, none, none, none, none, none, none, none, none, none, none, none, none, none, none, none, none, none, none, none, none, none, none, none, none, none, none, none, none, none, none, none, none, none, none, none, none, none, none] rfl (ws' := cEW G q w) rfl (fun H locs hW => ?_)
    refine lv_istore_n (lv' := [(3, .int p_21), (0, .ref (q 0)), (1, .int x1), (2, .int x2)]) hx hb dX5_wicksThen_24 rfl hl (by decide) rfl (fun ls hl => ?_)
    refine lv_iload_n hx hb dX5_wicksThen_25 rfl (lv_at hl 0 rfl) ?_
    obtain ⟨ht_26, hf_26⟩ := of_ite h
    refine lv_if_eq (tgt := 37) hx hb dX5_wicksThen_26 (by decide) (fun c_26 => ?_) (fun c_26 => ?_)
    · have h := ht_26 c_26
      refine lv_aload_n hx hb dX5_wicksThen_37 rfl (lv_at hl 1 rfl) ?_
      refine x_get F hW 0 rfl fa_X5_10 rfl dX5_wicksThen_38 ?_
      refine lv_iload_n hx hb dX5_wicksThen_41 rfl (lv_at hl 2 rfl) ?_
      refine lv_iload_n hx hb dX5_wicksThen_42 rfl (lv_at hl 3 rfl) ?_
      obtain ⟨p_43, hc_43, h⟩ := of_bind h
      refine x_Vi (av := [.ref (q 1), .int x1, .int x2]) (As := [.int x1, .int x2]) F hW (c_X4_wicksBehind l G (fun i => q (i + 1)) w.1 x1 x2 _ hc_43) [1, 2, 3, 4, 5, 6, 7, 8, 9, 10, 11, 12, 13, 14, 15, 16, 17, 18, 19, 20, 21, 22] rfl rfl (by intro q; cases q) cv_X5_142 rfl ⟨_, rfl, rfl⟩ rfl rfl rfl hl (Nat.le_of_ble_eq_true rfl) ⟨Nat.le_of_ble_eq_true rfl, Nat.le_of_ble_eq_true rfl⟩ ⟨rfl, rfl⟩ ⟨Nat.le_of_ble_eq_true rfl, Nat.le_of_ble_eq_true rfl⟩ dX5_wicksThen_43 rfl [none, some 0, some 1, some 2, some 3, some 4, some 5, some 6, some 7, some 8, some 9, some 10, some 11, some 12, some 13, some 14, some 15, some 16, some 17, some 18, some 19, some 20, some 21, none, none, none, none, none, none, none, none, none, none, none, none, none, none, none, none] rfl (ws' := cEW G q (p_43.2, w.2.1, w.2.2.1, w.2.2.2.1, w.2.2.2.2.1, w.2.2.2.2.2.1, w.2.2.2.2.2.2.1, w.2.2.2.2.2.2.2)) rfl (fun H locs hW => ?_)
      obtain rfl := Option.some.inj h
      exact x_reti F hr hW rfl dX5_wicksThen_46
    · have h := hf_26 c_26
      refine lv_aload_n hx hb dX5_wicksThen_29 rfl (lv_at hl 1 rfl) ?_
      refine lv_iload_n hx hb dX5_wicksThen_30 rfl (lv_at hl 0 rfl) ?_
      obtain ⟨p_31, hc_31, h⟩ := of_bind h
      refine x_Vi (av := [.ref (q 0), .int p_21]) (As := [.int p_21]) F hW (c_X5_refuse l G q w p_21 _ hc_31) [0, 1, 2, 3, 4, 5, 6, 7, 8, 9, 10, 11, 12, 13, 14, 15, 16, 17, 18, 19, 20, 21, 22, 23, 24, 25, 26, 27, 28, 29, 30, 31, 32, 33, 34, 35, 36, 37, 38] rfl rfl (by intro q; cases q) cv_X5_44 rfl ⟨_, rfl, rfl⟩ rfl rfl rfl hl (Nat.le_of_ble_eq_true rfl) ⟨Nat.le_of_ble_eq_true rfl, Nat.le_of_ble_eq_true rfl⟩ ⟨rfl, rfl⟩ ⟨Nat.le_of_ble_eq_true rfl, Nat.le_of_ble_eq_true rfl⟩ dX5_wicksThen_31 rfl [some 0, some 1, some 2, some 3, some 4, some 5, some 6, some 7, some 8, some 9, some 10, some 11, some 12, some 13, some 14, some 15, some 16, some 17, some 18, some 19, some 20, some 21, some 22, some 23, some 24, some 25, some 26, some 27, some 28, some 29, some 30, some 31, some 32, some 33, some 34, some 35, some 36, some 37, some 38] rfl (ws' := cEW G q p_31.2) rfl (fun H locs hW => ?_)
      refine lv_goto (tgt := 46) hx hb dX5_wicksThen_34 (by decide) ?_
      obtain rfl := Option.some.inj h
      exact x_reti F hr hW rfl dX5_wicksThen_46
  · have h := ht_8 c_8
    refine lv_aload_n hx hb dX5_wicksThen_11 rfl (lv_at hl 0 rfl) ?_
    refine lv_iconst (v := (-1 : Int32)) hx hb dX5_wicksThen_12 (by decide) ?_
    obtain ⟨p_13, hc_13, h⟩ := of_bind h
    refine x_Vi (av := [.ref (q 0), .int (-1 : Int32)]) (As := [.int (-1 : Int32)]) F hW (c_X5_refuse l G q w (-1 : Int32) _ hc_13) [0, 1, 2, 3, 4, 5, 6, 7, 8, 9, 10, 11, 12, 13, 14, 15, 16, 17, 18, 19, 20, 21, 22, 23, 24, 25, 26, 27, 28, 29, 30, 31, 32, 33, 34, 35, 36, 37, 38] rfl rfl (by intro q; cases q) cv_X5_44 rfl ⟨_, rfl, rfl⟩ rfl rfl rfl hl (Nat.le_of_ble_eq_true rfl) ⟨Nat.le_of_ble_eq_true rfl, Nat.le_of_ble_eq_true rfl⟩ ⟨rfl, rfl⟩ ⟨Nat.le_of_ble_eq_true rfl, Nat.le_of_ble_eq_true rfl⟩ dX5_wicksThen_13 rfl [some 0, some 1, some 2, some 3, some 4, some 5, some 6, some 7, some 8, some 9, some 10, some 11, some 12, some 13, some 14, some 15, some 16, some 17, some 18, some 19, some 20, some 21, some 22, some 23, some 24, some 25, some 26, some 27, some 28, some 29, some 30, some 31, some 32, some 33, some 34, some 35, some 36, some 37, some 38] rfl (ws' := cEW G q p_13.2) rfl (fun H locs hW => ?_)
    obtain rfl := Option.some.inj h
    exact x_reti F hr hW rfl dX5_wicksThen_16
def f_X5_dark (w : EW) (x1 : Int32) : Option (Int32 × EW) :=
  Option.bind (f_X1_isHouse w.1.1 x1) fun p_5 =>
    if p_5 = 0 then
    Option.bind (f_X5_refuse w (-1 : Int32)) fun p_24 =>
    some (p_24.1, p_24.2)
    else
    Option.bind (f_X4_darkBehind w.1 x1) fun p_16 =>
    some (p_16.1, (p_16.2, w.2.1, w.2.2.1, w.2.2.2.1, w.2.2.2.2.1, w.2.2.2.2.2.1, w.2.2.2.2.2.2.1, w.2.2.2.2.2.2.2))
abbrev rmX5_dark : Room := { frames := 5, cells := 0, slots := 0, locals := 127 }
set_option maxRecDepth 100000 in
set_option maxHeartbeats 4000000 in
theorem c_X5_dark (l : Launch) (G : EnT) (q : Nat → Nat) (w : EW) (x1 : Int32) (o : Int32 × EW) (h : f_X5_dark w x1 = some o) : Mi l yX5_dark rmX5_dark cX5_dark 2 (some .int) G false [.ref (q 0), .int x1] (cEW G q w) o.1 (cEW G q o.2) := by
  refine Mi_of (by decide) (Nat.le_of_ble_eq_true rfl) ?_
  intro p e s m below meth c A0 F hr hW ls hl
  obtain ⟨hx, hb, hml, hown, hts, hK, hNW, hlocks, hA, hSX⟩ := id F
  have hl : lv_has ls 2 [(0, .ref (q 0)), (1, .int x1)] := hl
  have hW : Wd G A0 s (cEW G q w) s.heap [] := hW
  show W p l e rmX5_dark s m ([.ref (q 0), .int x1] : List Value).toArray below meth c s.heap [] 0 0 (Qi below G (cEW G q o.2) o.1 A0 ([.ref (q 0), .int x1] : List Value).toArray s) (F0 m 0 ls [])
  refine lv_aload_n hx hb dX5_dark_0 rfl (lv_at hl 0 rfl) ?_
  refine x_get F hW 0 rfl fa_X5_20 rfl dX5_dark_1 ?_
  refine lv_iload_n hx hb dX5_dark_4 rfl (lv_at hl 1 rfl) ?_
  obtain ⟨p_5, hc_5, h⟩ := of_bind h
  refine x_Vi (av := [.ref (q 2), .int x1]) (As := [.int x1]) F hW (c_X1_isHouse l G (fun i => q (i + 2)) w.1.1 x1 _ hc_5) [2, 3, 4, 5, 6, 7] rfl rfl (by intro q; cases q) cv_X5_74 rfl ⟨_, rfl, rfl⟩ rfl rfl rfl hl (Nat.le_of_ble_eq_true rfl) ⟨Nat.le_of_ble_eq_true rfl, Nat.le_of_ble_eq_true rfl⟩ ⟨rfl, rfl⟩ ⟨Nat.le_of_ble_eq_true rfl, Nat.le_of_ble_eq_true rfl⟩ dX5_dark_5 rfl [none, none, some 0, some 1, some 2, some 3, some 4, some 5, none, none, none, none, none, none, none, none, none, none, none, none, none, none, none, none, none, none, none, none, none, none, none, none, none, none, none, none, none, none, none] rfl (ws' := cEW G q w) rfl (fun H locs hW => ?_)
  obtain ⟨ht_8, hf_8⟩ := of_ite h
  refine lv_if_eq (tgt := 22) hx hb dX5_dark_8 (by decide) (fun c_8 => ?_) (fun c_8 => ?_)
  · have h := ht_8 c_8
    refine lv_aload_n hx hb dX5_dark_22 rfl (lv_at hl 0 rfl) ?_
    refine lv_iconst (v := (-1 : Int32)) hx hb dX5_dark_23 (by decide) ?_
    obtain ⟨p_24, hc_24, h⟩ := of_bind h
    refine x_Vi (av := [.ref (q 0), .int (-1 : Int32)]) (As := [.int (-1 : Int32)]) F hW (c_X5_refuse l G q w (-1 : Int32) _ hc_24) [0, 1, 2, 3, 4, 5, 6, 7, 8, 9, 10, 11, 12, 13, 14, 15, 16, 17, 18, 19, 20, 21, 22, 23, 24, 25, 26, 27, 28, 29, 30, 31, 32, 33, 34, 35, 36, 37, 38] rfl rfl (by intro q; cases q) cv_X5_44 rfl ⟨_, rfl, rfl⟩ rfl rfl rfl hl (Nat.le_of_ble_eq_true rfl) ⟨Nat.le_of_ble_eq_true rfl, Nat.le_of_ble_eq_true rfl⟩ ⟨rfl, rfl⟩ ⟨Nat.le_of_ble_eq_true rfl, Nat.le_of_ble_eq_true rfl⟩ dX5_dark_24 rfl [some 0, some 1, some 2, some 3, some 4, some 5, some 6, some 7, some 8, some 9, some 10, some 11, some 12, some 13, some 14, some 15, some 16, some 17, some 18, some 19, some 20, some 21, some 22, some 23, some 24, some 25, some 26, some 27, some 28, some 29, some 30, some 31, some 32, some 33, some 34, some 35, some 36, some 37, some 38] rfl (ws' := cEW G q p_24.2) rfl (fun H locs hW => ?_)
    obtain rfl := Option.some.inj h
    exact x_reti F hr hW rfl dX5_dark_27
  · have h := hf_8 c_8
    refine lv_aload_n hx hb dX5_dark_11 rfl (lv_at hl 0 rfl) ?_
    refine x_get F hW 0 rfl fa_X5_10 rfl dX5_dark_12 ?_
    refine lv_iload_n hx hb dX5_dark_15 rfl (lv_at hl 1 rfl) ?_
    obtain ⟨p_16, hc_16, h⟩ := of_bind h
    refine x_Vi (av := [.ref (q 1), .int x1]) (As := [.int x1]) F hW (c_X4_darkBehind l G (fun i => q (i + 1)) w.1 x1 _ hc_16) [1, 2, 3, 4, 5, 6, 7, 8, 9, 10, 11, 12, 13, 14, 15, 16, 17, 18, 19, 20, 21, 22] rfl rfl (by intro q; cases q) cv_X5_146 rfl ⟨_, rfl, rfl⟩ rfl rfl rfl hl (Nat.le_of_ble_eq_true rfl) ⟨Nat.le_of_ble_eq_true rfl, Nat.le_of_ble_eq_true rfl⟩ ⟨rfl, rfl⟩ ⟨Nat.le_of_ble_eq_true rfl, Nat.le_of_ble_eq_true rfl⟩ dX5_dark_16 rfl [none, some 0, some 1, some 2, some 3, some 4, some 5, some 6, some 7, some 8, some 9, some 10, some 11, some 12, some 13, some 14, some 15, some 16, some 17, some 18, some 19, some 20, some 21, none, none, none, none, none, none, none, none, none, none, none, none, none, none, none, none] rfl (ws' := cEW G q (p_16.2, w.2.1, w.2.2.1, w.2.2.2.1, w.2.2.2.2.1, w.2.2.2.2.2.1, w.2.2.2.2.2.2.1, w.2.2.2.2.2.2.2)) rfl (fun H locs hW => ?_)
    refine lv_goto (tgt := 27) hx hb dX5_dark_19 (by decide) ?_
    obtain rfl := Option.some.inj h
    exact x_reti F hr hW rfl dX5_dark_27
def f_X5_first (w : EW) (x1 : Int32) : Option (Int32 × EW) :=
  if x1 = (0 : Int32) then
    Option.bind (f_X4_firstDark w.1) fun p_32 =>
    some (p_32.1, (p_32.2, w.2.1, w.2.2.1, w.2.2.2.1, w.2.2.2.2.1, w.2.2.2.2.2.1, w.2.2.2.2.2.2.1, w.2.2.2.2.2.2.2))
    else
    if x1 = (1 : Int32) then
    Option.bind (f_X4_wholeBehind w.1) fun p_40 =>
    some (p_40.1, (p_40.2, w.2.1, w.2.2.1, w.2.2.2.1, w.2.2.2.2.1, w.2.2.2.2.2.1, w.2.2.2.2.2.2.1, w.2.2.2.2.2.2.2))
    else
    Option.bind (f_X5_refuse w (-2 : Int32)) fun p_47 =>
    some (p_47.1, p_47.2)
abbrev rmX5_first : Room := { frames := 5, cells := 0, slots := 0, locals := 128 }
set_option maxRecDepth 100000 in
set_option maxHeartbeats 4000000 in
theorem c_X5_first (l : Launch) (G : EnT) (q : Nat → Nat) (w : EW) (x1 : Int32) (o : Int32 × EW) (h : f_X5_first w x1 = some o) : Mi l yX5_first rmX5_first cX5_first 2 (some .int) G false [.ref (q 0), .int x1] (cEW G q w) o.1 (cEW G q o.2) := by
  refine Mi_of (by decide) (Nat.le_of_ble_eq_true rfl) ?_
  intro p e s m below meth c A0 F hr hW ls hl
  obtain ⟨hx, hb, hml, hown, hts, hK, hNW, hlocks, hA, hSX⟩ := id F
  have hl : lv_has ls 2 [(0, .ref (q 0)), (1, .int x1)] := hl
  have hW : Wd G A0 s (cEW G q w) s.heap [] := hW
  show W p l e rmX5_first s m ([.ref (q 0), .int x1] : List Value).toArray below meth c s.heap [] 0 0 (Qi below G (cEW G q o.2) o.1 A0 ([.ref (q 0), .int x1] : List Value).toArray s) (F0 m 0 ls [])
  refine lv_iload_n hx hb dX5_first_0 rfl (lv_at hl 1 rfl) ?_
  obtain ⟨ht_1_0, h⟩ := of_ite h
  by_cases c_1_0 : x1 = (0 : Int32)
  · have h := ht_1_0 c_1_0
    refine x_lookIn c_1_0 hx hb dX5_first_1 rfl (off := (27)) rfl (tgt := 28) (by decide) ?_
    refine lv_aload_n hx hb dX5_first_28 rfl (lv_at hl 0 rfl) ?_
    refine x_get F hW 0 rfl fa_X5_10 rfl dX5_first_29 ?_
    obtain ⟨p_32, hc_32, h⟩ := of_bind h
    refine x_Vi (av := [.ref (q 1)]) (As := []) F hW (c_X4_firstDark l G (fun i => q (i + 1)) w.1 _ hc_32) [1, 2, 3, 4, 5, 6, 7, 8, 9, 10, 11, 12, 13, 14, 15, 16, 17, 18, 19, 20, 21, 22] rfl rfl (by intro q; cases q) cv_X5_149 rfl ⟨_, rfl, rfl⟩ rfl rfl rfl hl (Nat.le_of_ble_eq_true rfl) ⟨Nat.le_of_ble_eq_true rfl, Nat.le_of_ble_eq_true rfl⟩ ⟨rfl, rfl⟩ ⟨Nat.le_of_ble_eq_true rfl, Nat.le_of_ble_eq_true rfl⟩ dX5_first_32 rfl [none, some 0, some 1, some 2, some 3, some 4, some 5, some 6, some 7, some 8, some 9, some 10, some 11, some 12, some 13, some 14, some 15, some 16, some 17, some 18, some 19, some 20, some 21, none, none, none, none, none, none, none, none, none, none, none, none, none, none, none, none] rfl (ws' := cEW G q (p_32.2, w.2.1, w.2.2.1, w.2.2.2.1, w.2.2.2.2.1, w.2.2.2.2.2.1, w.2.2.2.2.2.2.1, w.2.2.2.2.2.2.2)) rfl (fun H locs hW => ?_)
    obtain rfl := Option.some.inj h
    exact x_reti F hr hW rfl dX5_first_35
  have h := h c_1_0
  obtain ⟨ht_1_1, h⟩ := of_ite h
  by_cases c_1_1 : x1 = (1 : Int32)
  · have h := ht_1_1 c_1_1
    refine x_lookIn c_1_1 hx hb dX5_first_1 rfl (off := (35)) rfl (tgt := 36) (by decide) ?_
    refine lv_aload_n hx hb dX5_first_36 rfl (lv_at hl 0 rfl) ?_
    refine x_get F hW 0 rfl fa_X5_10 rfl dX5_first_37 ?_
    obtain ⟨p_40, hc_40, h⟩ := of_bind h
    refine x_Vi (av := [.ref (q 1)]) (As := []) F hW (c_X4_wholeBehind l G (fun i => q (i + 1)) w.1 _ hc_40) [1, 2, 3, 4, 5, 6, 7, 8, 9, 10, 11, 12, 13, 14, 15, 16, 17, 18, 19, 20, 21, 22] rfl rfl (by intro q; cases q) cv_X5_152 rfl ⟨_, rfl, rfl⟩ rfl rfl rfl hl (Nat.le_of_ble_eq_true rfl) ⟨Nat.le_of_ble_eq_true rfl, Nat.le_of_ble_eq_true rfl⟩ ⟨rfl, rfl⟩ ⟨Nat.le_of_ble_eq_true rfl, Nat.le_of_ble_eq_true rfl⟩ dX5_first_40 rfl [none, some 0, some 1, some 2, some 3, some 4, some 5, some 6, some 7, some 8, some 9, some 10, some 11, some 12, some 13, some 14, some 15, some 16, some 17, some 18, some 19, some 20, some 21, none, none, none, none, none, none, none, none, none, none, none, none, none, none, none, none] rfl (ws' := cEW G q (p_40.2, w.2.1, w.2.2.1, w.2.2.2.1, w.2.2.2.2.1, w.2.2.2.2.2.1, w.2.2.2.2.2.2.1, w.2.2.2.2.2.2.2)) rfl (fun H locs hW => ?_)
    obtain rfl := Option.some.inj h
    exact x_reti F hr hW rfl dX5_first_43
  have h := h c_1_1
  refine lv_lookup (off := 43) hx hb dX5_first_1 rfl (by have z0 := x_ne c_1_0 (z := 0) (by decide); have z1 := x_ne c_1_1 (z := 1) (by decide); simp [Op.lookupswitch.offset, z0, Ne.symm z0, z1, Ne.symm z1]) (tgt := 44) (by decide) ?_
  refine lv_aload_n hx hb dX5_first_44 rfl (lv_at hl 0 rfl) ?_
  refine lv_bipush (v := (-2 : Int32)) hx hb dX5_first_45 (by decide) ?_
  obtain ⟨p_47, hc_47, h⟩ := of_bind h
  refine x_Vi (av := [.ref (q 0), .int (-2 : Int32)]) (As := [.int (-2 : Int32)]) F hW (c_X5_refuse l G q w (-2 : Int32) _ hc_47) [0, 1, 2, 3, 4, 5, 6, 7, 8, 9, 10, 11, 12, 13, 14, 15, 16, 17, 18, 19, 20, 21, 22, 23, 24, 25, 26, 27, 28, 29, 30, 31, 32, 33, 34, 35, 36, 37, 38] rfl rfl (by intro q; cases q) cv_X5_44 rfl ⟨_, rfl, rfl⟩ rfl rfl rfl hl (Nat.le_of_ble_eq_true rfl) ⟨Nat.le_of_ble_eq_true rfl, Nat.le_of_ble_eq_true rfl⟩ ⟨rfl, rfl⟩ ⟨Nat.le_of_ble_eq_true rfl, Nat.le_of_ble_eq_true rfl⟩ dX5_first_47 rfl [some 0, some 1, some 2, some 3, some 4, some 5, some 6, some 7, some 8, some 9, some 10, some 11, some 12, some 13, some 14, some 15, some 16, some 17, some 18, some 19, some 20, some 21, some 22, some 23, some 24, some 25, some 26, some 27, some 28, some 29, some 30, some 31, some 32, some 33, some 34, some 35, some 36, some 37, some 38] rfl (ws' := cEW G q p_47.2) rfl (fun H locs hW => ?_)
  obtain rfl := Option.some.inj h
  exact x_reti F hr hW rfl dX5_first_50
