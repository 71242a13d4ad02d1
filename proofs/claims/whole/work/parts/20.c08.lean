def f_X5_turn (w : EW) (x1 : Int32) (x2 : Int32) (x3 : Int32) : Option (Int32 × EW) :=
  Option.bind (f_X1_isHouse w.1.1 x1) fun p_5 =>
    if p_5 = 0 then
    Option.bind (f_X5_refuse w (-1 : Int32)) fun p_13 =>
    some (p_13.1, p_13.2)
    else
    if x2 < 0 then
    Option.bind (f_X5_refuse w (-2 : Int32)) fun p_30 =>
    some (p_30.1, p_30.2)
    else
    if x2 < (6 : Int32) then
    Option.bind (f_X5_outside x3 (0 : Int32) (9 : Int32)) fun p_38 =>
    if p_38 = 0 then
    if inR x1 8 then
    if inR x1 8 then
    nm (((10 : Int32) * (w.1.1.2.1 x1.toNatClampNeg)) + (w.1.1.2.2.1 x1.toNatClampNeg)) fun x_77 =>
    if inR x1 8 then
    if inR x1 8 then
    some (x_77, (((w.1.1.1, (upd w.1.1.2.1 x1.toNatClampNeg x2), (upd w.1.1.2.2.1 x1.toNatClampNeg x3), w.1.1.2.2.2.1, w.1.1.2.2.2.2.1, w.1.1.2.2.2.2.2.1, w.1.1.2.2.2.2.2.2.1, w.1.1.2.2.2.2.2.2.2.1, w.1.1.2.2.2.2.2.2.2.2), w.1.2.1, w.1.2.2.1, w.1.2.2.2.1, w.1.2.2.2.2.1, w.1.2.2.2.2.2.1, w.1.2.2.2.2.2.2), w.2.1, w.2.2.1, w.2.2.2.1, w.2.2.2.2.1, w.2.2.2.2.2.1, w.2.2.2.2.2.2.1, w.2.2.2.2.2.2.2))
    else none
    else none
    else none
    else none
    else
    Option.bind (f_X5_refuse w p_38) fun p_51 =>
    some (p_51.1, p_51.2)
    else
    Option.bind (f_X5_refuse w (-2 : Int32)) fun p_30_2 =>
    some (p_30_2.1, p_30_2.2)
abbrev rmX5_turn : Room := { frames := 1, cells := 0, slots := 0, locals := 22 }
set_option maxRecDepth 100000 in
set_option maxHeartbeats 4000000 in
theorem c_X5_turn (l : Launch) (G : EnT) (q : Nat → Nat) (w : EW) (x1 : Int32) (x2 : Int32) (x3 : Int32) (o : Int32 × EW) (h : f_X5_turn w x1 x2 x3 = some o) : Mi l yX5_turn rmX5_turn cX5_turn 6 (some .int) G false [.ref (q 0), .int x1, .int x2, .int x3] (cEW G q w) o.1 (cEW G q o.2) := by
  refine Mi_of (by decide) (Nat.le_of_ble_eq_true rfl) ?_
  intro p e s m below meth c A0 F hr hW ls hl
  obtain ⟨hx, hb, hml, hown, hts, hK, hNW, hlocks, hA, hSX⟩ := id F
  have hl : lv_has ls 6 [(0, .ref (q 0)), (1, .int x1), (2, .int x2), (3, .int x3)] := hl
  have hW : Wd G A0 s (cEW G q w) s.heap [] := hW
  show W p l e rmX5_turn s m ([.ref (q 0), .int x1, .int x2, .int x3] : List Value).toArray below meth c s.heap [] 0 0 (Qi below G (cEW G q o.2) o.1 A0 ([.ref (q 0), .int x1, .int x2, .int x3] : List Value).toArray s) (F0 m 0 ls [])
  refine lv_aload_n hx hb dX5_turn_0 rfl (lv_at hl 0 rfl) ?_
  refine x_get F hW 0 rfl fa_X5_20 rfl dX5_turn_1 ?_
  refine lv_iload_n hx hb dX5_turn_4 rfl (lv_at hl 1 rfl) ?_
  obtain ⟨p_5, hc_5, h⟩ := of_bind h
  refine x_Vi (av := [.ref (q 2), .int x1]) (As := [.int x1]) F hW (c_X1_isHouse l G (fun i => q (i + 2)) w.1.1 x1 _ hc_5) [2, 3, 4, 5, 6, 7] rfl rfl (by intro q; cases q) cv_X5_74 rfl ⟨_, rfl, rfl⟩ rfl rfl rfl hl (Nat.le_of_ble_eq_true rfl) ⟨Nat.le_of_ble_eq_true rfl, Nat.le_of_ble_eq_true rfl⟩ ⟨rfl, rfl⟩ ⟨Nat.le_of_ble_eq_true rfl, Nat.le_of_ble_eq_true rfl⟩ dX5_turn_5 rfl [none, none, some 0, some 1, some 2, some 3, some 4, some 5, none, none, none, none, none, none, none, none, none, none, none, none, none, none, none, none, none, none, none, none, none, none, none, none, none, none, none, none, none, none, none] rfl (ws' := cEW G q w) rfl (fun H locs hW => ?_)
  obtain ⟨ht_8, hf_8⟩ := of_ite h
  refine lv_if_ne (tgt := 17) hx hb dX5_turn_8 (by decide) (fun c_8 => ?_) (fun c_8 => ?_)
  · have h := hf_8 c_8
    refine lv_iload_n hx hb dX5_turn_17 rfl (lv_at hl 2 rfl) ?_
    obtain ⟨ht_18, hf_18⟩ := of_ite h
    refine lv_if_lt (tgt := 27) hx hb dX5_turn_18 (by decide) (fun c_18 => ?_) (fun c_18 => ?_)
    · have h := ht_18 c_18
      refine lv_aload_n hx hb dX5_turn_27 rfl (lv_at hl 0 rfl) ?_
      refine lv_bipush (v := (-2 : Int32)) hx hb dX5_turn_28 (by decide) ?_
      obtain ⟨p_30, hc_30, h⟩ := of_bind h
      refine x_Vi (av := [.ref (q 0), .int (-2 : Int32)]) (As := [.int (-2 : Int32)]) F hW (c_X5_refuse l G q w (-2 : Int32) _ hc_30) [0, 1, 2, 3, 4, 5, 6, 7, 8, 9, 10, 11, 12, 13, 14, 15, 16, 17, 18, 19, 20, 21, 22, 23, 24, 25, 26, 27, 28, 29, 30, 31, 32, 33, 34, 35, 36, 37, 38] rfl rfl (by intro q; cases q) cv_X5_44 rfl ⟨_, rfl, rfl⟩ rfl rfl rfl hl (Nat.le_of_ble_eq_true rfl) ⟨Nat.le_of_ble_eq_true rfl, Nat.le_of_ble_eq_true rfl⟩ ⟨rfl, rfl⟩ ⟨Nat.le_of_ble_eq_true rfl, Nat.le_of_ble_eq_true rfl⟩ dX5_turn_30 rfl [some 0, some 1, some 2, some 3, some 4, some 5, some 6, some 7, some 8, some 9, some 10, some 11, some 12, some 13, some 14, some 15, some 16, some 17, some 18, some 19, some 20, some 21, some 22, some 23, some 24, some 25, some 26, some 27, some 28, some 29, some 30, some 31, some 32, some 33, some 34, some 35, some 36, some 37, some 38] rfl (ws' := cEW G q p_30.2) rfl (fun H locs hW => ?_)
      obtain rfl := Option.some.inj h
      exact x_reti F hr hW rfl dX5_turn_33
    · have h := hf_18 c_18
      refine lv_iload_n hx hb dX5_turn_21 rfl (lv_at hl 2 rfl) ?_
      refine lv_bipush (v := (6 : Int32)) hx hb dX5_turn_22 (by decide) ?_
      obtain ⟨ht_24, hf_24⟩ := of_ite h
      refine lv_icmp_lt (tgt := 34) hx hb dX5_turn_24 (by decide) (fun c_24 => ?_) (fun c_24 => ?_)
      · have h := ht_24 c_24
        refine lv_iload_n hx hb dX5_turn_34 rfl (lv_at hl 3 rfl) ?_
        refine lv_iconst (v := (0 : Int32)) hx hb dX5_turn_35 (by decide) ?_
        refine lv_bipush (v := (9 : Int32)) hx hb dX5_turn_36 (by decide) ?_
        obtain ⟨p_38, hc_38, h⟩ := of_bind h
        refine x_Si (av := [.int x3, .int (0 : Int32), .int (9 : Int32)]) F hW (c_X5_outside l G x3 (0 : Int32) (9 : Int32) _ hc_38) [] rfl rfl (by intro q; cases q) cs_X5_108 rfl rfl hl (Nat.le_of_ble_eq_true rfl) ⟨Nat.le_of_ble_eq_true rfl, Nat.le_of_ble_eq_true rfl⟩ ⟨rfl, rfl⟩ ⟨Nat.le_of_ble_eq_true rfl, Nat.le_of_ble_eq_true rfl⟩ dX5_turn_38 rfl [none, none, none, none, none, none, none, none, none, none, none, none, none, none, none, none, none, none, none, none, none, none, none, none, none, none, none, none, none, none, none, none, none, none, none, none, none, none, none] rfl (ws' := cEW G q w) rfl (fun H locs hW => ?_)
        refine lv_istore (lv' := [(4, .int p_38), (0, .ref (q 0)), (1, .int x1), (2, .int x2), (3, .int x3)]) hx hb dX5_turn_41 hl (by decide) rfl (fun ls hl => ?_)
        refine lv_iload hx hb dX5_turn_43 (lv_at hl 0 rfl) ?_
        obtain ⟨ht_45, hf_45⟩ := of_ite h
        refine lv_if_eq (tgt := 55) hx hb dX5_turn_45 (by decide) (fun c_45 => ?_) (fun c_45 => ?_)
        · have h := ht_45 c_45
          refine lv_bipush (v := (10 : Int32)) hx hb dX5_turn_55 (by decide) ?_
          refine lv_aload_n hx hb dX5_turn_57 rfl (lv_at hl 1 rfl) ?_
          refine x_get F hW 0 rfl fa_X5_20 rfl dX5_turn_58 ?_
          refine x_get F hW 2 rfl fa_X5_78 rfl dX5_turn_61 ?_
          refine lv_iload_n hx hb dX5_turn_64 rfl (lv_at hl 2 rfl) ?_
          obtain ⟨g_65, h⟩ := of_guard h
          refine x_iald F hW 4 rfl g_65 dX5_turn_65 ?_
          refine lv_imul hx hb dX5_turn_66 ?_
          refine lv_aload_n hx hb dX5_turn_67 rfl (lv_at hl 1 rfl) ?_
          refine x_get F hW 0 rfl fa_X5_20 rfl dX5_turn_68 ?_
          refine x_get F hW 2 rfl fa_X5_81 rfl dX5_turn_71 ?_
          refine lv_iload_n hx hb dX5_turn_74 rfl (lv_at hl 2 rfl) ?_
          obtain ⟨g_75, h⟩ := of_guard h
          refine x_iald F hW 5 rfl g_75 dX5_turn_75 ?_
          refine lv_iadd hx hb dX5_turn_76 ?_
          obtain ⟨x_77, e_x_77, h⟩ := of_nm h
          refine x_topi e_x_77 ?_
          refine lv_istore (lv' := [(5, .int x_77), (4, .int p_38), (0, .ref (q 0)), (1, .int x1), (2, .int x2), (3, .int x3)]) hx hb dX5_turn_77 hl (by decide) rfl (fun ls hl => ?_)
          refine lv_aload_n hx hb dX5_turn_79 rfl (lv_at hl 2 rfl) ?_
          refine x_get F hW 0 rfl fa_X5_20 rfl dX5_turn_80 ?_
          refine x_get F hW 2 rfl fa_X5_78 rfl dX5_turn_83 ?_
          refine lv_iload_n hx hb dX5_turn_86 rfl (lv_at hl 3 rfl) ?_
          refine lv_iload_n hx hb dX5_turn_87 rfl (lv_at hl 4 rfl) ?_
          obtain ⟨g_88, h⟩ := of_guard h
          refine x_iast F hW 4 rfl g_88 (ws' := cEW G q (((w.1.1.1, (upd w.1.1.2.1 x1.toNatClampNeg x2), w.1.1.2.2.1, w.1.1.2.2.2.1, w.1.1.2.2.2.2.1, w.1.1.2.2.2.2.2.1, w.1.1.2.2.2.2.2.2.1, w.1.1.2.2.2.2.2.2.2.1, w.1.1.2.2.2.2.2.2.2.2), w.1.2.1, w.1.2.2.1, w.1.2.2.2.1, w.1.2.2.2.2.1, w.1.2.2.2.2.2.1, w.1.2.2.2.2.2.2), w.2.1, w.2.2.1, w.2.2.2.1, w.2.2.2.2.1, w.2.2.2.2.2.1, w.2.2.2.2.2.2.1, w.2.2.2.2.2.2.2)) rfl dX5_turn_88 (fun H locs hW => ?_)
          refine lv_aload_n hx hb dX5_turn_89 rfl (lv_at hl 2 rfl) ?_
          refine x_get F hW 0 rfl fa_X5_20 rfl dX5_turn_90 ?_
          refine x_get F hW 2 rfl fa_X5_81 rfl dX5_turn_93 ?_
          refine lv_iload_n hx hb dX5_turn_96 rfl (lv_at hl 3 rfl) ?_
          refine lv_iload_n hx hb dX5_turn_97 rfl (lv_at hl 5 rfl) ?_
          obtain ⟨g_98, h⟩ := of_guard h
          refine x_iast F hW 5 rfl g_98 (ws' := cEW G q (((w.1.1.1, (upd w.1.1.2.1 x1.toNatClampNeg x2), (upd w.1.1.2.2.1 x1.toNatClampNeg x3), w.1.1.2.2.2.1, w.1.1.2.2.2.2.1, w.1.1.2.2.2.2.2.1, w.1.1.2.2.2.2.2.2.1, w.1.1.2.2.2.2.2.2.2.1, w.1.1.2.2.2.2.2.2.2.2), w.1.2.1, w.1.2.2.1, w.1.2.2.2.1, w.1.2.2.2.2.1, w.1.2.2.2.2.2.1, w.1.2.2.2.2.2.2), w.2.1, w.2.2.1, w.2.2.2.1, w.2.2.2.2.1, w.2.2.2.2.2.1, w.2.2.2.2.2.2.1, w.2.2.2.2.2.2.2)) rfl dX5_turn_98 (fun H locs hW => ?_)
          refine lv_iload hx hb dX5_turn_99 (lv_at hl 0 rfl) ?_
          obtain rfl := Option.some.inj h
          exact x_reti F hr hW rfl dX5_turn_101
        · have h := hf_45 c_45
          refine lv_aload_n hx hb dX5_turn_48 rfl (lv_at hl 1 rfl) ?_
          refine lv_iload hx hb dX5_turn_49 (lv_at hl 0 rfl) ?_
          obtain ⟨p_51, hc_51, h⟩ := of_bind h
          refine x_Vi (av := [.ref (q 0), .int p_38]) (As := [.int p_38]) F hW (c_X5_refuse l G q w p_38 _ hc_51) [0, 1, 2, 3, 4, 5, 6, 7, 8, 9, 10, 11, 12, 13, 14, 15, 16, 17, 18, 19, 20, 21, 22, 23, 24, 25, 26, 27, 28, 29, 30, 31, 32, 33, 34, 35, 36, 37, 38] rfl rfl (by intro q; cases q) cv_X5_44 rfl ⟨_, rfl, rfl⟩ rfl rfl rfl hl (Nat.le_of_ble_eq_true rfl) ⟨Nat.le_of_ble_eq_true rfl, Nat.le_of_ble_eq_true rfl⟩ ⟨rfl, rfl⟩ ⟨Nat.le_of_ble_eq_true rfl, Nat.le_of_ble_eq_true rfl⟩ dX5_turn_51 rfl [some 0, some 1, some 2, some 3, some 4, some 5, some 6, some 7, some 8, some 9, some 10, some 11, some 12, some 13, some 14, some 15, some 16, some 17, some 18, some 19, some 20, some 21, some 22, some 23, some 24, some 25, some 26, some 27, some 28, some 29, some 30, some 31, some 32, some 33, some 34, some 35, some 36, some 37, some 38] rfl (ws' := cEW G q p_51.2) rfl (fun H locs hW => ?_)
          obtain rfl := Option.some.inj h
          exact x_reti F hr hW rfl dX5_turn_54
      · have h := hf_24 c_24
        refine lv_aload_n hx hb dX5_turn_27 rfl (lv_at hl 0 rfl) ?_
        refine lv_bipush (v := (-2 : Int32)) hx hb dX5_turn_28 (by decide) ?_
        obtain ⟨p_30_2, hc_30, h⟩ := of_bind h
        refine x_Vi (av := [.ref (q 0), .int (-2 : Int32)]) (As := [.int (-2 : Int32)]) F hW (c_X5_refuse l G q w (-2 : Int32) _ hc_30) [0, 1, 2, 3, 4, 5, 6, 7, 8, 9, 10, 11, 12, 13, 14, 15, 16, 17, 18, 19, 20, 21, 22, 23, 24, 25, 26, 27, 28, 29, 30, 31, 32, 33, 34, 35, 36, 37, 38] rfl rfl (by intro q; cases q) cv_X5_44 rfl ⟨_, rfl, rfl⟩ rfl rfl rfl hl (Nat.le_of_ble_eq_true rfl) ⟨Nat.le_of_ble_eq_true rfl, Nat.le_of_ble_eq_true rfl⟩ ⟨rfl, rfl⟩ ⟨Nat.le_of_ble_eq_true rfl, Nat.le_of_ble_eq_true rfl⟩ dX5_turn_30 rfl [some 0, some 1, some 2, some 3, some 4, some 5, some 6, some 7, some 8, some 9, some 10, some 11, some 12, some 13, some 14, some 15, some 16, some 17, some 18, some 19, some 20, some 21, some 22, some 23, some 24, some 25, some 26, some 27, some 28, some 29, some 30, some 31, some 32, some 33, some 34, some 35, some 36, some 37, some 38] rfl (ws' := cEW G q p_30_2.2) rfl (fun H locs hW => ?_)
        obtain rfl := Option.some.inj h
        exact x_reti F hr hW rfl dX5_turn_33
  · have h := ht_8 c_8
    refine lv_aload_n hx hb dX5_turn_11 rfl (lv_at hl 0 rfl) ?_
    refine lv_iconst (v := (-1 : Int32)) hx hb dX5_turn_12 (by decide) ?_
    obtain ⟨p_13, hc_13, h⟩ := of_bind h
    refine x_Vi (av := [.ref (q 0), .int (-1 : Int32)]) (As := [.int (-1 : Int32)]) F hW (c_X5_refuse l G q w (-1 : Int32) _ hc_13) [0, 1, 2, 3, 4, 5, 6, 7, 8, 9, 10, 11, 12, 13, 14, 15, 16, 17, 18, 19, 20, 21, 22, 23, 24, 25, 26, 27, 28, 29, 30, 31, 32, 33, 34, 35, 36, 37, 38] rfl rfl (by intro q; cases q) cv_X5_44 rfl ⟨_, rfl, rfl⟩ rfl rfl rfl hl (Nat.le_of_ble_eq_true rfl) ⟨Nat.le_of_ble_eq_true rfl, Nat.le_of_ble_eq_true rfl⟩ ⟨rfl, rfl⟩ ⟨Nat.le_of_ble_eq_true rfl, Nat.le_of_ble_eq_true rfl⟩ dX5_turn_13 rfl [some 0, some 1, some 2, some 3, some 4, some 5, some 6, some 7, some 8, some 9, some 10, some 11, some 12, some 13, some 14, some 15, some 16, some 17, some 18, some 19, some 20, some 21, some 22, some 23, some 24, some 25, some 26, some 27, some 28, some 29, some 30, some 31, some 32, some 33, some 34, some 35, some 36, some 37, some 38] rfl (ws' := cEW G q p_13.2) rfl (fun H locs hW => ?_)
    obtain rfl := Option.some.inj h
    exact x_reti F hr hW rfl dX5_turn_16
def f_X5_nights (w : EW) (x1 : Int32) : Option (Int32 × EW) :=
  Option.bind (f_X5_outside x1 (1 : Int32) (60 : Int32)) fun p_4 =>
    if p_4 = 0 then
    Option.bind (f_X1_goBy w.1.1 x1) fun p_23 =>
    if p_23.1 = 0 then
    Option.bind (f_X5_refuse ((p_23.2, w.1.2.1, w.1.2.2.1, w.1.2.2.2.1, w.1.2.2.2.2.1, w.1.2.2.2.2.2.1, w.1.2.2.2.2.2.2), w.2.1, w.2.2.1, w.2.2.2.1, w.2.2.2.2.1, w.2.2.2.2.2.1, w.2.2.2.2.2.2.1, w.2.2.2.2.2.2.2) (-6 : Int32)) fun p_46 =>
    some (p_46.1, p_46.2)
    else
    Option.bind (f_X4_hangingBehind (p_23.2, w.1.2.1, w.1.2.2.1, w.1.2.2.2.1, w.1.2.2.2.2.1, w.1.2.2.2.2.2.1, w.1.2.2.2.2.2.2) (0 : Int32)) fun p_34 =>
    Option.bind (f_J6_bitCount_0f7a4 p_34.1) fun p_37 =>
    some (p_37, (p_34.2, w.2.1, w.2.2.1, w.2.2.2.1, w.2.2.2.2.1, w.2.2.2.2.2.1, w.2.2.2.2.2.2.1, w.2.2.2.2.2.2.2))
    else
    Option.bind (f_X5_refuse w p_4) fun p_14 =>
    some (p_14.1, p_14.2)
abbrev rmX5_nights : Room := { frames := 5, cells := 0, slots := 0, locals := 126 }
set_option maxRecDepth 100000 in
set_option maxHeartbeats 4000000 in
theorem c_X5_nights (l : Launch) (G : EnT) (q : Nat → Nat) (w : EW) (x1 : Int32) (o : Int32 × EW) (h : f_X5_nights w x1 = some o) : Mi l yX5_nights rmX5_nights cX5_nights 3 (some .int) G false [.ref (q 0), .int x1] (cEW G q w) o.1 (cEW G q o.2) := by
  refine Mi_of (by decide) (Nat.le_of_ble_eq_true rfl) ?_
  intro p e s m below meth c A0 F hr hW ls hl
  obtain ⟨hx, hb, hml, hown, hts, hK, hNW, hlocks, hA, hSX⟩ := id F
  have hl : lv_has ls 3 [(0, .ref (q 0)), (1, .int x1)] := hl
  have hW : Wd G A0 s (cEW G q w) s.heap [] := hW
  show W p l e rmX5_nights s m ([.ref (q 0), .int x1] : List Value).toArray below meth c s.heap [] 0 0 (Qi below G (cEW G q o.2) o.1 A0 ([.ref (q 0), .int x1] : List Value).toArray s) (F0 m 0 ls [])
  refine lv_iload_n hx hb dX5_nights_0 rfl (lv_at hl 1 rfl) ?_
  refine lv_iconst (v := (1 : Int32)) hx hb dX5_nights_1 (by decide) ?_
  refine lv_bipush (v := (60 : Int32)) hx hb dX5_nights_2 (by decide) ?_
  obtain ⟨p_4, hc_4, h⟩ := of_bind h
  refine x_Si (av := [.int x1, .int (1 : Int32), .int (60 : Int32)]) F hW (c_X5_outside l G x1 (1 : Int32) (60 : Int32) _ hc_4) [] rfl rfl (by intro q; cases q) cs_X5_108 rfl rfl hl (Nat.le_of_ble_eq_true rfl) ⟨Nat.le_of_ble_eq_true rfl, Nat.le_of_ble_eq_true rfl⟩ ⟨rfl, rfl⟩ ⟨Nat.le_of_ble_eq_true rfl, Nat.le_of_ble_eq_true rfl⟩ dX5_nights_4 rfl [none, none, none, none, none, none, none, none, none, none, none, none, none, none, none, none, none, none, none, none, none, none, none, none, none, none, none, none, none, none, none, none, none, none, none, none, none, none, none] rfl (ws' := cEW G q w) rfl (fun H locs hW => ?_)
  refine lv_istore_n (lv' := [(2, .int p_4), (0, .ref (q 0)), (1, .int x1)]) hx hb dX5_nights_7 rfl hl (by decide) rfl (fun ls hl => ?_)
  refine lv_iload_n hx hb dX5_nights_8 rfl (lv_at hl 0 rfl) ?_
  obtain ⟨ht_9, hf_9⟩ := of_ite h
  refine lv_if_eq (tgt := 18) hx hb dX5_nights_9 (by decide) (fun c_9 => ?_) (fun c_9 => ?_)
  · have h := ht_9 c_9
    refine lv_aload_n hx hb dX5_nights_18 rfl (lv_at hl 1 rfl) ?_
    refine x_get F hW 0 rfl fa_X5_20 rfl dX5_nights_19 ?_
    refine lv_iload_n hx hb dX5_nights_22 rfl (lv_at hl 2 rfl) ?_
    obtain ⟨p_23, hc_23, h⟩ := of_bind h
    refine x_Vi (av := [.ref (q 2), .int x1]) (As := [.int x1]) F hW (c_X1_goBy l G (fun i => q (i + 2)) w.1.1 x1 _ hc_23) [2, 3, 4, 5, 6, 7] rfl rfl (by intro q; cases q) cv_X5_128 rfl ⟨_, rfl, rfl⟩ rfl rfl rfl hl (Nat.le_of_ble_eq_true rfl) ⟨Nat.le_of_ble_eq_true rfl, Nat.le_of_ble_eq_true rfl⟩ ⟨rfl, rfl⟩ ⟨Nat.le_of_ble_eq_true rfl, Nat.le_of_ble_eq_true rfl⟩ dX5_nights_23 rfl [none, none, some 0, some 1, some 2, some 3, some 4, some 5, none, none, none, none, none, none, none, none, none, none, none, none, none, none, none, none, none, none, none, none, none, none, none, none, none, none, none, none, none, none, none] rfl (ws' := cEW G q ((p_23.2, w.1.2.1, w.1.2.2.1, w.1.2.2.2.1, w.1.2.2.2.2.1, w.1.2.2.2.2.2.1, w.1.2.2.2.2.2.2), w.2.1, w.2.2.1, w.2.2.2.1, w.2.2.2.2.1, w.2.2.2.2.2.1, w.2.2.2.2.2.2.1, w.2.2.2.2.2.2.2)) rfl (fun H locs hW => ?_)
    obtain ⟨ht_26, hf_26⟩ := of_ite h
    refine lv_if_eq (tgt := 43) hx hb dX5_nights_26 (by decide) (fun c_26 => ?_) (fun c_26 => ?_)
    · have h := ht_26 c_26
      refine lv_aload_n hx hb dX5_nights_43 rfl (lv_at hl 1 rfl) ?_
      refine lv_bipush (v := (-6 : Int32)) hx hb dX5_nights_44 (by decide) ?_
      obtain ⟨p_46, hc_46, h⟩ := of_bind h
      refine x_Vi (av := [.ref (q 0), .int (-6 : Int32)]) (As := [.int (-6 : Int32)]) F hW (c_X5_refuse l G q ((p_23.2, w.1.2.1, w.1.2.2.1, w.1.2.2.2.1, w.1.2.2.2.2.1, w.1.2.2.2.2.2.1, w.1.2.2.2.2.2.2), w.2.1, w.2.2.1, w.2.2.2.1, w.2.2.2.2.1, w.2.2.2.2.2.1, w.2.2.2.2.2.2.1, w.2.2.2.2.2.2.2) (-6 : Int32) _ hc_46) [0, 1, 2, 3, 4, 5, 6, 7, 8, 9, 10, 11, 12, 13, 14, 15, 16, 17, 18, 19, 20, 21, 22, 23, 24, 25, 26, 27, 28, 29, 30, 31, 32, 33, 34, 35, 36, 37, 38] rfl rfl (by intro q; cases q) cv_X5_44 rfl ⟨_, rfl, rfl⟩ rfl rfl rfl hl (Nat.le_of_ble_eq_true rfl) ⟨Nat.le_of_ble_eq_true rfl, Nat.le_of_ble_eq_true rfl⟩ ⟨rfl, rfl⟩ ⟨Nat.le_of_ble_eq_true rfl, Nat.le_of_ble_eq_true rfl⟩ dX5_nights_46 rfl [some 0, some 1, some 2, some 3, some 4, some 5, some 6, some 7, some 8, some 9, some 10, some 11, some 12, some 13, some 14, some 15, some 16, some 17, some 18, some 19, some 20, some 21, some 22, some 23, some 24, some 25, some 26, some 27, some 28, some 29, some 30, some 31, some 32, some 33, some 34, some 35, some 36, some 37, some 38] rfl (ws' := cEW G q p_46.2) rfl (fun H locs hW => ?_)
      obtain rfl := Option.some.inj h
      exact x_reti F hr hW rfl dX5_nights_49
    · have h := hf_26 c_26
      refine lv_aload_n hx hb dX5_nights_29 rfl (lv_at hl 1 rfl) ?_
      refine x_get F hW 0 rfl fa_X5_10 rfl dX5_nights_30 ?_
      refine lv_iconst (v := (0 : Int32)) hx hb dX5_nights_33 (by decide) ?_
      obtain ⟨p_34, hc_34, h⟩ := of_bind h
      refine x_Vi (av := [.ref (q 1), .int (0 : Int32)]) (As := [.int (0 : Int32)]) F hW (c_X4_hangingBehind l G (fun i => q (i + 1)) (p_23.2, w.1.2.1, w.1.2.2.1, w.1.2.2.2.1, w.1.2.2.2.2.1, w.1.2.2.2.2.2.1, w.1.2.2.2.2.2.2) (0 : Int32) _ hc_34) [1, 2, 3, 4, 5, 6, 7, 8, 9, 10, 11, 12, 13, 14, 15, 16, 17, 18, 19, 20, 21, 22] rfl rfl (by intro q; cases q) cv_X5_131 rfl ⟨_, rfl, rfl⟩ rfl rfl rfl hl (Nat.le_of_ble_eq_true rfl) ⟨Nat.le_of_ble_eq_true rfl, Nat.le_of_ble_eq_true rfl⟩ ⟨rfl, rfl⟩ ⟨Nat.le_of_ble_eq_true rfl, Nat.le_of_ble_eq_true rfl⟩ dX5_nights_34 rfl [none, some 0, some 1, some 2, some 3, some 4, some 5, some 6, some 7, some 8, some 9, some 10, some 11, some 12, some 13, some 14, some 15, some 16, some 17, some 18, some 19, some 20, some 21, none, none, none, none, none, none, none, none, none, none, none, none, none, none, none, none] rfl (ws' := cEW G q (p_34.2, w.2.1, w.2.2.1, w.2.2.2.1, w.2.2.2.2.1, w.2.2.2.2.2.1, w.2.2.2.2.2.2.1, w.2.2.2.2.2.2.2)) rfl (fun H locs hW => ?_)
      obtain ⟨p_37, hc_37, h⟩ := of_bind h
      refine x_Si (av := [.int p_34.1]) F hW (c_J6_bitCount_0f7a4 l G p_34.1 _ hc_37) [] rfl rfl (by intro q; cases q) cs_X5_134 rfl rfl hl (Nat.le_of_ble_eq_true rfl) ⟨Nat.le_of_ble_eq_true rfl, Nat.le_of_ble_eq_true rfl⟩ ⟨rfl, rfl⟩ ⟨Nat.le_of_ble_eq_true rfl, Nat.le_of_ble_eq_true rfl⟩ dX5_nights_37 rfl [none, none, none, none, none, none, none, none, none, none, none, none, none, none, none, none, none, none, none, none, none, none, none, none, none, none, none, none, none, none, none, none, none, none, none, none, none, none, none] rfl (ws' := cEW G q (p_34.2, w.2.1, w.2.2.1, w.2.2.2.1, w.2.2.2.2.1, w.2.2.2.2.2.1, w.2.2.2.2.2.2.1, w.2.2.2.2.2.2.2)) rfl (fun H locs hW => ?_)
      refine lv_goto (tgt := 49) hx hb dX5_nights_40 (by decide) ?_
      obtain rfl := Option.some.inj h
      exact x_reti F hr hW rfl dX5_nights_49
  · have h := hf_9 c_9
    refine lv_aload_n hx hb dX5_nights_12 rfl (lv_at hl 1 rfl) ?_
    refine lv_iload_n hx hb dX5_nights_13 rfl (lv_at hl 0 rfl) ?_
    obtain ⟨p_14, hc_14, h⟩ := of_bind h
    refine x_Vi (av := [.ref (q 0), .int p_4]) (As := [.int p_4]) F hW (c_X5_refuse l G q w p_4 _ hc_14) [0, 1, 2, 3, 4, 5, 6, 7, 8, 9, 10, 11, 12, 13, 14, 15, 16, 17, 18, 19, 20, 21, 22, 23, 24, 25, 26, 27, 28, 29, 30, 31, 32, 33, 34, 35, 36, 37, 38] rfl rfl (by intro q; cases q) cv_X5_44 rfl ⟨_, rfl, rfl⟩ rfl rfl rfl hl (Nat.le_of_ble_eq_true rfl) ⟨Nat.le_of_ble_eq_true rfl, Nat.le_of_ble_eq_true rfl⟩ ⟨rfl, rfl⟩ ⟨Nat.le_of_ble_eq_true rfl, Nat.le_of_ble_eq_true rfl⟩ dX5_nights_14 rfl [some 0, some 1, some 2, some 3, some 4, some 5, some 6, some 7, some 8, some 9, some 10, some 11, some 12, some 13, some 14, some 15, some 16, some 17, some 18, some 19, some 20, some 21, some 22, some 23, some 24, some 25, some 26, some 27, some 28, some 29, some 30, some 31, some 32, some 33, some 34, some 35, some 36, some 37, some 38] rfl (ws' := cEW G q p_14.2) rfl (fun H locs hW => ?_)
    obtain rfl := Option.some.inj h
    exact x_reti F hr hW rfl dX5_nights_17
def f_X5_litThen (w : EW) (x1 : Int32) : Option (Int32 × EW) :=
  Option.bind (f_X5_outside x1 (0 : Int32) (60 : Int32)) fun p_4 =>
    if p_4 = 0 then
    Option.bind (f_X4_litBehind w.1 x1) fun p_25 =>
    some (p_25.1, (p_25.2, w.2.1, w.2.2.1, w.2.2.2.1, w.2.2.2.2.1, w.2.2.2.2.2.1, w.2.2.2.2.2.2.1, w.2.2.2.2.2.2.2))
    else
    Option.bind (f_X5_refuse w p_4) fun p_14 =>
    some (p_14.1, p_14.2)
abbrev rmX5_litThen : Room := { frames := 5, cells := 0, slots := 0, locals := 108 }
set_option maxRecDepth 100000 in
set_option maxHeartbeats 4000000 in
theorem c_X5_litThen (l : Launch) (G : EnT) (q : Nat → Nat) (w : EW) (x1 : Int32) (o : Int32 × EW) (h : f_X5_litThen w x1 = some o) : Mi l yX5_litThen rmX5_litThen cX5_litThen 3 (some .int) G false [.ref (q 0), .int x1] (cEW G q w) o.1 (cEW G q o.2) := by
  refine Mi_of (by decide) (Nat.le_of_ble_eq_true rfl) ?_
  intro p e s m below meth c A0 F hr hW ls hl
  obtain ⟨hx, hb, hml, hown, hts, hK, hNW, hlocks, hA, hSX⟩ := id F
  have hl : lv_has ls 3 [(0, .ref (q 0)), (1, .int x1)] := hl
  have hW : Wd G A0 s (cEW G q w) s.heap [] := hW
  show W p l e rmX5_litThen s m ([.ref (q 0), .int x1] : List Value).toArray below meth c s.heap [] 0 0 (Qi below G (cEW G q o.2) o.1 A0 ([.ref (q 0), .int x1] : List Value).toArray s) (F0 m 0 ls [])
  refine lv_iload_n hx hb dX5_litThen_0 rfl (lv_at hl 1 rfl) ?_
  refine lv_iconst (v := (0 : Int32)) hx hb dX5_litThen_1 (by decide) ?_
  refine lv_bipush (v := (60 : Int32)) hx hb dX5_litThen_2 (by decide) ?_
  obtain ⟨p_4, hc_4, h⟩ := of_bind h
  refine x_Si (av := [.int x1, .int (0 : Int32), .int (60 : Int32)]) F hW (c_X5_outside l G x1 (0 : Int32) (60 : Int32) _ hc_4) [] rfl rfl (by intro q; cases q) cs_X5_108 rfl rfl hl (Nat.le_of_ble_eq_true rfl) ⟨Nat.le_of_ble_eq_true rfl, Nat.le_of_ble_eq_true rfl⟩ ⟨rfl, rfl⟩ ⟨Nat.le_of_ble_eq_true rfl, Nat.le_of_ble_eq_true rfl⟩ dX5_litThen_4 rfl [none, none, none, none, none, none, none, none, none, none, none, none, none, none, none, none, none, none, none, none, none, none, none, none, none, none, none, none, none, none, none, none, none, none, none, none, none, none, none] rfl (ws' := cEW G q w) rfl (fun H locs hW => ?_)
  refine lv_istore_n (lv' := [(2, .int p_4), (0, .ref (q 0)), (1, .int x1)]) hx hb dX5_litThen_7 rfl hl (by decide) rfl (fun ls hl => ?_)
  refine lv_iload_n hx hb dX5_litThen_8 rfl (lv_at hl 0 rfl) ?_
  obtain ⟨ht_9, hf_9⟩ := of_ite h
  refine lv_if_eq (tgt := 20) hx hb dX5_litThen_9 (by decide) (fun c_9 => ?_) (fun c_9 => ?_)
  · have h := ht_9 c_9
    refine lv_aload_n hx hb dX5_litThen_20 rfl (lv_at hl 1 rfl) ?_
    refine x_get F hW 0 rfl fa_X5_10 rfl dX5_litThen_21 ?_
    refine lv_iload_n hx hb dX5_litThen_24 rfl (lv_at hl 2 rfl) ?_
    obtain ⟨p_25, hc_25, h⟩ := of_bind h
    refine x_Vi (av := [.ref (q 1), .int x1]) (As := [.int x1]) F hW (c_X4_litBehind l G (fun i => q (i + 1)) w.1 x1 _ hc_25) [1, 2, 3, 4, 5, 6, 7, 8, 9, 10, 11, 12, 13, 14, 15, 16, 17, 18, 19, 20, 21, 22] rfl rfl (by intro q; cases q) cv_X5_139 rfl ⟨_, rfl, rfl⟩ rfl rfl rfl hl (Nat.le_of_ble_eq_true rfl) ⟨Nat.le_of_ble_eq_true rfl, Nat.le_of_ble_eq_true rfl⟩ ⟨rfl, rfl⟩ ⟨Nat.le_of_ble_eq_true rfl, Nat.le_of_ble_eq_true rfl⟩ dX5_litThen_25 rfl [none, some 0, some 1, some 2, some 3, some 4, some 5, some 6, some 7, some 8, some 9, some 10, some 11, some 12, some 13, some 14, some 15, some 16, some 17, some 18, some 19, some 20, some 21, none, none, none, none, none, none, none, none, none, none, none, none, none, none, none, none] rfl (ws' := cEW G q (p_25.2, w.2.1, w.2.2.1, w.2.2.2.1, w.2.2.2.2.1, w.2.2.2.2.2.1, w.2.2.2.2.2.2.1, w.2.2.2.2.2.2.2)) rfl (fun H locs hW => ?_)
    obtain rfl := Option.some.inj h
    exact x_reti F hr hW rfl dX5_litThen_28
  · have h := hf_9 c_9
    refine lv_aload_n hx hb dX5_litThen_12 rfl (lv_at hl 1 rfl) ?_
    refine lv_iload_n hx hb dX5_litThen_13 rfl (lv_at hl 0 rfl) ?_
    obtain ⟨p_14, hc_14, h⟩ := of_bind h
    refine x_Vi (av := [.ref (q 0), .int p_4]) (As := [.int p_4]) F hW (c_X5_refuse l G q w p_4 _ hc_14) [0, 1, 2, 3, 4, 5, 6, 7, 8, 9, 10, 11, 12, 13, 14, 15, 16, 17, 18, 19, 20, 21, 22, 23, 24, 25, 26, 27, 28, 29, 30, 31, 32, 33, 34, 35, 36, 37, 38] rfl rfl (by intro q; cases q) cv_X5_44 rfl ⟨_, rfl, rfl⟩ rfl rfl rfl hl (Nat.le_of_ble_eq_true rfl) ⟨Nat.le_of_ble_eq_true rfl, Nat.le_of_ble_eq_true rfl⟩ ⟨rfl, rfl⟩ ⟨Nat.le_of_ble_eq_true rfl, Nat.le_of_ble_eq_true rfl⟩ dX5_litThen_14 rfl [some 0, some 1, some 2, some 3, some 4, some 5, some 6, some 7, some 8, some 9, some 10, some 11, some 12, some 13, some 14, some 15, some 16, some 17, some 18, some 19, some 20, some 21, some 22, some 23, some 24, some 25, some 26, some 27, some 28, some 29, some 30, some 31, some 32, some 33, some 34, some 35, some 36, some 37, some 38] rfl (ws' := cEW G q p_14.2) rfl (fun H locs hW => ?_)
    refine lv_goto (tgt := 28) hx hb dX5_litThen_17 (by decide) ?_
    obtain rfl := Option.some.inj h
    exact x_reti F hr hW rfl dX5_litThen_28
def f_X5_hangThen (w : EW) (x1 : Int32) : Option (Int32 × EW) :=
  Option.bind (f_X5_outside x1 (0 : Int32) (60 : Int32)) fun p_4 =>
    if p_4 = 0 then
    Option.bind (f_X4_hangingBehind w.1 x1) fun p_25 =>
    some (p_25.1, (p_25.2, w.2.1, w.2.2.1, w.2.2.2.1, w.2.2.2.2.1, w.2.2.2.2.2.1, w.2.2.2.2.2.2.1, w.2.2.2.2.2.2.2))
    else
    Option.bind (f_X5_refuse w p_4) fun p_14 =>
    some (p_14.1, p_14.2)
abbrev rmX5_hangThen : Room := { frames := 5, cells := 0, slots := 0, locals := 126 }
set_option maxRecDepth 100000 in
set_option maxHeartbeats 4000000 in
theorem c_X5_hangThen (l : Launch) (G : EnT) (q : Nat → Nat) (w : EW) (x1 : Int32) (o : Int32 × EW) (h : f_X5_hangThen w x1 = some o) : Mi l yX5_hangThen rmX5_hangThen cX5_hangThen 3 (some .int) G false [.ref (q 0), .int x1] (cEW G q w) o.1 (cEW G q o.2) := by
  refine Mi_of (by decide) (Nat.le_of_ble_eq_true rfl) ?_
  intro p e s m below meth c A0 F hr hW ls hl
  obtain ⟨hx, hb, hml, hown, hts, hK, hNW, hlocks, hA, hSX⟩ := id F
  have hl : lv_has ls 3 [(0, .ref (q 0)), (1, .int x1)] := hl
  have hW : Wd G A0 s (cEW G q w) s.heap [] := hW
  show W p l e rmX5_hangThen s m ([.ref (q 0), .int x1] : List Value).toArray below meth c s.heap [] 0 0 (Qi below G (cEW G q o.2) o.1 A0 ([.ref (q 0), .int x1] : List Value).toArray s) (F0 m 0 ls [])
  refine lv_iload_n hx hb dX5_hangThen_0 rfl (lv_at hl 1 rfl) ?_
  refine lv_iconst (v := (0 : Int32)) hx hb dX5_hangThen_1 (by decide) ?_
  refine lv_bipush (v := (60 : Int32)) hx hb dX5_hangThen_2 (by decide) ?_
  obtain ⟨p_4, hc_4, h⟩ := of_bind h
  refine x_Si (av := [.int x1, .int (0 : Int32), .int (60 : Int32)]) F hW (c_X5_outside l G x1 (0 : Int32) (60 : Int32) _ hc_4) [] rfl rfl (by intro q; cases q) cs_X5_108 rfl rfl hl (Nat.le_of_ble_eq_true rfl) ⟨Nat.le_of_ble_eq_true rfl, Nat.le_of_ble_eq_true rfl⟩ ⟨rfl, rfl⟩ ⟨Nat.le_of_ble_eq_true rfl, Nat.le_of_ble_eq_true rfl⟩ dX5_hangThen_4 rfl [none, none, none, none, none, none, none, none, none, none, none, none, none, none, none, none, none, none, none, none, none, none, none, none, none, none, none, none, none, none, none, none, none, none, none, none, none, none, none] rfl (ws' := cEW G q w) rfl (fun H locs hW => ?_)
  refine lv_istore_n (lv' := [(2, .int p_4), (0, .ref (q 0)), (1, .int x1)]) hx hb dX5_hangThen_7 rfl hl (by decide) rfl (fun ls hl => ?_)
  refine lv_iload_n hx hb dX5_hangThen_8 rfl (lv_at hl 0 rfl) ?_
  obtain ⟨ht_9, hf_9⟩ := of_ite h
  refine lv_if_eq (tgt := 20) hx hb dX5_hangThen_9 (by decide) (fun c_9 => ?_) (fun c_9 => ?_)
  · have h := ht_9 c_9
    refine lv_aload_n hx hb dX5_hangThen_20 rfl (lv_at hl 1 rfl) ?_
    refine x_get F hW 0 rfl fa_X5_10 rfl dX5_hangThen_21 ?_
    refine lv_iload_n hx hb dX5_hangThen_24 rfl (lv_at hl 2 rfl) ?_
    obtain ⟨p_25, hc_25, h⟩ := of_bind h
    refine x_Vi (av := [.ref (q 1), .int x1]) (As := [.int x1]) F hW (c_X4_hangingBehind l G (fun i => q (i + 1)) w.1 x1 _ hc_25) [1, 2, 3, 4, 5, 6, 7, 8, 9, 10, 11, 12, 13, 14, 15, 16, 17, 18, 19, 20, 21, 22] rfl rfl (by intro q; cases q) cv_X5_131 rfl ⟨_, rfl, rfl⟩ rfl rfl rfl hl (Nat.le_of_ble_eq_true rfl) ⟨Nat.le_of_ble_eq_true rfl, Nat.le_of_ble_eq_true rfl⟩ ⟨rfl, rfl⟩ ⟨Nat.le_of_ble_eq_true rfl, Nat.le_of_ble_eq_true rfl⟩ dX5_hangThen_25 rfl [none, some 0, some 1, some 2, some 3, some 4, some 5, some 6, some 7, some 8, some 9, some 10, some 11, some 12, some 13, some 14, some 15, some 16, some 17, some 18, some 19, some 20, some 21, none, none, none, none, none, none, none, none, none, none, none, none, none, none, none, none] rfl (ws' := cEW G q (p_25.2, w.2.1, w.2.2.1, w.2.2.2.1, w.2.2.2.2.1, w.2.2.2.2.2.1, w.2.2.2.2.2.2.1, w.2.2.2.2.2.2.2)) rfl (fun H locs hW => ?_)
    obtain rfl := Option.some.inj h
    exact x_reti F hr hW rfl dX5_hangThen_28
  · have h := hf_9 c_9
    refine lv_aload_n hx hb dX5_hangThen_12 rfl (lv_at hl 1 rfl) ?_
    refine lv_iload_n hx hb dX5_hangThen_13 rfl (lv_at hl 0 rfl) ?_
    obtain ⟨p_14, hc_14, h⟩ := of_bind h
    refine x_Vi (av := [.ref (q 0), .int p_4]) (As := [.int p_4]) F hW (c_X5_refuse l G q w p_4 _ hc_14) [0, 1, 2, 3, 4, 5, 6, 7, 8, 9, 10, 11, 12, 13, 14, 15, 16, 17, 18, 19, 20, 21, 22, 23, 24, 25, 26, 27, 28, 29, 30, 31, 32, 33, 34, 35, 36, 37, 38] rfl rfl (by intro q; cases q) cv_X5_44 rfl ⟨_, rfl, rfl⟩ rfl rfl rfl hl (Nat.le_of_ble_eq_true rfl) ⟨Nat.le_of_ble_eq_true rfl, Nat.le_of_ble_eq_true rfl⟩ ⟨rfl, rfl⟩ ⟨Nat.le_of_ble_eq_true rfl, Nat.le_of_ble_eq_true rfl⟩ dX5_hangThen_14 rfl [some 0, some 1, some 2, some 3, some 4, some 5, some 6, some 7, some 8, some 9, some 10, some 11, some 12, some 13, some 14, some 15, some 16, some 17, some 18, some 19, some 20, some 21, some 22, some 23, some 24, some 25, some 26, some 27, some 28, some 29, some 30, some 31, some 32, some 33, some 34, some 35, some 36, some 37, some 38] rfl (ws' := cEW G q p_14.2) rfl (fun H locs hW => ?_)
    refine lv_goto (tgt := 28) hx hb dX5_hangThen_17 (by decide) ?_
    obtain rfl := Option.some.inj h
    exact x_reti F hr hW rfl dX5_hangThen_28
def f_X5_wicksThen (w : EW) (x1 : Int32) (x2 : Int32) : Option (Int32 × EW) :=
  Option.bind (f_X1_isHouse w.1.1 x1) fun p_5 =>
    if p_5 = 0 then
    Option.bind (f_X5_refuse w (-1 : Int32)) fun p_13 =>
    some (p_13.1, p_13.2)
    else
    Option.bind (f_X5_outside x2 (0 : Int32) (60 : Int32)) fun p_21 =>
    if p_21 = 0 then
    Option.bind (f_X4_wicksBehind w.1 x1 x2) fun p_43 =>
    some (p_43.1, (p_43.2, w.2.1, w.2.2.1, w.2.2.2.1, w.2.2.2.2.1, w.2.2.2.2.2.1, w.2.2.2.2.2.2.1, w.2.2.2.2.2.2.2))
    else
    Option.bind (f_X5_refuse w p_21) fun p_31 =>
    some (p_31.1, p_31.2)
abbrev rmX5_wicksThen : Room := { frames := 5, cells := 0, slots := 0, locals := 109 }
set_option maxRecDepth 100000 in
set_option maxHeartbeats 4000000 in
theorem c_X5_wicksThen (l : Launch) (G : EnT) (q : Nat → Nat) (w : EW) (x1 : Int32) (x2 : Int32) (o : Int32 × EW) (h : f_X5_wicksThen w x1 x2 = some o) : Mi l yX5_wicksThen rmX5_wicksThen cX5_wicksThen 4 (some .int) G false [.ref (q 0), .int x1, .int x2] (cEW G q w) o.1 (cEW G q o.2) := by
  refine Mi_of (by decide) (Nat.le_of_ble_eq_true rfl) ?_
  intro p e s m below meth c A0 F hr hW ls hl
  obtain ⟨hx, hb, hml, hown, hts, hK, hNW, hlocks, hA, hSX⟩ := id F
  have hl : lv_has ls 4 [(0, .ref (q 0)), (1, .int x1), (2, .int x2)] := hl
  have hW : Wd G A0 s (cEW G q w) s.heap [] := hW
  show W p l e rmX5_wicksThen s m ([.ref (q 0), .int x1, .int x2] : List Value).toArray below meth c s.heap [] 0 0 (Qi below G (cEW G q o.2) o.1 A0 ([.ref (q 0), .int x1, .int x2] : List Value).toArray s) (F0 m 0 ls [])
  refine lv_aload_n hx hb dX5_wicksThen_0 rfl (lv_at hl 0 rfl) ?_
  refine x_get F hW 0 rfl fa_X5_20 rfl dX5_wicksThen_1 ?_
  refine lv_iload_n hx hb dX5_wicksThen_4 rfl (lv_at hl 1 rfl) ?_
  obtain ⟨p_5, hc_5, h⟩ := of_bind h
  refine x_Vi (av := [.ref (q 2), .int x1]) (As := [.int x1]) F hW (c_X1_isHouse l G (fun i => q (i + 2)) w.1.1 x1 _ hc_5) [2, 3, 4, 5, 6, 7] rfl rfl (by intro q; cases q) cv_X5_74 rfl ⟨_, rfl, rfl⟩ rfl rfl rfl hl (Nat.le_of_ble_eq_true rfl) ⟨Nat.le_of_ble_eq_true rfl, Nat.le_of_ble_eq_true rfl⟩ ⟨rfl, rfl⟩ ⟨Nat.le_of_ble_eq_true rfl, Nat.le_of_ble_eq_true rfl⟩ dX5_wicksThen_5 rfl [none, none, some 0, some 1, some 2, some 3, some 4, some 5, none, none, none, none, none, none, none, none, none, none, none, none, none, none, none, none, none, none, none, none, none, none, none, none, none, none, none, none, none, none, none] rfl (ws' := cEW G q w) rfl (fun H locs hW => ?_)
  obtain ⟨ht_8, hf_8⟩ := of_ite h
  refine lv_if_ne (tgt := 17) hx hb dX5_wicksThen_8 (by decide) (fun c_8 => ?_) (fun c_8 => ?_)
  · have h := hf_8 c_8
    refine lv_iload_n hx hb dX5_wicksThen_17 rfl (lv_at hl 2 rfl) ?_
    refine lv_iconst (v := (0 : Int32)) hx hb dX5_wicksThen_18 (by decide) ?_
    refine lv_bipush (v := (60 : Int32)) hx hb dX5_wicksThen_19 (by decide) ?_
    obtain ⟨p_21, hc_21, h⟩ := of_bind h
    refine x_Si (av := [.int x2, .int (0 : Int32), .int (60 : Int32)]) F hW (c_X5_outside l G x2 (0 : Int32) (60 : Int32) _ hc_21) [] rfl rfl (by intro q; cases q) cs_X5_108 rfl rfl hl (Nat.le_of_ble_eq_true rfl) ⟨Nat.le_of_ble_eq_true rfl, Nat.le_of_ble_eq_true rfl⟩ ⟨rfl, rfl⟩ ⟨Nat.le_of_ble_eq_true rfl, Nat.le_of_ble_eq_true rfl⟩ dX5_wicksThen_21 rfl [none, none, none, none, none, none, none, none, none, none, none, none, none, none, none, none, none, none, none, none, none, none, none, none, none, none, none, none, none, none, none, none, none, none, none, none, none, none, none] rfl (ws' := cEW G q w) rfl (fun H locs hW => ?_)
    refine lv_istore_n (lv' := [(3, .int p_21), (0, .ref (q 0)), (1, .int x1), (2, .int x2)]) hx hb dX5_wicksThen_24 rfl hl (by decide) rfl (fun ls hl => ?_)
    refine lv_iload_n hx hb dX5_wicksThen_25 rfl (lv_at hl 0 rfl) ?_
    obtain ⟨ht_26, hf_26⟩ := of_ite h
    refine lv_if_eq (tgt := 37) hx hb dX5_wicksThen_26 (by decide) (fun c_26 => ?_) (fun c_26 => ?_)
    · have h := ht_26 c_26
      refine lv_aload_n hx hb dX5_wicksThen_37 rfl (lv_at hl 1 rfl) ?_
      refine x_get F hW 0 rfl fa_X5_10 rfl dX5_wicksThen_38 ?_
      refine lv_iload_n hx hb dX5_wicksThen_41 rfl (lv_at hl 2 rfl) ?_
      refine lv_iload_n hx hb dX5_wicksThen_42 rfl (lv_at hl 3 rfl) ?_
      obtain ⟨p_43, hc_43, h⟩ := of_bind h
      refine x_Vi (av := [.ref (q 1), .int x1, .int x2]) (As := [.int x1, .int x2]) F hW (c_X4_wicksBehind l G (fun i => q (i + 1)) w.1 x1 x2 _ hc_43) [1, 2, 3, 4, 5, 6, 7, 8, 9, 10, 11, 12, 13, 14, 15, 16, 17, 18, 19, 20, 21, 22] rfl rfl (by intro q; cases q) cv_X5_142 rfl ⟨_, rfl, rfl⟩ rfl rfl rfl hl (Nat.le_of_ble_eq_true rfl) ⟨Nat.le_of_ble_eq_true rfl, Nat.le_of_ble_eq_true rfl⟩ ⟨rfl, rfl⟩ ⟨Nat.le_of_ble_eq_true rfl, Nat.le_of_ble_eq_true rfl⟩ dX5_wicksThen_43 rfl [none, some 0, some 1, some 2, some 3, some 4, some 5, some 6, some 7, some 8, some 9, some 10, some 11, some 12, some 13, some 14, some 15, some 16, some 17, some 18, some 19, some 20, some 21, none, none, none, none, none, none, none, none, none, none, none, none, none, none, none, none] rfl (ws' := cEW G q (p_43.2, w.2.1, w.2.2.1, w.2.2.2.1, w.2.2.2.2.1, w.2.2.2.2.2.1, w.2.2.2.2.2.2.1, w.2.2.2.2.2.2.2)) rfl (fun H locs hW => ?_)
      obtain rfl := Option.some.inj h
      exact x_reti F hr hW rfl dX5_wicksThen_46
    · have h := hf_26 c_26
      refine lv_aload_n hx hb dX5_wicksThen_29 rfl (lv_at hl 1 rfl) ?_
      refine lv_iload_n hx hb dX5_wicksThen_30 rfl (lv_at hl 0 rfl) ?_
      obtain ⟨p_31, hc_31, h⟩ := of_bind h
      refine x_Vi (av := [.ref (q 0), .int p_21]) (As := [.int p_21]) F hW (c_X5_refuse l G q w p_21 _ hc_31) [0, 1, 2, 3, 4, 5, 6, 7, 8, 9, 10, 11, 12, 13, 14, 15, 16, 17, 18, 19, 20, 21, 22, 23, 24, 25, 26, 27, 28, 29, 30, 31, 32, 33, 34, 35, 36, 37, 38] rfl rfl (by intro q; cases q) cv_X5_44 rfl ⟨_, rfl, rfl⟩ rfl rfl rfl hl (Nat.le_of_ble_eq_true rfl) ⟨Nat.le_of_ble_eq_true rfl, Nat.le_of_ble_eq_true rfl⟩ ⟨rfl, rfl⟩ ⟨Nat.le_of_ble_eq_true rfl, Nat.le_of_ble_eq_true rfl⟩ dX5_wicksThen_31 rfl [some 0, some 1, some 2, some 3, some 4, some 5, some 6, some 7, some 8, some 9, some 10, some 11, some 12, some 13, some 14, some 15, some 16, some 17, some 18, some 19, some 20, some 21, some 22, some 23, some 24, some 25, some 26, some 27, some 28, some 29, some 30, some 31, some 32, some 33, some 34, some 35, some 36, some 37, some 38] rfl (ws' := cEW G q p_31.2) rfl (fun H locs hW => ?_)
      refine lv_goto (tgt := 46) hx hb dX5_wicksThen_34 (by decide) ?_
      obtain rfl := Option.some.inj h
      exact x_reti F hr hW rfl dX5_wicksThen_46
  · have h := ht_8 c_8
    refine lv_aload_n hx hb dX5_wicksThen_11 rfl (lv_at hl 0 rfl) ?_
    refine lv_iconst (v := (-1 : Int32)) hx hb dX5_wicksThen_12 (by decide) ?_
    obtain ⟨p_13, hc_13, h⟩ := of_bind h
    refine x_Vi (av := [.ref (q 0), .int (-1 : Int32)]) (As := [.int (-1 : Int32)]) F hW (c_X5_refuse l G q w (-1 : Int32) _ hc_13) [0, 1, 2, 3, 4, 5, 6, 7, 8, 9, 10, 11, 12, 13, 14, 15, 16, 17, 18, 19, 20, 21, 22, 23, 24, 25, 26, 27, 28, 29, 30, 31, 32, 33, 34, 35, 36, 37, 38] rfl rfl (by intro q; cases q) cv_X5_44 rfl ⟨_, rfl, rfl⟩ rfl rfl rfl hl (Nat.le_of_ble_eq_true rfl) ⟨Nat.le_of_ble_eq_true rfl, Nat.le_of_ble_eq_true rfl⟩ ⟨rfl, rfl⟩ ⟨Nat.le_of_ble_eq_true rfl, Nat.le_of_ble_eq_true rfl⟩ dX5_wicksThen_13 rfl [some 0, some 1, some 2, some 3, some 4, some 5, some 6, some 7, some 8, some 9, some 10, some 11, some 12, some 13, some 14, some 15, some 16, some 17, some 18, some 19, some 20, some 21, some 22, some 23, some 24, some 25, some 26, some 27, some 28, some 29, some 30, some 31, some 32, some 33, some 34, some 35, some 36, some 37, some 38] rfl (ws' := cEW G q p_13.2) rfl (fun H locs hW => ?_)
    obtain rfl := Option.some.inj h
    exact x_reti F hr hW rfl dX5_wicksThen_16
def f_X5_dark (w : EW) (x1 : Int32) : Option (Int32 × EW) :=
  Option.bind (f_X1_isHouse w.1.1 x1) fun p_5 =>
    if p_5 = 0 then
    Option.bind (f_X5_refuse w (-1 : Int32)) fun p_24 =>
    some (p_24.1, p_24.2)
    else
    Option.bind (f_X4_darkBehind w.1 x1) fun p_16 =>
    some (p_16.1, (p_16.2, w.2.1, w.2.2.1, w.2.2.2.1, w.2.2.2.2.1, w.2.2.2.2.2.1, w.2.2.2.2.2.2.1, w.2.2.2.2.2.2.2))
abbrev rmX5_dark : Room := { frames := 5, cells := 0, slots := 0, locals := 127 }
set_option maxRecDepth 100000 in
set_option maxHeartbeats 4000000 in
theorem c_X5_dark (l : Launch) (G : EnT) (q : Nat → Nat) (w : EW) (x1 : Int32) (o : Int32 × EW) (h : f_X5_dark w x1 = some o) : Mi l yX5_dark rmX5_dark cX5_dark 2 (some .int) G false [.ref (q 0), .int x1] (cEW G q w) o.1 (cEW G q o.2) := by
  refine Mi_of (by decide) (Nat.le_of_ble_eq_true rfl) ?_
  intro p e s m below meth c A0 F hr hW ls hl
  obtain ⟨hx, hb, hml, hown, hts, hK, hNW, hlocks, hA, hSX⟩ := id F
  have hl : lv_has ls 2 [(0, .ref (q 0)), (1, .int x1)] := hl
  have hW : Wd G A0 s (cEW G q w) s.heap [] := hW
  show W p l e rmX5_dark s m ([.ref (q 0), .int x1] : List Value).toArray below meth c s.heap [] 0 0 (Qi below G (cEW G q o.2) o.1 A0 ([.ref (q 0), .int x1] : List Value).toArray s) (F0 m 0 ls [])
  refine lv_aload_n hx hb dX5_dark_0 rfl (lv_at hl 0 rfl) ?_
  refine x_get F hW 0 rfl fa_X5_20 rfl dX5_dark_1 ?_
  refine lv_iload_n hx hb dX5_dark_4 rfl (lv_at hl 1 rfl) ?_
  obtain ⟨p_5, hc_5, h⟩ := of_bind h
  refine x_Vi (av := [.ref (q 2), .int x1]) (As := [.int x1]) F hW (c_X1_isHouse l G (fun i => q (i + 2)) w.1.1 x1 _ hc_5) [2, 3, 4, 5, 6, 7] rfl rfl (by intro q; cases q) cv_X5_74 rfl ⟨_, rfl, rfl⟩ rfl rfl rfl hl (Nat.le_of_ble_eq_true rfl) ⟨Nat.le_of_ble_eq_true rfl, Nat.le_of_ble_eq_true rfl⟩ ⟨rfl, rfl⟩ ⟨Nat.le_of_ble_eq_true rfl, Nat.le_of_ble_eq_true rfl⟩ dX5_dark_5 rfl [none, none, some 0, some 1, some 2, some 3, some 4, some 5, none, none, none, none, none, none, none, none, none, none, none, none, none, none, none, none, none, none, none, none, none, none, none, none, none, none, none, none, none, none, none] rfl (ws' := cEW G q w) rfl (fun H locs hW => ?_)
  obtain ⟨ht_8, hf_8⟩ := of_ite h
  refine lv_if_eq (tgt := 22) hx hb dX5_dark_8 (by decide) (fun c_8 => ?_) (fun c_8 => ?_)
  · have h := ht_8 c_8
    refine lv_aload_n hx hb dX5_dark_22 rfl (lv_at hl 0 rfl) ?_
    refine lv_iconst (v := (-1 : Int32)) hx hb dX5_dark_23 (by decide) ?_
    obtain ⟨p_24, hc_24, h⟩ := of_bind h
    refine x_Vi (av := [.ref (q 0), .int (-1 : Int32)]) (As := [.int (-1 : Int32)]) F hW (c_X5_refuse l G q w (-1 : Int32) _ hc_24) [0, 1, 2, 3, 4, 5, 6, 7, 8, 9, 10, 11, 12, 13, 14, 15, 16, 17, 18, 19, 20, 21, 22, 23, 24, 25, 26, 27, 28, 29, 30, 31, 32, 33, 34, 35, 36, 37, 38] rfl rfl (by intro q; cases q) cv_X5_44 rfl ⟨_, rfl, rfl⟩ rfl rfl rfl hl (Nat.le_of_ble_eq_true rfl) ⟨Nat.le_of_ble_eq_true rfl, Nat.le_of_ble_eq_true rfl⟩ ⟨rfl, rfl⟩ ⟨Nat.le_of_ble_eq_true rfl, Nat.le_of_ble_eq_true rfl⟩ dX5_dark_24 rfl [some 0, some 1, some 2, some 3, some 4, some 5, some 6, some 7, some 8, some 9, some 10, some 11, some 12, some 13, some 14, some 15, some 16, some 17, some 18, some 19, some 20, some 21, some 22, some 23, some 24, some 25, some 26, some 27, some 28, some 29, some 30, some 31, some 32, some 33, some 34, some 35, some 36, some 37, some 38] rfl (ws' := cEW G q p_24.2) rfl (fun H locs hW => ?_)
    obtain rfl := Option.some.inj h
    exact x_reti F hr hW rfl dX5_dark_27
  · have h := hf_8 c_8
    refine lv_aload_n hx hb dX5_dark_11 rfl (lv_at hl 0 rfl) ?_
    refine x_get F hW 0 rfl fa_X5_10 rfl dX5_dark_12 ?_
    refine lv_iload_n hx hb dX5_dark_15 rfl (lv_at hl 1 rfl) ?_
    obtain ⟨p_16, hc_16, h⟩ := of_bind h
    refine x_Vi (av := [.ref (q 1), .int x1]) (As := [.int x1]) F hW (c_X4_darkBehind l G (fun i => q (i + 1)) w.1 x1 _ hc_16) [1, 2, 3, 4, 5, 6, 7, 8, 9, 10, 11, 12, 13, 14, 15, 16, 17, 18, 19, 20, 21, 22] rfl rfl (by intro q; cases q) cv_X5_146 rfl ⟨_, rfl, rfl⟩ rfl rfl rfl hl (Nat.le_of_ble_eq_true rfl) ⟨Nat.le_of_ble_eq_true rfl, Nat.le_of_ble_eq_true rfl⟩ ⟨rfl, rfl⟩ ⟨Nat.le_of_ble_eq_true rfl, Nat.le_of_ble_eq_true rfl⟩ dX5_dark_16 rfl [none, some 0, some 1, some 2, some 3, some 4, some 5, some 6, some 7, some 8, some 9, some 10, some 11, some 12, some 13, some 14, some 15, some 16, some 17, some 18, some 19, some 20, some 21, none, none, none, none, none, none, none, none, none, none, none, none, none, none, none, none] rfl (ws' := cEW G q (p_16.2, w.2.1, w.2.2.1, w.2.2.2.1, w.2.2.2.2.1, w.2.2.2.2.2.1, w.2.2.2.2.2.2.1, w.2.2.2.2.2.2.2)) rfl (fun H locs hW => ?_)
    refine lv_goto (tgt := 27) hx hb dX5_dark_19 (by decide) ?_
    obtain rfl := Option.some.inj h
    exact x_reti F hr hW rfl dX5_dark_27
def f_X5_first (w : EW) (x1 : Int32) : Option (Int32 × EW) :=
  if x1 = (0 : Int32) then
    Option.bind (f_X4_firstDark w.1) fun p_32 =>
    some (p_32.1, (p_32.2, w.2.1, w.2.2.1, w.2.2.2.1, w.2.2.2.2.1, w.2.2.2.2.2.1, w.2.2.2.2.2.2.1, w.2.2.2.2.2.2.2))
    else
    if x1 = (1 : Int32) then
    Option.bind (f_X4_wholeBehind w.1) fun p_40 =>
    some (p_40.1, (p_40.2, w.2.1, w.2.2.1, w.2.2.2.1, w.2.2.2.2.1, w.2.2.2.2.2.1, w.2.2.2.2.2.2.1, w.2.2.2.2.2.2.2))
    else
    Option.bind (f_X5_refuse w (-2 : Int32)) fun p_47 =>
    some (p_47.1, p_47.2)
abbrev rmX5_first : Room := { frames := 5, cells := 0, slots := 0, locals := 128 }
set_option maxRecDepth 100000 in
set_option maxHeartbeats 4000000 in
theorem c_X5_first (l : Launch) (G : EnT) (q : Nat → Nat) (w : EW) (x1 : Int32) (o : Int32 × EW) (h : f_X5_first w x1 = some o) : Mi l yX5_first rmX5_first cX5_first 2 (some .int) G false [.ref (q 0), .int x1] (cEW G q w) o.1 (cEW G q o.2) := by
  refine Mi_of (by decide) (Nat.le_of_ble_eq_true rfl) ?_
  intro p e s m below meth c A0 F hr hW ls hl
  obtain ⟨hx, hb, hml, hown, hts, hK, hNW, hlocks, hA, hSX⟩ := id F
  have hl : lv_has ls 2 [(0, .ref (q 0)), (1, .int x1)] := hl
  have hW : Wd G A0 s (cEW G q w) s.heap [] := hW
  show W p l e rmX5_first s m ([.ref (q 0), .int x1] : List Value).toArray below meth c s.heap [] 0 0 (Qi below G (cEW G q o.2) o.1 A0 ([.ref (q 0), .int x1] : List Value).toArray s) (F0 m 0 ls [])
  refine lv_iload_n hx hb dX5_first_0 rfl (lv_at hl 1 rfl) ?_
  obtain ⟨ht_1_0, h⟩ := of_ite h
  by_cases c_1_0 : x1 = (0 : Int32)
  · have h := ht_1_0 c_1_0
    refine x_lookIn c_1_0 hx hb dX5_first_1 rfl (off := (27)) rfl (tgt := 28) (by decide) ?_
    refine lv_aload_n hx hb dX5_first_28 rfl (lv_at hl 0 rfl) ?_
    refine x_get F hW 0 rfl fa_X5_10 rfl dX5_first_29 ?_
    obtain ⟨p_32, hc_32, h⟩ := of_bind h
    refine x_Vi (av := [.ref (q 1)]) (As := []) F hW (c_X4_firstDark l G (fun i => q (i + 1)) w.1 _ hc_32) [1, 2, 3, 4, 5, 6, 7, 8, 9, 10, 11, 12, 13, 14, 15, 16, 17, 18, 19, 20, 21, 22] rfl rfl (by intro q; cases q) cv_X5_149 rfl ⟨_, rfl, rfl⟩ rfl rfl rfl hl (Nat.le_of_ble_eq_true rfl) ⟨Nat.le_of_ble_eq_true rfl, Nat.le_of_ble_eq_true rfl⟩ ⟨rfl, rfl⟩ ⟨Nat.le_of_ble_eq_true rfl, Nat.le_of_ble_eq_true rfl⟩ dX5_first_32 rfl [none, some 0, some 1, some 2, some 3, some 4, some 5, some 6, some 7, some 8, some 9, some 10, some 11, some 12, some 13, some 14, some 15, some 16, some 17, some 18, some 19, some 20, some 21, none, none, none, none, none, none, none, none, none, none, none, none, none, none, none, none] rfl (ws' := cEW G q (p_32.2, w.2.1, w.2.2.1, w.2.2.2.1, w.2.2.2.2.1, w.2.2.2.2.2.1, w.2.2.2.2.2.2.1, w.2.2.2.2.2.2.2)) rfl (fun H locs hW => ?_)
    obtain rfl := Option.some.inj h
    exact x_reti F hr hW rfl dX5_first_35
  have h := h c_1_0
  obtain ⟨ht_1_1, h⟩ := of_ite h
  by_cases c_1_1 : x1 = (1 : Int32)
  · have h := ht_1_1 c_1_1
    refine x_lookIn c_1_1 hx hb dX5_first_1 rfl (off := (35)) rfl (tgt := 36) (by decide) ?_
    refine lv_aload_n hx hb dX5_first_36 rfl (lv_at hl 0 rfl) ?_
    refine x_get F hW 0 rfl fa_X5_10 rfl dX5_first_37 ?_
    obtain ⟨p_40, hc_40, h⟩ := of_bind h
    refine x_Vi (av := [.ref (q 1)]) (As := []) F hW (c_X4_wholeBehind l G (fun i => q (i + 1)) w.1 _ hc_40) [1, 2, 3, 4, 5, 6, 7, 8, 9, 10, 11, 12, 13, 14, 15, 16, 17, 18, 19, 20, 21, 22] rfl rfl (by intro q; cases q) cv_X5_152 rfl ⟨_, rfl, rfl⟩ rfl rfl rfl hl (Nat.le_of_ble_eq_true rfl) ⟨Nat.le_of_ble_eq_true rfl, Nat.le_of_ble_eq_true rfl⟩ ⟨rfl, rfl⟩ ⟨Nat.le_of_ble_eq_true rfl, Nat.le_of_ble_eq_true rfl⟩ dX5_first_40 rfl [none, some 0, some 1, some 2, some 3, some 4, some 5, some 6, some 7, some 8, some 9, some 10, some 11, some 12, some 13, some 14, some 15, some 16, some 17, some 18, some 19, some 20, some 21, none, none, none, none, none, none, none, none, none, none, none, none, none, none, none, none] rfl (ws' := cEW G q (p_40.2, w.2.1, w.2.2.1, w.2.2.2.1, w.2.2.2.2.1, w.2.2.2.2.2.1, w.2.2.2.2.2.2.1, w.2.2.2.2.2.2.2)) rfl (fun H locs hW => ?_)
    obtain rfl := Option.some.inj h
    exact x_reti F hr hW rfl dX5_first_43
  have h := h c_1_1
  refine lv_lookup (off := 43) hx hb dX5_first_1 rfl (by have z0 := x_ne c_1_0 (z := 0) (by decide); have z1 := x_ne c_1_1 (z := 1) (by decide); simp [Op.lookupswitch.offset, z0, Ne.symm z0, z1, Ne.symm z1]) (tgt := 44) (by decide) ?_
  refine lv_aload_n hx hb dX5_first_44 rfl (lv_at hl 0 rfl) ?_
  refine lv_bipush (v := (-2 : Int32)) hx hb dX5_first_45 (by decide) ?_
  obtain ⟨p_47, hc_47, h⟩ := of_bind h
  refine x_Vi (av := [.ref (q 0), .int (-2 : Int32)]) (As := [.int (-2 : Int32)]) F hW (c_X5_refuse l G q w (-2 : Int32) _ hc_47) [0, 1, 2, 3, 4, 5, 6, 7, 8, 9, 10, 11, 12, 13, 14, 15, 16, 17, 18, 19, 20, 21, 22, 23, 24, 25, 26, 27, 28, 29, 30, 31, 32, 33, 34, 35, 36, 37, 38] rfl rfl (by intro q; cases q) cv_X5_44 rfl ⟨_, rfl, rfl⟩ rfl rfl rfl hl (Nat.le_of_ble_eq_true rfl) ⟨Nat.le_of_ble_eq_true rfl, Nat.le_of_ble_eq_true rfl⟩ ⟨rfl, rfl⟩ ⟨Nat.le_of_ble_eq_true rfl, Nat.le_of_ble_eq_true rfl⟩ dX5_first_47 rfl [some 0, some 1, some 2, some 3, some 4, some 5, some 6, some 7, some 8, some 9, some 10, some 11, some 12, some 13, some 14, some 15, some 16, some 17, some 18, some 19, some 20, some 21, some 22, some 23, some 24, some 25, some 26, some 27, some 28, some 29, some 30, some 31, some 32, some 33, some 34, some 35, some 36, some 37, some 38] rfl (ws' := cEW G q p_47.2) rfl (fun H locs hW => ?_)
  obtain rfl := Option.some.inj h
  exact x_reti F hr hW rfl dX5_first_50
def f_X5_sees (w : EW) (x1 : Int32) : Option (Int32 × EW) :=
  Option.bind (f_X1_isHouse w.1.1 x1) fun p_5 =>
    if p_5 = 0 then
    Option.bind (f_X5_refuse w (-1 : Int32)) fun p_24 =>
    some (p_24.1, p_24.2)
    else
    Option.bind (f_X4_seenBy w.1 x1) fun p_16 =>
    some (p_16.1, (p_16.2, w.2.1, w.2.2.1, w.2.2.2.1, w.2.2.2.2.1, w.2.2.2.2.2.1, w.2.2.2.2.2.2.1, w.2.2.2.2.2.2.2))
abbrev rmX5_sees : Room := { frames := 5, cells := 0, slots := 0, locals := 126 }
set_option maxRecDepth 100000 in
set_option maxHeartbeats 4000000 in
theorem c_X5_sees (l : Launch) (G : EnT) (q : Nat → Nat) (w : EW) (x1 : Int32) (o : Int32 × EW) (h : f_X5_sees w x1 = some o) : Mi l yX5_sees rmX5_sees cX5_sees 2 (some .int) G false [.ref (q 0), .int x1] (cEW G q w) o.1 (cEW G q o.2) := by
  refine Mi_of (by decide) (Nat.le_of_ble_eq_true rfl) ?_
  intro p e s m below meth c A0 F hr hW ls hl
  obtain ⟨hx, hb, hml, hown, hts, hK, hNW, hlocks, hA, hSX⟩ := id F
  have hl : lv_has ls 2 [(0, .ref (q 0)), (1, .int x1)] := hl
  have hW : Wd G A0 s (cEW G q w) s.heap [] := hW
  show W p l e rmX5_sees s m ([.ref (q 0), .int x1] : List Value).toArray below meth c s.heap [] 0 0 (Qi below G (cEW G q o.2) o.1 A0 ([.ref (q 0), .int x1] : List Value).toArray s) (F0 m 0 ls [])
  refine lv_aload_n hx hb dX5_sees_0 rfl (lv_at hl 0 rfl) ?_
  refine x_get F hW 0 rfl fa_X5_20 rfl dX5_sees_1 ?_
  refine lv_iload_n hx hb dX5_sees_4 rfl (lv_at hl 1 rfl) ?_
  obtain ⟨p_5, hc_5, h⟩ := of_bind h
  refine x_Vi (av := [.ref (q 2), .int x1]) (As := [.int x1]) F hW (c_X1_isHouse l G (fun i => q (i + 2)) w.1.1 x1 _ hc_5) [2, 3, 4, 5, 6, 7] rfl rfl (by intro q; cases q) cv_X5_74 rfl ⟨_, rfl, rfl⟩ rfl rfl rfl hl (Nat.le_of_ble_eq_true rfl) ⟨Nat.le_of_ble_eq_true rfl, Nat.le_of_ble_eq_true rfl⟩ ⟨rfl, rfl⟩ ⟨Nat.le_of_ble_eq_true rfl, Nat.le_of_ble_eq_true rfl⟩ dX5_sees_5 rfl [none, none, some 0, some 1, some 2, some 3, some 4, some 5, none, none, none, none, none, none, none, none, none, none, none, none, none, none, none, none, none, none, none, none, none, none, none, none, none, none, none, none, none, none, none] rfl (ws' := cEW G q w) rfl (fun H locs hW => ?_)
  obtain ⟨ht_8, hf_8⟩ := of_ite h
  refine lv_if_eq (tgt := 22) hx hb dX5_sees_8 (by decide) (fun c_8 => ?_) (fun c_8 => ?_)
  · have h := ht_8 c_8
    refine lv_aload_n hx hb dX5_sees_22 rfl (lv_at hl 0 rfl) ?_
    refine lv_iconst (v := (-1 : Int32)) hx hb dX5_sees_23 (by decide) ?_
    obtain ⟨p_24, hc_24, h⟩ := of_bind h
    refine x_Vi (av := [.ref (q 0), .int (-1 : Int32)]) (As := [.int (-1 : Int32)]) F hW (c_X5_refuse l G q w (-1 : Int32) _ hc_24) [0, 1, 2, 3, 4, 5, 6, 7, 8, 9, 10, 11, 12, 13, 14, 15, 16, 17, 18, 19, 20, 21, 22, 23, 24, 25, 26, 27, 28, 29, 30, 31, 32, 33, 34, 35, 36, 37, 38] rfl rfl (by intro q; cases q) cv_X5_44 rfl ⟨_, rfl, rfl⟩ rfl rfl rfl hl (Nat.le_of_ble_eq_true rfl) ⟨Nat.le_of_ble_eq_true rfl, Nat.le_of_ble_eq_true rfl⟩ ⟨rfl, rfl⟩ ⟨Nat.le_of_ble_eq_true rfl, Nat.le_of_ble_eq_true rfl⟩ dX5_sees_24 rfl [some 0, some 1, some 2, some 3, some 4, some 5, some 6, some 7, some 8, some 9, some 10, some 11, some 12, some 13, some 14, some 15, some 16, some 17, some 18, some 19, some 20, some 21, some 22, some 23, some 24, some 25, some 26, some 27, some 28, some 29, some 30, some 31, some 32, some 33, some 34, some 35, some 36, some 37, some 38] rfl (ws' := cEW G q p_24.2) rfl (fun H locs hW => ?_)
    obtain rfl := Option.some.inj h
    exact x_reti F hr hW rfl dX5_sees_27
  · have h := hf_8 c_8
    refine lv_aload_n hx hb dX5_sees_11 rfl (lv_at hl 0 rfl) ?_
    refine x_get F hW 0 rfl fa_X5_10 rfl dX5_sees_12 ?_
    refine lv_iload_n hx hb dX5_sees_15 rfl (lv_at hl 1 rfl) ?_
    obtain ⟨p_16, hc_16, h⟩ := of_bind h
    refine x_Vi (av := [.ref (q 1), .int x1]) (As := [.int x1]) F hW (c_X4_seenBy l G (fun i => q (i + 1)) w.1 x1 _ hc_16) [1, 2, 3, 4, 5, 6, 7, 8, 9, 10, 11, 12, 13, 14, 15, 16, 17, 18, 19, 20, 21, 22] rfl rfl (by intro q; cases q) cv_X5_155 rfl ⟨_, rfl, rfl⟩ rfl rfl rfl hl (Nat.le_of_ble_eq_true rfl) ⟨Nat.le_of_ble_eq_true rfl, Nat.le_of_ble_eq_true rfl⟩ ⟨rfl, rfl⟩ ⟨Nat.le_of_ble_eq_true rfl, Nat.le_of_ble_eq_true rfl⟩ dX5_sees_16 rfl [none, some 0, some 1, some 2, some 3, some 4, some 5, some 6, some 7, some 8, some 9, some 10, some 11, some 12, some 13, some 14, some 15, some 16, some 17, some 18, some 19, some 20, some 21, none, none, none, none, none, none, none, none, none, none, none, none, none, none, none, none] rfl (ws' := cEW G q (p_16.2, w.2.1, w.2.2.1, w.2.2.2.1, w.2.2.2.2.1, w.2.2.2.2.2.1, w.2.2.2.2.2.2.1, w.2.2.2.2.2.2.2)) rfl (fun H locs hW => ?_)
    refine lv_goto (tgt := 27) hx hb dX5_sees_19 (by decide) ?_
    obtain rfl := Option.some.inj h
    exact x_reti F hr hW rfl dX5_sees_27
def f_X5_areTwo (w : EW) (x1 : Int32) (x2 : Int32) : Option (Int32) :=
  Option.bind (f_X1_isHouse w.1.1 x1) fun p_5 =>
    if p_5 = 0 then
    some (0 : Int32)
    else
    Option.bind (f_X1_isHouse w.1.1 x2) fun p_16 =>
    if p_16 = 0 then
    some (0 : Int32)
    else
    if x1 = x2 then
    some (0 : Int32)
    else
    some (1 : Int32)
abbrev rmX5_areTwo : Room := { frames := 1, cells := 0, slots := 0, locals := 21 }
set_option maxRecDepth 100000 in
set_option maxHeartbeats 4000000 in
theorem c_X5_areTwo (l : Launch) (G : EnT) (q : Nat → Nat) (w : EW) (x1 : Int32) (x2 : Int32) (o : Int32) (h : f_X5_areTwo w x1 x2 = some o) : Mi l yX5_areTwo rmX5_areTwo cX5_areTwo 3 (some .boolean) G false [.ref (q 0), .int x1, .int x2] (cEW G q w) o (cEW G q w) := by
  refine Mi_of (by decide) (Nat.le_of_ble_eq_true rfl) ?_
  intro p e s m below meth c A0 F hr hW ls hl
  obtain ⟨hx, hb, hml, hown, hts, hK, hNW, hlocks, hA, hSX⟩ := id F
  have hl : lv_has ls 3 [(0, .ref (q 0)), (1, .int x1), (2, .int x2)] := hl
  have hW : Wd G A0 s (cEW G q w) s.heap [] := hW
  show W p l e rmX5_areTwo s m ([.ref (q 0), .int x1, .int x2] : List Value).toArray below meth c s.heap [] 0 0 (Qi below G (cEW G q w) o A0 ([.ref (q 0), .int x1, .int x2] : List Value).toArray s) (F0 m 0 ls [])
  refine lv_aload_n hx hb dX5_areTwo_0 rfl (lv_at hl 0 rfl) ?_
  refine x_get F hW 0 rfl fa_X5_20 rfl dX5_areTwo_1 ?_
  refine lv_iload_n hx hb dX5_areTwo_4 rfl (lv_at hl 1 rfl) ?_
  obtain ⟨p_5, hc_5, h⟩ := of_bind h
  refine x_Vi (av := [.ref (q 2), .int x1]) (As := [.int x1]) F hW (c_X1_isHouse l G (fun i => q (i + 2)) w.1.1 x1 _ hc_5) [2, 3, 4, 5, 6, 7] rfl rfl (by intro q; cases q) cv_X5_74 rfl ⟨_, rfl, rfl⟩ rfl rfl rfl hl (Nat.le_of_ble_eq_true rfl) ⟨Nat.le_of_ble_eq_true rfl, Nat.le_of_ble_eq_true rfl⟩ ⟨rfl, rfl⟩ ⟨Nat.le_of_ble_eq_true rfl, Nat.le_of_ble_eq_true rfl⟩ dX5_areTwo_5 rfl [none, none, some 0, some 1, some 2, some 3, some 4, some 5, none, none, none, none, none, none, none, none, none, none, none, none, none, none, none, none, none, none, none, none, none, none, none, none, none, none, none, none, none, none, none] rfl (ws' := cEW G q w) rfl (fun H locs hW => ?_)
  obtain ⟨ht_8, hf_8⟩ := of_ite h
  refine lv_if_eq (tgt := 31) hx hb dX5_areTwo_8 (by decide) (fun c_8 => ?_) (fun c_8 => ?_)
  · have h := ht_8 c_8
    refine lv_iconst (v := (0 : Int32)) hx hb dX5_areTwo_31 (by decide) ?_
    obtain rfl := Option.some.inj h
    exact x_retz F hr hW (Or.inl rfl) rfl dX5_areTwo_32
  · have h := hf_8 c_8
    refine lv_aload_n hx hb dX5_areTwo_11 rfl (lv_at hl 0 rfl) ?_
    refine x_get F hW 0 rfl fa_X5_20 rfl dX5_areTwo_12 ?_
    refine lv_iload_n hx hb dX5_areTwo_15 rfl (lv_at hl 2 rfl) ?_
    obtain ⟨p_16, hc_16, h⟩ := of_bind h
    refine x_Vi (av := [.ref (q 2), .int x2]) (As := [.int x2]) F hW (c_X1_isHouse l G (fun i => q (i + 2)) w.1.1 x2 _ hc_16) [2, 3, 4, 5, 6, 7] rfl rfl (by intro q; cases q) cv_X5_74 rfl ⟨_, rfl, rfl⟩ rfl rfl rfl hl (Nat.le_of_ble_eq_true rfl) ⟨Nat.le_of_ble_eq_true rfl, Nat.le_of_ble_eq_true rfl⟩ ⟨rfl, rfl⟩ ⟨Nat.le_of_ble_eq_true rfl, Nat.le_of_ble_eq_true rfl⟩ dX5_areTwo_16 rfl [none, none, some 0, some 1, some 2, some 3, some 4, some 5, none, none, none, none, none, none, none, none, none, none, none, none, none, none, none, none, none, none, none, none, none, none, none, none, none, none, none, none, none, none, none] rfl (ws' := cEW G q w) rfl (fun H locs hW => ?_)
    obtain ⟨ht_19, hf_19⟩ := of_ite h
    refine lv_if_eq (tgt := 31) hx hb dX5_areTwo_19 (by decide) (fun c_19 => ?_) (fun c_19 => ?_)
    · have h := ht_19 c_19
      refine lv_iconst (v := (0 : Int32)) hx hb dX5_areTwo_31 (by decide) ?_
      obtain rfl := Option.some.inj h
      exact x_retz F hr hW (Or.inl rfl) rfl dX5_areTwo_32
    · have h := hf_19 c_19
      refine lv_iload_n hx hb dX5_areTwo_22 rfl (lv_at hl 1 rfl) ?_
      refine lv_iload_n hx hb dX5_areTwo_23 rfl (lv_at hl 2 rfl) ?_
      obtain ⟨ht_24, hf_24⟩ := of_ite h
      refine lv_icmp_eq (tgt := 31) hx hb dX5_areTwo_24 (by decide) (fun c_24 => ?_) (fun c_24 => ?_)
      · have h := ht_24 c_24
        refine lv_iconst (v := (0 : Int32)) hx hb dX5_areTwo_31 (by decide) ?_
        obtain rfl := Option.some.inj h
        exact x_retz F hr hW (Or.inl rfl) rfl dX5_areTwo_32
      · have h := hf_24 c_24
        refine lv_iconst (v := (1 : Int32)) hx hb dX5_areTwo_27 (by decide) ?_
        refine lv_goto (tgt := 32) hx hb dX5_areTwo_28 (by decide) ?_
        obtain rfl := Option.some.inj h
        exact x_retz F hr hW (Or.inr rfl) rfl dX5_areTwo_32
def f_X5_hill (w : EW) (x1 : Int32) (x2 : Int32) : Option (Int32 × EW) :=
  Option.bind (f_X5_areTwo w x1 x2) fun p_3 =>
    if p_3 = 0 then
    Option.bind (f_X5_refuse w (-1 : Int32)) fun p_23 =>
    some (p_23.1, p_23.2)
    else
    Option.bind (f_X4_cellInTheWay w.1 x1 x2) fun p_15 =>
    some (p_15.1, (p_15.2, w.2.1, w.2.2.1, w.2.2.2.1, w.2.2.2.2.1, w.2.2.2.2.2.1, w.2.2.2.2.2.2.1, w.2.2.2.2.2.2.2))
abbrev rmX5_hill : Room := { frames := 5, cells := 0, slots := 0, locals := 135 }
set_option maxRecDepth 100000 in
set_option maxHeartbeats 4000000 in
theorem c_X5_hill (l : Launch) (G : EnT) (q : Nat → Nat) (w : EW) (x1 : Int32) (x2 : Int32) (o : Int32 × EW) (h : f_X5_hill w x1 x2 = some o) : Mi l yX5_hill rmX5_hill cX5_hill 3 (some .int) G false [.ref (q 0), .int x1, .int x2] (cEW G q w) o.1 (cEW G q o.2) := by
  refine Mi_of (by decide) (Nat.le_of_ble_eq_true rfl) ?_
  intro p e s m below meth c A0 F hr hW ls hl
  obtain ⟨hx, hb, hml, hown, hts, hK, hNW, hlocks, hA, hSX⟩ := id F
  have hl : lv_has ls 3 [(0, .ref (q 0)), (1, .int x1), (2, .int x2)] := hl
  have hW : Wd G A0 s (cEW G q w) s.heap [] := hW
  show W p l e rmX5_hill s m ([.ref (q 0), .int x1, .int x2] : List Value).toArray below meth c s.heap [] 0 0 (Qi below G (cEW G q o.2) o.1 A0 ([.ref (q 0), .int x1, .int x2] : List Value).toArray s) (F0 m 0 ls [])
  refine lv_aload_n hx hb dX5_hill_0 rfl (lv_at hl 0 rfl) ?_
  refine lv_iload_n hx hb dX5_hill_1 rfl (lv_at hl 1 rfl) ?_
  refine lv_iload_n hx hb dX5_hill_2 rfl (lv_at hl 2 rfl) ?_
  obtain ⟨p_3, hc_3, h⟩ := of_bind h
  refine x_Vi (av := [.ref (q 0), .int x1, .int x2]) (As := [.int x1, .int x2]) F hW (c_X5_areTwo l G q w x1 x2 _ hc_3) [0, 1, 2, 3, 4, 5, 6, 7, 8, 9, 10, 11, 12, 13, 14, 15, 16, 17, 18, 19, 20, 21, 22, 23, 24, 25, 26, 27, 28, 29, 30, 31, 32, 33, 34, 35, 36, 37, 38] rfl rfl (by intro q; cases q) cv_X5_158 rfl ⟨_, rfl, rfl⟩ rfl rfl rfl hl (Nat.le_of_ble_eq_true rfl) ⟨Nat.le_of_ble_eq_true rfl, Nat.le_of_ble_eq_true rfl⟩ ⟨rfl, rfl⟩ ⟨Nat.le_of_ble_eq_true rfl, Nat.le_of_ble_eq_true rfl⟩ dX5_hill_3 rfl [some 0, some 1, some 2, some 3, some 4, some 5, some 6, some 7, some 8, some 9, some 10, some 11, some 12, some 13, some 14, some 15, some 16, some 17, some 18, some 19, some 20, some 21, some 22, some 23, some 24, some 25, some 26, some 27, some 28, some 29, some 30, some 31, some 32, some 33, some 34, some 35, some 36, some 37, some 38] rfl (ws' := cEW G q w) rfl (fun H locs hW => ?_)
  obtain ⟨ht_6, hf_6⟩ := of_ite h
  refine lv_if_eq (tgt := 21) hx hb dX5_hill_6 (by decide) (fun c_6 => ?_) (fun c_6 => ?_)
  · have h := ht_6 c_6
    refine lv_aload_n hx hb dX5_hill_21 rfl (lv_at hl 0 rfl) ?_
    refine lv_iconst (v := (-1 : Int32)) hx hb dX5_hill_22 (by decide) ?_
    obtain ⟨p_23, hc_23, h⟩ := of_bind h
    refine x_Vi (av := [.ref (q 0), .int (-1 : Int32)]) (As := [.int (-1 : Int32)]) F hW (c_X5_refuse l G q w (-1 : Int32) _ hc_23) [0, 1, 2, 3, 4, 5, 6, 7, 8, 9, 10, 11, 12, 13, 14, 15, 16, 17, 18, 19, 20, 21, 22, 23, 24, 25, 26, 27, 28, 29, 30, 31, 32, 33, 34, 35, 36, 37, 38] rfl rfl (by intro q; cases q) cv_X5_44 rfl ⟨_, rfl, rfl⟩ rfl rfl rfl hl (Nat.le_of_ble_eq_true rfl) ⟨Nat.le_of_ble_eq_true rfl, Nat.le_of_ble_eq_true rfl⟩ ⟨rfl, rfl⟩ ⟨Nat.le_of_ble_eq_true rfl, Nat.le_of_ble_eq_true rfl⟩ dX5_hill_23 rfl [some 0, some 1, some 2, some 3, some 4, some 5, some 6, some 7, some 8, some 9, some 10, some 11, some 12, some 13, some 14, some 15, some 16, some 17, some 18, some 19, some 20, some 21, some 22, some 23, some 24, some 25, some 26, some 27, some 28, some 29, some 30, some 31, some 32, some 33, some 34, some 35, some 36, some 37, some 38] rfl (ws' := cEW G q p_23.2) rfl (fun H locs hW => ?_)
    obtain rfl := Option.some.inj h
    exact x_reti F hr hW rfl dX5_hill_26
  · have h := hf_6 c_6
    refine lv_aload_n hx hb dX5_hill_9 rfl (lv_at hl 0 rfl) ?_
    refine x_get F hW 0 rfl fa_X5_10 rfl dX5_hill_10 ?_
    refine lv_iload_n hx hb dX5_hill_13 rfl (lv_at hl 1 rfl) ?_
    refine lv_iload_n hx hb dX5_hill_14 rfl (lv_at hl 2 rfl) ?_
    obtain ⟨p_15, hc_15, h⟩ := of_bind h
    refine x_Vi (av := [.ref (q 1), .int x1, .int x2]) (As := [.int x1, .int x2]) F hW (c_X4_cellInTheWay l G (fun i => q (i + 1)) w.1 x1 x2 _ hc_15) [1, 2, 3, 4, 5, 6, 7, 8, 9, 10, 11, 12, 13, 14, 15, 16, 17, 18, 19, 20, 21, 22] rfl rfl (by intro q; cases q) cv_X5_161 rfl ⟨_, rfl, rfl⟩ rfl rfl rfl hl (Nat.le_of_ble_eq_true rfl) ⟨Nat.le_of_ble_eq_true rfl, Nat.le_of_ble_eq_true rfl⟩ ⟨rfl, rfl⟩ ⟨Nat.le_of_ble_eq_true rfl, Nat.le_of_ble_eq_true rfl⟩ dX5_hill_15 rfl [none, some 0, some 1, some 2, some 3, some 4, some 5, some 6, some 7, some 8, some 9, some 10, some 11, some 12, some 13, some 14, some 15, some 16, some 17, some 18, some 19, some 20, some 21, none, none, none, none, none, none, none, none, none, none, none, none, none, none, none, none] rfl (ws' := cEW G q (p_15.2, w.2.1, w.2.2.1, w.2.2.2.1, w.2.2.2.2.1, w.2.2.2.2.2.1, w.2.2.2.2.2.2.1, w.2.2.2.2.2.2.2)) rfl (fun H locs hW => ?_)
    refine lv_goto (tgt := 26) hx hb dX5_hill_18 (by decide) ?_
    obtain rfl := Option.some.inj h
    exact x_reti F hr hW rfl dX5_hill_26
def f_X5_leastEye (w : EW) (x1 : Int32) : Option (Int32 × EW) :=
  Option.bind (f_X1_isHouse w.1.1 x1) fun p_5 =>
    if p_5 = 0 then
    Option.bind (f_X5_refuse w (-1 : Int32)) fun p_24 =>
    some (p_24.1, p_24.2)
    else
    Option.bind (f_X4_leastCandle w.1 x1) fun p_16 =>
    some (p_16, w)
abbrev rmX5_leastEye : Room := { frames := 3, cells := 0, slots := 0, locals := 78 }
set_option maxRecDepth 100000 in
set_option maxHeartbeats 4000000 in
theorem c_X5_leastEye (l : Launch) (G : EnT) (q : Nat → Nat) (w : EW) (x1 : Int32) (o : Int32 × EW) (h : f_X5_leastEye w x1 = some o) : Mi l yX5_leastEye rmX5_leastEye cX5_leastEye 2 (some .int) G false [.ref (q 0), .int x1] (cEW G q w) o.1 (cEW G q o.2) := by
  refine Mi_of (by decide) (Nat.le_of_ble_eq_true rfl) ?_
  intro p e s m below meth c A0 F hr hW ls hl
  obtain ⟨hx, hb, hml, hown, hts, hK, hNW, hlocks, hA, hSX⟩ := id F
  have hl : lv_has ls 2 [(0, .ref (q 0)), (1, .int x1)] := hl
  have hW : Wd G A0 s (cEW G q w) s.heap [] := hW
  show W p l e rmX5_leastEye s m ([.ref (q 0), .int x1] : List Value).toArray below meth c s.heap [] 0 0 (Qi below G (cEW G q o.2) o.1 A0 ([.ref (q 0), .int x1] : List Value).toArray s) (F0 m 0 ls [])
  refine lv_aload_n hx hb dX5_leastEye_0 rfl (lv_at hl 0 rfl) ?_
  refine x_get F hW 0 rfl fa_X5_20 rfl dX5_leastEye_1 ?_
  refine lv_iload_n hx hb dX5_leastEye_4 rfl (lv_at hl 1 rfl) ?_
  obtain ⟨p_5, hc_5, h⟩ := of_bind h
  refine x_Vi (av := [.ref (q 2), .int x1]) (As := [.int x1]) F hW (c_X1_isHouse l G (fun i => q (i + 2)) w.1.1 x1 _ hc_5) [2, 3, 4, 5, 6, 7] rfl rfl (by intro q; cases q) cv_X5_74 rfl ⟨_, rfl, rfl⟩ rfl rfl rfl hl (Nat.le_of_ble_eq_true rfl) ⟨Nat.le_of_ble_eq_true rfl, Nat.le_of_ble_eq_true rfl⟩ ⟨rfl, rfl⟩ ⟨Nat.le_of_ble_eq_true rfl, Nat.le_of_ble_eq_true rfl⟩ dX5_leastEye_5 rfl [none, none, some 0, some 1, some 2, some 3, some 4, some 5, none, none, none, none, none, none, none, none, none, none, none, none, none, none, none, none, none, none, none, none, none, none, none, none, none, none, none, none, none, none, none] rfl (ws' := cEW G q w) rfl (fun H locs hW => ?_)
  obtain ⟨ht_8, hf_8⟩ := of_ite h
  refine lv_if_eq (tgt := 22) hx hb dX5_leastEye_8 (by decide) (fun c_8 => ?_) (fun c_8 => ?_)
  · have h := ht_8 c_8
    refine lv_aload_n hx hb dX5_leastEye_22 rfl (lv_at hl 0 rfl) ?_
    refine lv_iconst (v := (-1 : Int32)) hx hb dX5_leastEye_23 (by decide) ?_
    obtain ⟨p_24, hc_24, h⟩ := of_bind h
    refine x_Vi (av := [.ref (q 0), .int (-1 : Int32)]) (As := [.int (-1 : Int32)]) F hW (c_X5_refuse l G q w (-1 : Int32) _ hc_24) [0, 1, 2, 3, 4, 5, 6, 7, 8, 9, 10, 11, 12, 13, 14, 15, 16, 17, 18, 19, 20, 21, 22, 23, 24, 25, 26, 27, 28, 29, 30, 31, 32, 33, 34, 35, 36, 37, 38] rfl rfl (by intro q; cases q) cv_X5_44 rfl ⟨_, rfl, rfl⟩ rfl rfl rfl hl (Nat.le_of_ble_eq_true rfl) ⟨Nat.le_of_ble_eq_true rfl, Nat.le_of_ble_eq_true rfl⟩ ⟨rfl, rfl⟩ ⟨Nat.le_of_ble_eq_true rfl, Nat.le_of_ble_eq_true rfl⟩ dX5_leastEye_24 rfl [some 0, some 1, some 2, some 3, some 4, some 5, some 6, some 7, some 8, some 9, some 10, some 11, some 12, some 13, some 14, some 15, some 16, some 17, some 18, some 19, some 20, some 21, some 22, some 23, some 24, some 25, some 26, some 27, some 28, some 29, some 30, some 31, some 32, some 33, some 34, some 35, some 36, some 37, some 38] rfl (ws' := cEW G q p_24.2) rfl (fun H locs hW => ?_)
    obtain rfl := Option.some.inj h
    exact x_reti F hr hW rfl dX5_leastEye_27
  · have h := hf_8 c_8
    refine lv_aload_n hx hb dX5_leastEye_11 rfl (lv_at hl 0 rfl) ?_
    refine x_get F hW 0 rfl fa_X5_10 rfl dX5_leastEye_12 ?_
    refine lv_iload_n hx hb dX5_leastEye_15 rfl (lv_at hl 1 rfl) ?_
    obtain ⟨p_16, hc_16, h⟩ := of_bind h
    refine x_Vi (av := [.ref (q 1), .int x1]) (As := [.int x1]) F hW (c_X4_leastCandle l G (fun i => q (i + 1)) w.1 x1 _ hc_16) [1, 2, 3, 4, 5, 6, 7, 8, 9, 10, 11, 12, 13, 14, 15, 16, 17, 18, 19, 20, 21, 22] rfl rfl (by intro q; cases q) cv_X5_164 rfl ⟨_, rfl, rfl⟩ rfl rfl rfl hl (Nat.le_of_ble_eq_true rfl) ⟨Nat.le_of_ble_eq_true rfl, Nat.le_of_ble_eq_true rfl⟩ ⟨rfl, rfl⟩ ⟨Nat.le_of_ble_eq_true rfl, Nat.le_of_ble_eq_true rfl⟩ dX5_leastEye_16 rfl [none, some 0, some 1, some 2, some 3, some 4, some 5, some 6, some 7, some 8, some 9, some 10, some 11, some 12, some 13, some 14, some 15, some 16, some 17, some 18, some 19, some 20, some 21, none, none, none, none, none, none, none, none, none, none, none, none, none, none, none, none] rfl (ws' := cEW G q w) rfl (fun H locs hW => ?_)
    refine lv_goto (tgt := 27) hx hb dX5_leastEye_19 (by decide) ?_
    obtain rfl := Option.some.inj h
    exact x_reti F hr hW rfl dX5_leastEye_27
def f_X5_cut (w : EW) (x1 : Int32) : Option (Int32 × EW) :=
  if x1 = (0 : Int32) then
    Option.bind (f_X4_cutHouse w.1) fun p_32 =>
    some (p_32.1, (p_32.2, w.2.1, w.2.2.1, w.2.2.2.1, w.2.2.2.2.1, w.2.2.2.2.2.1, w.2.2.2.2.2.2.1, w.2.2.2.2.2.2.2))
    else
    if x1 = (1 : Int32) then
    Option.bind (f_X4_hangingAfterCut w.1) fun p_40 =>
    some (p_40.1, (p_40.2, w.2.1, w.2.2.1, w.2.2.2.1, w.2.2.2.2.1, w.2.2.2.2.2.1, w.2.2.2.2.2.2.1, w.2.2.2.2.2.2.2))
    else
    if x1 = (2 : Int32) then
    Option.bind (f_X4_needed w.1) fun p_48 =>
    some (p_48.1, (p_48.2, w.2.1, w.2.2.1, w.2.2.2.1, w.2.2.2.2.1, w.2.2.2.2.2.1, w.2.2.2.2.2.2.1, w.2.2.2.2.2.2.2))
    else
    Option.bind (f_X5_refuse w (-2 : Int32)) fun p_55 =>
    some (p_55.1, p_55.2)
abbrev rmX5_cut : Room := { frames := 6, cells := 0, slots := 0, locals := 151 }
set_option maxRecDepth 100000 in
set_option maxHeartbeats 4000000 in
theorem c_X5_cut (l : Launch) (G : EnT) (q : Nat → Nat) (w : EW) (x1 : Int32) (o : Int32 × EW) (h : f_X5_cut w x1 = some o) : Mi l yX5_cut rmX5_cut cX5_cut 2 (some .int) G false [.ref (q 0), .int x1] (cEW G q w) o.1 (cEW G q o.2) := by
  refine Mi_of (by decide) (Nat.le_of_ble_eq_true rfl) ?_
  intro p e s m below meth c A0 F hr hW ls hl
  obtain ⟨hx, hb, hml, hown, hts, hK, hNW, hlocks, hA, hSX⟩ := id F
  have hl : lv_has ls 2 [(0, .ref (q 0)), (1, .int x1)] := hl
  have hW : Wd G A0 s (cEW G q w) s.heap [] := hW
  show W p l e rmX5_cut s m ([.ref (q 0), .int x1] : List Value).toArray below meth c s.heap [] 0 0 (Qi below G (cEW G q o.2) o.1 A0 ([.ref (q 0), .int x1] : List Value).toArray s) (F0 m 0 ls [])
  refine lv_iload_n hx hb dX5_cut_0 rfl (lv_at hl 1 rfl) ?_
  obtain ⟨ht_1_0, h⟩ := of_ite h
  by_cases c_1_0 : x1 = (0 : Int32)
  · have h := ht_1_0 c_1_0
    refine x_tableIn c_1_0 hx hb dX5_cut_1 (by decide) (by decide) (off := (27)) rfl (tgt := 28) (by decide) ?_
    refine lv_aload_n hx hb dX5_cut_28 rfl (lv_at hl 0 rfl) ?_
    refine x_get F hW 0 rfl fa_X5_10 rfl dX5_cut_29 ?_
    obtain ⟨p_32, hc_32, h⟩ := of_bind h
    refine x_Vi (av := [.ref (q 1)]) (As := []) F hW (c_X4_cutHouse l G (fun i => q (i + 1)) w.1 _ hc_32) [1, 2, 3, 4, 5, 6, 7, 8, 9, 10, 11, 12, 13, 14, 15, 16, 17, 18, 19, 20, 21, 22] rfl rfl (by intro q; cases q) cv_X5_167 rfl ⟨_, rfl, rfl⟩ rfl rfl rfl hl (Nat.le_of_ble_eq_true rfl) ⟨Nat.le_of_ble_eq_true rfl, Nat.le_of_ble_eq_true rfl⟩ ⟨rfl, rfl⟩ ⟨Nat.le_of_ble_eq_true rfl, Nat.le_of_ble_eq_true rfl⟩ dX5_cut_32 rfl [none, some 0, some 1, some 2, some 3, some 4, some 5, some 6, some 7, some 8, some 9, some 10, some 11, some 12, some 13, some 14, some 15, some 16, some 17, some 18, some 19, some 20, some 21, none, none, none, none, none, none, none, none, none, none, none, none, none, none, none, none] rfl (ws' := cEW G q (p_32.2, w.2.1, w.2.2.1, w.2.2.2.1, w.2.2.2.2.1, w.2.2.2.2.2.1, w.2.2.2.2.2.2.1, w.2.2.2.2.2.2.2)) rfl (fun H locs hW => ?_)
    obtain rfl := Option.some.inj h
    exact x_reti F hr hW rfl dX5_cut_35
  have h := h c_1_0
  obtain ⟨ht_1_1, h⟩ := of_ite h
  by_cases c_1_1 : x1 = (1 : Int32)
  · have h := ht_1_1 c_1_1
    refine x_tableIn c_1_1 hx hb dX5_cut_1 (by decide) (by decide) (off := (35)) rfl (tgt := 36) (by decide) ?_
    refine lv_aload_n hx hb dX5_cut_36 rfl (lv_at hl 0 rfl) ?_
    refine x_get F hW 0 rfl fa_X5_10 rfl dX5_cut_37 ?_
    obtain ⟨p_40, hc_40, h⟩ := of_bind h
    refine x_Vi (av := [.ref (q 1)]) (As := []) F hW (c_X4_hangingAfterCut l G (fun i => q (i + 1)) w.1 _ hc_40) [1, 2, 3, 4, 5, 6, 7, 8, 9, 10, 11, 12, 13, 14, 15, 16, 17, 18, 19, 20, 21, 22] rfl rfl (by intro q; cases q) cv_X5_170 rfl ⟨_, rfl, rfl⟩ rfl rfl rfl hl (Nat.le_of_ble_eq_true rfl) ⟨Nat.le_of_ble_eq_true rfl, Nat.le_of_ble_eq_true rfl⟩ ⟨rfl, rfl⟩ ⟨Nat.le_of_ble_eq_true rfl, Nat.le_of_ble_eq_true rfl⟩ dX5_cut_40 rfl [none, some 0, some 1, some 2, some 3, some 4, some 5, some 6, some 7, some 8, some 9, some 10, some 11, some 12, some 13, some 14, some 15, some 16, some 17, some 18, some 19, some 20, some 21, none, none, none, none, none, none, none, none, none, none, none, none, none, none, none, none] rfl (ws' := cEW G q (p_40.2, w.2.1, w.2.2.1, w.2.2.2.1, w.2.2.2.2.1, w.2.2.2.2.2.1, w.2.2.2.2.2.2.1, w.2.2.2.2.2.2.2)) rfl (fun H locs hW => ?_)
    obtain rfl := Option.some.inj h
    exact x_reti F hr hW rfl dX5_cut_43
  have h := h c_1_1
  obtain ⟨ht_1_2, h⟩ := of_ite h
  by_cases c_1_2 : x1 = (2 : Int32)
  · have h := ht_1_2 c_1_2
    refine x_tableIn c_1_2 hx hb dX5_cut_1 (by decide) (by decide) (off := (43)) rfl (tgt := 44) (by decide) ?_
    refine lv_aload_n hx hb dX5_cut_44 rfl (lv_at hl 0 rfl) ?_
    refine x_get F hW 0 rfl fa_X5_10 rfl dX5_cut_45 ?_
    obtain ⟨p_48, hc_48, h⟩ := of_bind h
    refine x_Vi (av := [.ref (q 1)]) (As := []) F hW (c_X4_needed l G (fun i => q (i + 1)) w.1 _ hc_48) [1, 2, 3, 4, 5, 6, 7, 8, 9, 10, 11, 12, 13, 14, 15, 16, 17, 18, 19, 20, 21, 22] rfl rfl (by intro q; cases q) cv_X5_173 rfl ⟨_, rfl, rfl⟩ rfl rfl rfl hl (Nat.le_of_ble_eq_true rfl) ⟨Nat.le_of_ble_eq_true rfl, Nat.le_of_ble_eq_true rfl⟩ ⟨rfl, rfl⟩ ⟨Nat.le_of_ble_eq_true rfl, Nat.le_of_ble_eq_true rfl⟩ dX5_cut_48 rfl [none, some 0, some 1, some 2, some 3, some 4, some 5, some 6, some 7, some 8, some 9, some 10, some 11, some 12, some 13, some 14, some 15, some 16, some 17, some 18, some 19, some 20, some 21, none, none, none, none, none, none, none, none, none, none, none, none, none, none, none, none] rfl (ws' := cEW G q (p_48.2, w.2.1, w.2.2.1, w.2.2.2.1, w.2.2.2.2.1, w.2.2.2.2.2.1, w.2.2.2.2.2.2.1, w.2.2.2.2.2.2.2)) rfl (fun H locs hW => ?_)
    obtain rfl := Option.some.inj h
    exact x_reti F hr hW rfl dX5_cut_51
  have h := h c_1_2
  refine lv_tableOut hx hb dX5_cut_1 (by have z0 := x_ne c_1_0 (z := 0) (by decide); have z1 := x_ne c_1_1 (z := 1) (by decide); have z2 := x_ne c_1_2 (z := 2) (by decide); omega) (tgt := 52) (by decide) ?_
  refine lv_aload_n hx hb dX5_cut_52 rfl (lv_at hl 0 rfl) ?_
  refine lv_bipush (v := (-2 : Int32)) hx hb dX5_cut_53 (by decide) ?_
  obtain ⟨p_55, hc_55, h⟩ := of_bind h
  refine x_Vi (av := [.ref (q 0), .int (-2 : Int32)]) (As := [.int (-2 : Int32)]) F hW (c_X5_refuse l G q w (-2 : Int32) _ hc_55) [0, 1, 2, 3, 4, 5, 6, 7, 8, 9, 10, 11, 12, 13, 14, 15, 16, 17, 18, 19, 20, 21, 22, 23, 24, 25, 26, 27, 28, 29, 30, 31, 32, 33, 34, 35, 36, 37, 38] rfl rfl (by intro q; cases q) cv_X5_44 rfl ⟨_, rfl, rfl⟩ rfl rfl rfl hl (Nat.le_of_ble_eq_true rfl) ⟨Nat.le_of_ble_eq_true rfl, Nat.le_of_ble_eq_true rfl⟩ ⟨rfl, rfl⟩ ⟨Nat.le_of_ble_eq_true rfl, Nat.le_of_ble_eq_true rfl⟩ dX5_cut_55 rfl [some 0, some 1, some 2, some 3, some 4, some 5, some 6, some 7, some 8, some 9, some 10, some 11, some 12, some 13, some 14, some 15, some 16, some 17, some 18, some 19, some 20, some 21, some 22, some 23, some 24, some 25, some 26, some 27, some 28, some 29, some 30, some 31, some 32, some 33, some 34, some 35, some 36, some 37, some 38] rfl (ws' := cEW G q p_55.2) rfl (fun H locs hW => ?_)
  obtain rfl := Option.some.inj h
  exact x_reti F hr hW rfl dX5_cut_58
def f_X5_build (w : EW) (x1 : Int32) : Option (Int32 × EW) :=
  if x1 = (0 : Int32) then
    Option.bind (f_X4_buildCell w.1) fun p_32 =>
    some (p_32.1, (p_32.2, w.2.1, w.2.2.1, w.2.2.2.1, w.2.2.2.2.1, w.2.2.2.2.2.1, w.2.2.2.2.2.2.1, w.2.2.2.2.2.2.2))
    else
    if x1 = (1 : Int32) then
    Option.bind (f_X4_buildCell w.1) fun p_44 =>
    Option.bind (f_X4_hangingIfBuilt p_44.2 p_44.1) fun p_47 =>
    some (p_47.1, (p_47.2, w.2.1, w.2.2.1, w.2.2.2.1, w.2.2.2.2.1, w.2.2.2.2.2.1, w.2.2.2.2.2.2.1, w.2.2.2.2.2.2.2))
    else
    Option.bind (f_X5_refuse w (-2 : Int32)) fun p_54 =>
    some (p_54.1, p_54.2)
abbrev rmX5_build : Room := { frames := 6, cells := 0, slots := 0, locals := 144 }
set_option maxRecDepth 100000 in
set_option maxHeartbeats 4000000 in
theorem c_X5_build (l : Launch) (G : EnT) (q : Nat → Nat) (w : EW) (x1 : Int32) (o : Int32 × EW) (h : f_X5_build w x1 = some o) : Mi l yX5_build rmX5_build cX5_build 2 (some .int) G false [.ref (q 0), .int x1] (cEW G q w) o.1 (cEW G q o.2) := by
  refine Mi_of (by decide) (Nat.le_of_ble_eq_true rfl) ?_
  intro p e s m below meth c A0 F hr hW ls hl
  obtain ⟨hx, hb, hml, hown, hts, hK, hNW, hlocks, hA, hSX⟩ := id F
  have hl : lv_has ls 2 [(0, .ref (q 0)), (1, .int x1)] := hl
  have hW : Wd G A0 s (cEW G q w) s.heap [] := hW
  show W p l e rmX5_build s m ([.ref (q 0), .int x1] : List Value).toArray below meth c s.heap [] 0 0 (Qi below G (cEW G q o.2) o.1 A0 ([.ref (q 0), .int x1] : List Value).toArray s) (F0 m 0 ls [])
  refine lv_iload_n hx hb dX5_build_0 rfl (lv_at hl 1 rfl) ?_
  obtain ⟨ht_1_0, h⟩ := of_ite h
  by_cases c_1_0 : x1 = (0 : Int32)
  · have h := ht_1_0 c_1_0
    refine x_lookIn c_1_0 hx hb dX5_build_1 rfl (off := (27)) rfl (tgt := 28) (by decide) ?_
    refine lv_aload_n hx hb dX5_build_28 rfl (lv_at hl 0 rfl) ?_
    refine x_get F hW 0 rfl fa_X5_10 rfl dX5_build_29 ?_
    obtain ⟨p_32, hc_32, h⟩ := of_bind h
    refine x_Vi (av := [.ref (q 1)]) (As := []) F hW (c_X4_buildCell l G (fun i => q (i + 1)) w.1 _ hc_32) [1, 2, 3, 4, 5, 6, 7, 8, 9, 10, 11, 12, 13, 14, 15, 16, 17, 18, 19, 20, 21, 22] rfl rfl (by intro q; cases q) cv_X5_176 rfl ⟨_, rfl, rfl⟩ rfl rfl rfl hl (Nat.le_of_ble_eq_true rfl) ⟨Nat.le_of_ble_eq_true rfl, Nat.le_of_ble_eq_true rfl⟩ ⟨rfl, rfl⟩ ⟨Nat.le_of_ble_eq_true rfl, Nat.le_of_ble_eq_true rfl⟩ dX5_build_32 rfl [none, some 0, some 1, some 2, some 3, some 4, some 5, some 6, some 7, some 8, some 9, some 10, some 11, some 12, some 13, some 14, some 15, some 16, some 17, some 18, some 19, some 20, some 21, none, none, none, none, none, none, none, none, none, none, none, none, none, none, none, none] rfl (ws' := cEW G q (p_32.2, w.2.1, w.2.2.1, w.2.2.2.1, w.2.2.2.2.1, w.2.2.2.2.2.1, w.2.2.2.2.2.2.1, w.2.2.2.2.2.2.2)) rfl (fun H locs hW => ?_)
    obtain rfl := Option.some.inj h
    exact x_reti F hr hW rfl dX5_build_35
  have h := h c_1_0
  obtain ⟨ht_1_1, h⟩ := of_ite h
  by_cases c_1_1 : x1 = (1 : Int32)
  · have h := ht_1_1 c_1_1
    refine x_lookIn c_1_1 hx hb dX5_build_1 rfl (off := (35)) rfl (tgt := 36) (by decide) ?_
    refine lv_aload_n hx hb dX5_build_36 rfl (lv_at hl 0 rfl) ?_
    refine x_get F hW 0 rfl fa_X5_10 rfl dX5_build_37 ?_
    refine lv_aload_n hx hb dX5_build_40 rfl (lv_at hl 0 rfl) ?_
    refine x_get F hW 0 rfl fa_X5_10 rfl dX5_build_41 ?_
    obtain ⟨p_44, hc_44, h⟩ := of_bind h
    refine x_Vi (av := [.ref (q 1)]) (As := []) F hW (c_X4_buildCell l G (fun i => q (i + 1)) w.1 _ hc_44) [1, 2, 3, 4, 5, 6, 7, 8, 9, 10, 11, 12, 13, 14, 15, 16, 17, 18, 19, 20, 21, 22] rfl rfl (by intro q; cases q) cv_X5_176 rfl ⟨_, rfl, rfl⟩ rfl rfl rfl hl (Nat.le_of_ble_eq_true rfl) ⟨Nat.le_of_ble_eq_true rfl, Nat.le_of_ble_eq_true rfl⟩ ⟨rfl, rfl⟩ ⟨Nat.le_of_ble_eq_true rfl, Nat.le_of_ble_eq_true rfl⟩ dX5_build_44 rfl [none, some 0, some 1, some 2, some 3, some 4, some 5, some 6, some 7, some 8, some 9, some 10, some 11, some 12, some 13, some 14, some 15, some 16, some 17, some 18, some 19, some 20, some 21, none, none, none, none, none, none, none, none, none, none, none, none, none, none, none, none] rfl (ws' := cEW G q (p_44.2, w.2.1, w.2.2.1, w.2.2.2.1, w.2.2.2.2.1, w.2.2.2.2.2.1, w.2.2.2.2.2.2.1, w.2.2.2.2.2.2.2)) rfl (fun H locs hW => ?_)
    obtain ⟨p_47, hc_47, h⟩ := of_bind h
    refine x_Vi (av := [.ref (q 1), .int p_44.1]) (As := [.int p_44.1]) F hW (c_X4_hangingIfBuilt l G (fun i => q (i + 1)) p_44.2 p_44.1 _ hc_47) [1, 2, 3, 4, 5, 6, 7, 8, 9, 10, 11, 12, 13, 14, 15, 16, 17, 18, 19, 20, 21, 22] rfl rfl (by intro q; cases q) cv_X5_179 rfl ⟨_, rfl, rfl⟩ rfl rfl rfl hl (Nat.le_of_ble_eq_true rfl) ⟨Nat.le_of_ble_eq_true rfl, Nat.le_of_ble_eq_true rfl⟩ ⟨rfl, rfl⟩ ⟨Nat.le_of_ble_eq_true rfl, Nat.le_of_ble_eq_true rfl⟩ dX5_build_47 rfl [none, some 0, some 1, some 2, some 3, some 4, some 5, some 6, some 7, some 8, some 9, some 10, some 11, some 12, some 13, some 14, some 15, some 16, some 17, some 18, some 19, some 20, some 21, none, none, none, none, none, none, none, none, none, none, none, none, none, none, none, none] rfl (ws' := cEW G q (p_47.2, w.2.1, w.2.2.1, w.2.2.2.1, w.2.2.2.2.1, w.2.2.2.2.2.1, w.2.2.2.2.2.2.1, w.2.2.2.2.2.2.2)) rfl (fun H locs hW => ?_)
    obtain rfl := Option.some.inj h
    exact x_reti F hr hW rfl dX5_build_50
  have h := h c_1_1
  refine lv_lookup (off := 50) hx hb dX5_build_1 rfl (by have z0 := x_ne c_1_0 (z := 0) (by decide); have z1 := x_ne c_1_1 (z := 1) (by decide); simp [Op.lookupswitch.offset, z0, Ne.symm z0, z1, Ne.symm z1]) (tgt := 51) (by decide) ?_
  refine lv_aload_n hx hb dX5_build_51 rfl (lv_at hl 0 rfl) ?_
  refine lv_bipush (v := (-2 : Int32)) hx hb dX5_build_52 (by decide) ?_
  obtain ⟨p_54, hc_54, h⟩ := of_bind h
  refine x_Vi (av := [.ref (q 0), .int (-2 : Int32)]) (As := [.int (-2 : Int32)]) F hW (c_X5_refuse l G q w (-2 : Int32) _ hc_54) [0, 1, 2, 3, 4, 5, 6, 7, 8, 9, 10, 11, 12, 13, 14, 15, 16, 17, 18, 19, 20, 21, 22, 23, 24, 25, 26, 27, 28, 29, 30, 31, 32, 33, 34, 35, 36, 37, 38] rfl rfl (by intro q; cases q) cv_X5_44 rfl ⟨_, rfl, rfl⟩ rfl rfl rfl hl (Nat.le_of_ble_eq_true rfl) ⟨Nat.le_of_ble_eq_true rfl, Nat.le_of_ble_eq_true rfl⟩ ⟨rfl, rfl⟩ ⟨Nat.le_of_ble_eq_true rfl, Nat.le_of_ble_eq_true rfl⟩ dX5_build_54 rfl [some 0, some 1, some 2, some 3, some 4, some 5, some 6, some 7, some 8, some 9, some 10, some 11, some 12, some 13, some 14, some 15, some 16, some 17, some 18, some 19, some 20, some 21, some 22, some 23, some 24, some 25, some 26, some 27, some 28, some 29, some 30, some 31, some 32, some 33, some 34, some 35, some 36, some 37, some 38] rfl (ws' := cEW G q p_54.2) rfl (fun H locs hW => ?_)
  obtain rfl := Option.some.inj h
  exact x_reti F hr hW rfl dX5_build_57
def f_X5_fell (w : EW) : Option (Int32 × EW) :=
  Option.bind (f_X4_cellToFell w.1) fun p_4 =>
    some (p_4.1, (p_4.2, w.2.1, w.2.2.1, w.2.2.2.1, w.2.2.2.2.1, w.2.2.2.2.2.1, w.2.2.2.2.2.2.1, w.2.2.2.2.2.2.2))
abbrev rmX5_fell : Room := { frames := 5, cells := 0, slots := 0, locals := 129 }
set_option maxRecDepth 100000 in
set_option maxHeartbeats 4000000 in
theorem c_X5_fell (l : Launch) (G : EnT) (q : Nat → Nat) (w : EW) (o : Int32 × EW) (h : f_X5_fell w = some o) : Mi l yX5_fell rmX5_fell cX5_fell 1 (some .int) G false [.ref (q 0)] (cEW G q w) o.1 (cEW G q o.2) := by
  refine Mi_of (by decide) (Nat.le_of_ble_eq_true rfl) ?_
  intro p e s m below meth c A0 F hr hW ls hl
  obtain ⟨hx, hb, hml, hown, hts, hK, hNW, hlocks, hA, hSX⟩ := id F
  have hl : lv_has ls 1 [(0, .ref (q 0))] := hl
  have hW : Wd G A0 s (cEW G q w) s.heap [] := hW
  show W p l e rmX5_fell s m ([.ref (q 0)] : List Value).toArray below meth c s.heap [] 0 0 (Qi below G (cEW G q o.2) o.1 A0 ([.ref (q 0)] : List Value).toArray s) (F0 m 0 ls [])
  refine lv_aload_n hx hb dX5_fell_0 rfl (lv_at hl 0 rfl) ?_
  refine x_get F hW 0 rfl fa_X5_10 rfl dX5_fell_1 ?_
  obtain ⟨p_4, hc_4, h⟩ := of_bind h
  refine x_Vi (av := [.ref (q 1)]) (As := []) F hW (c_X4_cellToFell l G (fun i => q (i + 1)) w.1 _ hc_4) [1, 2, 3, 4, 5, 6, 7, 8, 9, 10, 11, 12, 13, 14, 15, 16, 17, 18, 19, 20, 21, 22] rfl rfl (by intro q; cases q) cv_X5_182 rfl ⟨_, rfl, rfl⟩ rfl rfl rfl hl (Nat.le_of_ble_eq_true rfl) ⟨Nat.le_of_ble_eq_true rfl, Nat.le_of_ble_eq_true rfl⟩ ⟨rfl, rfl⟩ ⟨Nat.le_of_ble_eq_true rfl, Nat.le_of_ble_eq_true rfl⟩ dX5_fell_4 rfl [none, some 0, some 1, some 2, some 3, some 4, some 5, some 6, some 7, some 8, some 9, some 10, some 11, some 12, some 13, some 14, some 15, some 16, some 17, some 18, some 19, some 20, some 21, none, none, none, none, none, none, none, none, none, none, none, none, none, none, none, none] rfl (ws' := cEW G q (p_4.2, w.2.1, w.2.2.1, w.2.2.2.1, w.2.2.2.2.1, w.2.2.2.2.2.1, w.2.2.2.2.2.2.1, w.2.2.2.2.2.2.2)) rfl (fun H locs hW => ?_)
  obtain rfl := Option.some.inj h
  exact x_reti F hr hW rfl dX5_fell_7
def f_X5_raise (w : EW) : Option (Int32 × EW) :=
  Option.bind (f_X4_houseToRaise w.1) fun p_4 =>
    some (p_4.1, (p_4.2, w.2.1, w.2.2.1, w.2.2.2.1, w.2.2.2.2.1, w.2.2.2.2.2.1, w.2.2.2.2.2.2.1, w.2.2.2.2.2.2.2))
abbrev rmX5_raise : Room := { frames := 5, cells := 0, slots := 0, locals := 129 }
set_option maxRecDepth 100000 in
set_option maxHeartbeats 4000000 in
theorem c_X5_raise (l : Launch) (G : EnT) (q : Nat → Nat) (w : EW) (o : Int32 × EW) (h : f_X5_raise w = some o) : Mi l yX5_raise rmX5_raise cX5_raise 1 (some .int) G false [.ref (q 0)] (cEW G q w) o.1 (cEW G q o.2) := by
  refine Mi_of (by decide) (Nat.le_of_ble_eq_true rfl) ?_
  intro p e s m below meth c A0 F hr hW ls hl
  obtain ⟨hx, hb, hml, hown, hts, hK, hNW, hlocks, hA, hSX⟩ := id F
  have hl : lv_has ls 1 [(0, .ref (q 0))] := hl
  have hW : Wd G A0 s (cEW G q w) s.heap [] := hW
  show W p l e rmX5_raise s m ([.ref (q 0)] : List Value).toArray below meth c s.heap [] 0 0 (Qi below G (cEW G q o.2) o.1 A0 ([.ref (q 0)] : List Value).toArray s) (F0 m 0 ls [])
  refine lv_aload_n hx hb dX5_raise_0 rfl (lv_at hl 0 rfl) ?_
  refine x_get F hW 0 rfl fa_X5_10 rfl dX5_raise_1 ?_
  obtain ⟨p_4, hc_4, h⟩ := of_bind h
  refine x_Vi (av := [.ref (q 1)]) (As := []) F hW (c_X4_houseToRaise l G (fun i => q (i + 1)) w.1 _ hc_4) [1, 2, 3, 4, 5, 6, 7, 8, 9, 10, 11, 12, 13, 14, 15, 16, 17, 18, 19, 20, 21, 22] rfl rfl (by intro q; cases q) cv_X5_185 rfl ⟨_, rfl, rfl⟩ rfl rfl rfl hl (Nat.le_of_ble_eq_true rfl) ⟨Nat.le_of_ble_eq_true rfl, Nat.le_of_ble_eq_true rfl⟩ ⟨rfl, rfl⟩ ⟨Nat.le_of_ble_eq_true rfl, Nat.le_of_ble_eq_true rfl⟩ dX5_raise_4 rfl [none, some 0, some 1, some 2, some 3, some 4, some 5, some 6, some 7, some 8, some 9, some 10, some 11, some 12, some 13, some 14, some 15, some 16, some 17, some 18, some 19, some 20, some 21, none, none, none, none, none, none, none, none, none, none, none, none, none, none, none, none] rfl (ws' := cEW G q (p_4.2, w.2.1, w.2.2.1, w.2.2.2.1, w.2.2.2.2.1, w.2.2.2.2.2.1, w.2.2.2.2.2.2.1, w.2.2.2.2.2.2.2)) rfl (fun H locs hW => ?_)
  obtain rfl := Option.some.inj h
  exact x_reti F hr hW rfl dX5_raise_7
def f_X5_call (w : EW) (x1 : Int32) : Option (Int32 × EW) :=
  Option.bind (f_X5_outside x1 (0 : Int32) (12 : Int32)) fun p_4 =>
    if p_4 = 0 then
    Option.bind (f_X4_fewestCalled w.1 x1) fun p_25 =>
    some (p_25.1, (p_25.2, w.2.1, w.2.2.1, w.2.2.2.1, w.2.2.2.2.1, w.2.2.2.2.2.1, w.2.2.2.2.2.2.1, w.2.2.2.2.2.2.2))
    else
    Option.bind (f_X5_refuse w p_4) fun p_14 =>
    some (p_14.1, p_14.2)
abbrev rmX5_call : Room := { frames := 6, cells := 0, slots := 0, locals := 138 }
set_option maxRecDepth 100000 in
set_option maxHeartbeats 4000000 in
theorem c_X5_call (l : Launch) (G : EnT) (q : Nat → Nat) (w : EW) (x1 : Int32) (o : Int32 × EW) (h : f_X5_call w x1 = some o) : Mi l yX5_call rmX5_call cX5_call 3 (some .int) G false [.ref (q 0), .int x1] (cEW G q w) o.1 (cEW G q o.2) := by
  refine Mi_of (by decide) (Nat.le_of_ble_eq_true rfl) ?_
  intro p e s m below meth c A0 F hr hW ls hl
  obtain ⟨hx, hb, hml, hown, hts, hK, hNW, hlocks, hA, hSX⟩ := id F
  have hl : lv_has ls 3 [(0, .ref (q 0)), (1, .int x1)] := hl
  have hW : Wd G A0 s (cEW G q w) s.heap [] := hW
  show W p l e rmX5_call s m ([.ref (q 0), .int x1] : List Value).toArray below meth c s.heap [] 0 0 (Qi below G (cEW G q o.2) o.1 A0 ([.ref (q 0), .int x1] : List Value).toArray s) (F0 m 0 ls [])
  refine lv_iload_n hx hb dX5_call_0 rfl (lv_at hl 1 rfl) ?_
  refine lv_iconst (v := (0 : Int32)) hx hb dX5_call_1 (by decide) ?_
  refine lv_bipush (v := (12 : Int32)) hx hb dX5_call_2 (by decide) ?_
  obtain ⟨p_4, hc_4, h⟩ := of_bind h
  refine x_Si (av := [.int x1, .int (0 : Int32), .int (12 : Int32)]) F hW (c_X5_outside l G x1 (0 : Int32) (12 : Int32) _ hc_4) [] rfl rfl (by intro q; cases q) cs_X5_108 rfl rfl hl (Nat.le_of_ble_eq_true rfl) ⟨Nat.le_of_ble_eq_true rfl, Nat.le_of_ble_eq_true rfl⟩ ⟨rfl, rfl⟩ ⟨Nat.le_of_ble_eq_true rfl, Nat.le_of_ble_eq_true rfl⟩ dX5_call_4 rfl [none, none, none, none, none, none, none, none, none, none, none, none, none, none, none, none, none, none, none, none, none, none, none, none, none, none, none, none, none, none, none, none, none, none, none, none, none, none, none] rfl (ws' := cEW G q w) rfl (fun H locs hW => ?_)
  refine lv_istore_n (lv' := [(2, .int p_4), (0, .ref (q 0)), (1, .int x1)]) hx hb dX5_call_7 rfl hl (by decide) rfl (fun ls hl => ?_)
  refine lv_iload_n hx hb dX5_call_8 rfl (lv_at hl 0 rfl) ?_
  obtain ⟨ht_9, hf_9⟩ := of_ite h
  refine lv_if_eq (tgt := 20) hx hb dX5_call_9 (by decide) (fun c_9 => ?_) (fun c_9 => ?_)
  · have h := ht_9 c_9
    refine lv_aload_n hx hb dX5_call_20 rfl (lv_at hl 1 rfl) ?_
    refine x_get F hW 0 rfl fa_X5_10 rfl dX5_call_21 ?_
    refine lv_iload_n hx hb dX5_call_24 rfl (lv_at hl 2 rfl) ?_
    obtain ⟨p_25, hc_25, h⟩ := of_bind h
    refine x_Vi (av := [.ref (q 1), .int x1]) (As := [.int x1]) F hW (c_X4_fewestCalled l G (fun i => q (i + 1)) w.1 x1 _ hc_25) [1, 2, 3, 4, 5, 6, 7, 8, 9, 10, 11, 12, 13, 14, 15, 16, 17, 18, 19, 20, 21, 22] rfl rfl (by intro q; cases q) cv_X5_188 rfl ⟨_, rfl, rfl⟩ rfl rfl rfl hl (Nat.le_of_ble_eq_true rfl) ⟨Nat.le_of_ble_eq_true rfl, Nat.le_of_ble_eq_true rfl⟩ ⟨rfl, rfl⟩ ⟨Nat.le_of_ble_eq_true rfl, Nat.le_of_ble_eq_true rfl⟩ dX5_call_25 rfl [none, some 0, some 1, some 2, some 3, some 4, some 5, some 6, some 7, some 8, some 9, some 10, some 11, some 12, some 13, some 14, some 15, some 16, some 17, some 18, some 19, some 20, some 21, none, none, none, none, none, none, none, none, none, none, none, none, none, none, none, none] rfl (ws' := cEW G q (p_25.2, w.2.1, w.2.2.1, w.2.2.2.1, w.2.2.2.2.1, w.2.2.2.2.2.1, w.2.2.2.2.2.2.1, w.2.2.2.2.2.2.2)) rfl (fun H locs hW => ?_)
    obtain rfl := Option.some.inj h
    exact x_reti F hr hW rfl dX5_call_28
  · have h := hf_9 c_9
    refine lv_aload_n hx hb dX5_call_12 rfl (lv_at hl 1 rfl) ?_
    refine lv_iload_n hx hb dX5_call_13 rfl (lv_at hl 0 rfl) ?_
    obtain ⟨p_14, hc_14, h⟩ := of_bind h
    refine x_Vi (av := [.ref (q 0), .int p_4]) (As := [.int p_4]) F hW (c_X5_refuse l G q w p_4 _ hc_14) [0, 1, 2, 3, 4, 5, 6, 7, 8, 9, 10, 11, 12, 13, 14, 15, 16, 17, 18, 19, 20, 21, 22, 23, 24, 25, 26, 27, 28, 29, 30, 31, 32, 33, 34, 35, 36, 37, 38] rfl rfl (by intro q; cases q) cv_X5_44 rfl ⟨_, rfl, rfl⟩ rfl rfl rfl hl (Nat.le_of_ble_eq_true rfl) ⟨Nat.le_of_ble_eq_true rfl, Nat.le_of_ble_eq_true rfl⟩ ⟨rfl, rfl⟩ ⟨Nat.le_of_ble_eq_true rfl, Nat.le_of_ble_eq_true rfl⟩ dX5_call_14 rfl [some 0, some 1, some 2, some 3, some 4, some 5, some 6, some 7, some 8, some 9, some 10, some 11, some 12, some 13, some 14, some 15, some 16, some 17, some 18, some 19, some 20, some 21, some 22, some 23, some 24, some 25, some 26, some 27, some 28, some 29, some 30, some 31, some 32, some 33, some 34, some 35, some 36, some 37, some 38] rfl (ws' := cEW G q p_14.2) rfl (fun H locs hW => ?_)
    refine lv_goto (tgt := 28) hx hb dX5_call_17 (by decide) ?_
    obtain rfl := Option.some.inj h
    exact x_reti F hr hW rfl dX5_call_28
def f_X5_news (w : EW) (x1 : Int32) (x2 : Int32) : Option (Int32 × EW) :=
  Option.bind (f_X1_isHouse w.1.1 x1) fun p_5 =>
    if p_5 = 0 then
    Option.bind (f_X5_refuse w (-1 : Int32)) fun p_13 =>
    some (p_13.1, p_13.2)
    else
    if x2 = (0 : Int32) then
    Option.bind (f_X4_newsLength w.1 x1) fun p_49 =>
    some (p_49.1, (p_49.2, w.2.1, w.2.2.1, w.2.2.2.1, w.2.2.2.2.1, w.2.2.2.2.2.1, w.2.2.2.2.2.2.1, w.2.2.2.2.2.2.2))
    else
    if x2 = (1 : Int32) then
    Option.bind (f_X4_newsNext w.1 x1) fun p_58 =>
    some (p_58.1, (p_58.2, w.2.1, w.2.2.1, w.2.2.2.1, w.2.2.2.2.1, w.2.2.2.2.2.1, w.2.2.2.2.2.2.1, w.2.2.2.2.2.2.2))
    else
    Option.bind (f_X5_refuse w (-2 : Int32)) fun p_65 =>
    some (p_65.1, p_65.2)
abbrev rmX5_news : Room := { frames := 6, cells := 0, slots := 0, locals := 151 }
set_option maxRecDepth 100000 in
set_option maxHeartbeats 4000000 in
theorem c_X5_news (l : Launch) (G : EnT) (q : Nat → Nat) (w : EW) (x1 : Int32) (x2 : Int32) (o : Int32 × EW) (h : f_X5_news w x1 x2 = some o) : Mi l yX5_news rmX5_news cX5_news 3 (some .int) G false [.ref (q 0), .int x1, .int x2] (cEW G q w) o.1 (cEW G q o.2) := by
  refine Mi_of (by decide) (Nat.le_of_ble_eq_true rfl) ?_
  intro p e s m below meth c A0 F hr hW ls hl
  obtain ⟨hx, hb, hml, hown, hts, hK, hNW, hlocks, hA, hSX⟩ := id F
  have hl : lv_has ls 3 [(0, .ref (q 0)), (1, .int x1), (2, .int x2)] := hl
  have hW : Wd G A0 s (cEW G q w) s.heap [] := hW
  show W p l e rmX5_news s m ([.ref (q 0), .int x1, .int x2] : List Value).toArray below meth c s.heap [] 0 0 (Qi below G (cEW G q o.2) o.1 A0 ([.ref (q 0), .int x1, .int x2] : List Value).toArray s) (F0 m 0 ls [])
  refine lv_aload_n hx hb dX5_news_0 rfl (lv_at hl 0 rfl) ?_
  refine x_get F hW 0 rfl fa_X5_20 rfl dX5_news_1 ?_
  refine lv_iload_n hx hb dX5_news_4 rfl (lv_at hl 1 rfl) ?_
  obtain ⟨p_5, hc_5, h⟩ := of_bind h
  refine x_Vi (av := [.ref (q 2), .int x1]) (As := [.int x1]) F hW (c_X1_isHouse l G (fun i => q (i + 2)) w.1.1 x1 _ hc_5) [2, 3, 4, 5, 6, 7] rfl rfl (by intro q; cases q) cv_X5_74 rfl ⟨_, rfl, rfl⟩ rfl rfl rfl hl (Nat.le_of_ble_eq_true rfl) ⟨Nat.le_of_ble_eq_true rfl, Nat.le_of_ble_eq_true rfl⟩ ⟨rfl, rfl⟩ ⟨Nat.le_of_ble_eq_true rfl, Nat.le_of_ble_eq_true rfl⟩ dX5_news_5 rfl [none, none, some 0, some 1, some 2, some 3, some 4, some 5, none, none, none, none, none, none, none, none, none, none, none, none, none, none, none, none, none, none, none, none, none, none, none, none, none, none, none, none, none, none, none] rfl (ws' := cEW G q w) rfl (fun H locs hW => ?_)
  obtain ⟨ht_8, hf_8⟩ := of_ite h
  refine lv_if_ne (tgt := 17) hx hb dX5_news_8 (by decide) (fun c_8 => ?_) (fun c_8 => ?_)
  · have h := hf_8 c_8
    refine lv_iload_n hx hb dX5_news_17 rfl (lv_at hl 2 rfl) ?_
    obtain ⟨ht_18_0, h⟩ := of_ite h
    by_cases c_18_0 : x2 = (0 : Int32)
    · have h := ht_18_0 c_18_0
      refine x_lookIn c_18_0 hx hb dX5_news_18 rfl (off := (26)) rfl (tgt := 44) (by decide) ?_
      refine lv_aload_n hx hb dX5_news_44 rfl (lv_at hl 0 rfl) ?_
      refine x_get F hW 0 rfl fa_X5_10 rfl dX5_news_45 ?_
      refine lv_iload_n hx hb dX5_news_48 rfl (lv_at hl 1 rfl) ?_
      obtain ⟨p_49, hc_49, h⟩ := of_bind h
      refine x_Vi (av := [.ref (q 1), .int x1]) (As := [.int x1]) F hW (c_X4_newsLength l G (fun i => q (i + 1)) w.1 x1 _ hc_49) [1, 2, 3, 4, 5, 6, 7, 8, 9, 10, 11, 12, 13, 14, 15, 16, 17, 18, 19, 20, 21, 22] rfl rfl (by intro q; cases q) cv_X5_191 rfl ⟨_, rfl, rfl⟩ rfl rfl rfl hl (Nat.le_of_ble_eq_true rfl) ⟨Nat.le_of_ble_eq_true rfl, Nat.le_of_ble_eq_true rfl⟩ ⟨rfl, rfl⟩ ⟨Nat.le_of_ble_eq_true rfl, Nat.le_of_ble_eq_true rfl⟩ dX5_news_49 rfl [none, some 0, some 1, some 2, some 3, some 4, some 5, some 6, some 7, some 8, some 9, some 10, some 11, some 12, some 13, some 14, some 15, some 16, some 17, some 18, some 19, some 20, some 21, none, none, none, none, none, none, none, none, none, none, none, none, none, none, none, none] rfl (ws' := cEW G q (p_49.2, w.2.1, w.2.2.1, w.2.2.2.1, w.2.2.2.2.1, w.2.2.2.2.2.1, w.2.2.2.2.2.2.1, w.2.2.2.2.2.2.2)) rfl (fun H locs hW => ?_)
      obtain rfl := Option.some.inj h
      exact x_reti F hr hW rfl dX5_news_52
    have h := h c_18_0
    obtain ⟨ht_18_1, h⟩ := of_ite h
    by_cases c_18_1 : x2 = (1 : Int32)
    · have h := ht_18_1 c_18_1
      refine x_lookIn c_18_1 hx hb dX5_news_18 rfl (off := (35)) rfl (tgt := 53) (by decide) ?_
      refine lv_aload_n hx hb dX5_news_53 rfl (lv_at hl 0 rfl) ?_
      refine x_get F hW 0 rfl fa_X5_10 rfl dX5_news_54 ?_
      refine lv_iload_n hx hb dX5_news_57 rfl (lv_at hl 1 rfl) ?_
      obtain ⟨p_58, hc_58, h⟩ := of_bind h
      refine x_Vi (av := [.ref (q 1), .int x1]) (As := [.int x1]) F hW (c_X4_newsNext l G (fun i => q (i + 1)) w.1 x1 _ hc_58) [1, 2, 3, 4, 5, 6, 7, 8, 9, 10, 11, 12, 13, 14, 15, 16, 17, 18, 19, 20, 21, 22] rfl rfl (by intro q; cases q) cv_X5_194 rfl ⟨_, rfl, rfl⟩ rfl rfl rfl hl (Nat.le_of_ble_eq_true rfl) ⟨Nat.le_of_ble_eq_true rfl, Nat.le_of_ble_eq_true rfl⟩ ⟨rfl, rfl⟩ ⟨Nat.le_of_ble_eq_true rfl, Nat.le_of_ble_eq_true rfl⟩ dX5_news_58 rfl [none, some 0, some 1, some 2, some 3, some 4, some 5, some 6, some 7, some 8, some 9, some 10, some 11, some 12, some 13, some 14, some 15, some 16, some 17, some 18, some 19, some 20, some 21, none, none, none, none, none, none, none, none, none, none, none, none, none, none, none, none] rfl (ws' := cEW G q (p_58.2, w.2.1, w.2.2.1, w.2.2.2.1, w.2.2.2.2.1, w.2.2.2.2.2.1, w.2.2.2.2.2.2.1, w.2.2.2.2.2.2.2)) rfl (fun H locs hW => ?_)
      obtain rfl := Option.some.inj h
      exact x_reti F hr hW rfl dX5_news_61
    have h := h c_18_1
    refine lv_lookup (off := 44) hx hb dX5_news_18 rfl (by have z0 := x_ne c_18_0 (z := 0) (by decide); have z1 := x_ne c_18_1 (z := 1) (by decide); simp [Op.lookupswitch.offset, z0, Ne.symm z0, z1, Ne.symm z1]) (tgt := 62) (by decide) ?_
    refine lv_aload_n hx hb dX5_news_62 rfl (lv_at hl 0 rfl) ?_
    refine lv_bipush (v := (-2 : Int32)) hx hb dX5_news_63 (by decide) ?_
    obtain ⟨p_65, hc_65, h⟩ := of_bind h
    refine x_Vi (av := [.ref (q 0), .int (-2 : Int32)]) (As := [.int (-2 : Int32)]) F hW (c_X5_refuse l G q w (-2 : Int32) _ hc_65) [0, 1, 2, 3, 4, 5, 6, 7, 8, 9, 10, 11, 12, 13, 14, 15, 16, 17, 18, 19, 20, 21, 22, 23, 24, 25, 26, 27, 28, 29, 30, 31, 32, 33, 34, 35, 36, 37, 38] rfl rfl (by intro q; cases q) cv_X5_44 rfl ⟨_, rfl, rfl⟩ rfl rfl rfl hl (Nat.le_of_ble_eq_true rfl) ⟨Nat.le_of_ble_eq_true rfl, Nat.le_of_ble_eq_true rfl⟩ ⟨rfl, rfl⟩ ⟨Nat.le_of_ble_eq_true rfl, Nat.le_of_ble_eq_true rfl⟩ dX5_news_65 rfl [some 0, some 1, some 2, some 3, some 4, some 5, some 6, some 7, some 8, some 9, some 10, some 11, some 12, some 13, some 14, some 15, some 16, some 17, some 18, some 19, some 20, some 21, some 22, some 23, some 24, some 25, some 26, some 27, some 28, some 29, some 30, some 31, some 32, some 33, some 34, some 35, some 36, some 37, some 38] rfl (ws' := cEW G q p_65.2) rfl (fun H locs hW => ?_)
    obtain rfl := Option.some.inj h
    exact x_reti F hr hW rfl dX5_news_68
  · have h := ht_8 c_8
    refine lv_aload_n hx hb dX5_news_11 rfl (lv_at hl 0 rfl) ?_
    refine lv_iconst (v := (-1 : Int32)) hx hb dX5_news_12 (by decide) ?_
    obtain ⟨p_13, hc_13, h⟩ := of_bind h
    refine x_Vi (av := [.ref (q 0), .int (-1 : Int32)]) (As := [.int (-1 : Int32)]) F hW (c_X5_refuse l G q w (-1 : Int32) _ hc_13) [0, 1, 2, 3, 4, 5, 6, 7, 8, 9, 10, 11, 12, 13, 14, 15, 16, 17, 18, 19, 20, 21, 22, 23, 24, 25, 26, 27, 28, 29, 30, 31, 32, 33, 34, 35, 36, 37, 38] rfl rfl (by intro q; cases q) cv_X5_44 rfl ⟨_, rfl, rfl⟩ rfl rfl rfl hl (Nat.le_of_ble_eq_true rfl) ⟨Nat.le_of_ble_eq_true rfl, Nat.le_of_ble_eq_true rfl⟩ ⟨rfl, rfl⟩ ⟨Nat.le_of_ble_eq_true rfl, Nat.le_of_ble_eq_true rfl⟩ dX5_news_13 rfl [some 0, some 1, some 2, some 3, some 4, some 5, some 6, some 7, some 8, some 9, some 10, some 11, some 12, some 13, some 14, some 15, some 16, some 17, some 18, some 19, some 20, some 21, some 22, some 23, some 24, some 25, some 26, some 27, some 28, some 29, some 30, some 31, some 32, some 33, some 34, some 35, some 36, some 37, some 38] rfl (ws' := cEW G q p_13.2) rfl (fun H locs hW => ?_)
    obtain rfl := Option.some.inj h
    exact x_reti F hr hW rfl dX5_news_16
def f_X5_farthest (w : EW) : Option (Int32 × EW) :=
  Option.bind (f_X4_farthestHouse w.1) fun p_4 =>
    some (p_4.1, (p_4.2, w.2.1, w.2.2.1, w.2.2.2.1, w.2.2.2.2.1, w.2.2.2.2.2.1, w.2.2.2.2.2.2.1, w.2.2.2.2.2.2.2))
abbrev rmX5_farthest : Room := { frames := 6, cells := 0, slots := 0, locals := 152 }
set_option maxRecDepth 100000 in
set_option maxHeartbeats 4000000 in
theorem c_X5_farthest (l : Launch) (G : EnT) (q : Nat → Nat) (w : EW) (o : Int32 × EW) (h : f_X5_farthest w = some o) : Mi l yX5_farthest rmX5_farthest cX5_farthest 1 (some .int) G false [.ref (q 0)] (cEW G q w) o.1 (cEW G q o.2) := by
  refine Mi_of (by decide) (Nat.le_of_ble_eq_true rfl) ?_
  intro p e s m below meth c A0 F hr hW ls hl
  obtain ⟨hx, hb, hml, hown, hts, hK, hNW, hlocks, hA, hSX⟩ := id F
  have hl : lv_has ls 1 [(0, .ref (q 0))] := hl
  have hW : Wd G A0 s (cEW G q w) s.heap [] := hW
  show W p l e rmX5_farthest s m ([.ref (q 0)] : List Value).toArray below meth c s.heap [] 0 0 (Qi below G (cEW G q o.2) o.1 A0 ([.ref (q 0)] : List Value).toArray s) (F0 m 0 ls [])
  refine lv_aload_n hx hb dX5_farthest_0 rfl (lv_at hl 0 rfl) ?_
  refine x_get F hW 0 rfl fa_X5_10 rfl dX5_farthest_1 ?_
  obtain ⟨p_4, hc_4, h⟩ := of_bind h
  refine x_Vi (av := [.ref (q 1)]) (As := []) F hW (c_X4_farthestHouse l G (fun i => q (i + 1)) w.1 _ hc_4) [1, 2, 3, 4, 5, 6, 7, 8, 9, 10, 11, 12, 13, 14, 15, 16, 17, 18, 19, 20, 21, 22] rfl rfl (by intro q; cases q) cv_X5_197 rfl ⟨_, rfl, rfl⟩ rfl rfl rfl hl (Nat.le_of_ble_eq_true rfl) ⟨Nat.le_of_ble_eq_true rfl, Nat.le_of_ble_eq_true rfl⟩ ⟨rfl, rfl⟩ ⟨Nat.le_of_ble_eq_true rfl, Nat.le_of_ble_eq_true rfl⟩ dX5_farthest_4 rfl [none, some 0, some 1, some 2, some 3, some 4, some 5, some 6, some 7, some 8, some 9, some 10, some 11, some 12, some 13, some 14, some 15, some 16, some 17, some 18, some 19, some 20, some 21, none, none, none, none, none, none, none, none, none, none, none, none, none, none, none, none] rfl (ws' := cEW G q (p_4.2, w.2.1, w.2.2.1, w.2.2.2.1, w.2.2.2.2.1, w.2.2.2.2.2.1, w.2.2.2.2.2.2.1, w.2.2.2.2.2.2.2)) rfl (fun H locs hW => ?_)
  obtain rfl := Option.some.inj h
  exact x_reti F hr hW rfl dX5_farthest_7
def f_X5_spend (w : EW) (x1 : Int32) : Option (Int32 × EW) :=
  Option.bind (f_X5_outside x1 (0 : Int32) (60 : Int32)) fun p_4 =>
    if p_4 = 0 then
    Option.bind (f_X4_burntIn w.1 x1) fun p_25 =>
    some (p_25.1, (p_25.2, w.2.1, w.2.2.1, w.2.2.2.1, w.2.2.2.2.1, w.2.2.2.2.2.1, w.2.2.2.2.2.2.1, w.2.2.2.2.2.2.2))
    else
    Option.bind (f_X5_refuse w p_4) fun p_14 =>
    some (p_14.1, p_14.2)
abbrev rmX5_spend : Room := { frames := 5, cells := 0, slots := 0, locals := 108 }
set_option maxRecDepth 100000 in
set_option maxHeartbeats 4000000 in
theorem c_X5_spend (l : Launch) (G : EnT) (q : Nat → Nat) (w : EW) (x1 : Int32) (o : Int32 × EW) (h : f_X5_spend w x1 = some o) : Mi l yX5_spend rmX5_spend cX5_spend 3 (some .int) G false [.ref (q 0), .int x1] (cEW G q w) o.1 (cEW G q o.2) := by
  refine Mi_of (by decide) (Nat.le_of_ble_eq_true rfl) ?_
  intro p e s m below meth c A0 F hr hW ls hl
  obtain ⟨hx, hb, hml, hown, hts, hK, hNW, hlocks, hA, hSX⟩ := id F
  have hl : lv_has ls 3 [(0, .ref (q 0)), (1, .int x1)] := hl
  have hW : Wd G A0 s (cEW G q w) s.heap [] := hW
  show W p l e rmX5_spend s m ([.ref (q 0), .int x1] : List Value).toArray below meth c s.heap [] 0 0 (Qi below G (cEW G q o.2) o.1 A0 ([.ref (q 0), .int x1] : List Value).toArray s) (F0 m 0 ls [])
  refine lv_iload_n hx hb dX5_spend_0 rfl (lv_at hl 1 rfl) ?_
  refine lv_iconst (v := (0 : Int32)) hx hb dX5_spend_1 (by decide) ?_
  refine lv_bipush (v := (60 : Int32)) hx hb dX5_spend_2 (by decide) ?_
  obtain ⟨p_4, hc_4, h⟩ := of_bind h
  refine x_Si (av := [.int x1, .int (0 : Int32), .int (60 : Int32)]) F hW (c_X5_outside l G x1 (0 : Int32) (60 : Int32) _ hc_4) [] rfl rfl (by intro q; cases q) cs_X5_108 rfl rfl hl (Nat.le_of_ble_eq_true rfl) ⟨Nat.le_of_ble_eq_true rfl, Nat.le_of_ble_eq_true rfl⟩ ⟨rfl, rfl⟩ ⟨Nat.le_of_ble_eq_true rfl, Nat.le_of_ble_eq_true rfl⟩ dX5_spend_4 rfl [none, none, none, none, none, none, none, none, none, none, none, none, none, none, none, none, none, none, none, none, none, none, none, none, none, none, none, none, none, none, none, none, none, none, none, none, none, none, none] rfl (ws' := cEW G q w) rfl (fun H locs hW => ?_)
  refine lv_istore_n (lv' := [(2, .int p_4), (0, .ref (q 0)), (1, .int x1)]) hx hb dX5_spend_7 rfl hl (by decide) rfl (fun ls hl => ?_)
  refine lv_iload_n hx hb dX5_spend_8 rfl (lv_at hl 0 rfl) ?_
  obtain ⟨ht_9, hf_9⟩ := of_ite h
  refine lv_if_eq (tgt := 20) hx hb dX5_spend_9 (by decide) (fun c_9 => ?_) (fun c_9 => ?_)
  · have h := ht_9 c_9
    refine lv_aload_n hx hb dX5_spend_20 rfl (lv_at hl 1 rfl) ?_
    refine x_get F hW 0 rfl fa_X5_10 rfl dX5_spend_21 ?_
    refine lv_iload_n hx hb dX5_spend_24 rfl (lv_at hl 2 rfl) ?_
    obtain ⟨p_25, hc_25, h⟩ := of_bind h
    refine x_Vi (av := [.ref (q 1), .int x1]) (As := [.int x1]) F hW (c_X4_burntIn l G (fun i => q (i + 1)) w.1 x1 _ hc_25) [1, 2, 3, 4, 5, 6, 7, 8, 9, 10, 11, 12, 13, 14, 15, 16, 17, 18, 19, 20, 21, 22] rfl rfl (by intro q; cases q) cv_X5_200 rfl ⟨_, rfl, rfl⟩ rfl rfl rfl hl (Nat.le_of_ble_eq_true rfl) ⟨Nat.le_of_ble_eq_true rfl, Nat.le_of_ble_eq_true rfl⟩ ⟨rfl, rfl⟩ ⟨Nat.le_of_ble_eq_true rfl, Nat.le_of_ble_eq_true rfl⟩ dX5_spend_25 rfl [none, some 0, some 1, some 2, some 3, some 4, some 5, some 6, some 7, some 8, some 9, some 10, some 11, some 12, some 13, some 14, some 15, some 16, some 17, some 18, some 19, some 20, some 21, none, none, none, none, none, none, none, none, none, none, none, none, none, none, none, none] rfl (ws' := cEW G q (p_25.2, w.2.1, w.2.2.1, w.2.2.2.1, w.2.2.2.2.1, w.2.2.2.2.2.1, w.2.2.2.2.2.2.1, w.2.2.2.2.2.2.2)) rfl (fun H locs hW => ?_)
    obtain rfl := Option.some.inj h
    exact x_reti F hr hW rfl dX5_spend_28
  · have h := hf_9 c_9
    refine lv_aload_n hx hb dX5_spend_12 rfl (lv_at hl 1 rfl) ?_
    refine lv_iload_n hx hb dX5_spend_13 rfl (lv_at hl 0 rfl) ?_
    obtain ⟨p_14, hc_14, h⟩ := of_bind h
    refine x_Vi (av := [.ref (q 0), .int p_4]) (As := [.int p_4]) F hW (c_X5_refuse l G q w p_4 _ hc_14) [0, 1, 2, 3, 4, 5, 6, 7, 8, 9, 10, 11, 12, 13, 14, 15, 16, 17, 18, 19, 20, 21, 22, 23, 24, 25, 26, 27, 28, 29, 30, 31, 32, 33, 34, 35, 36, 37, 38] rfl rfl (by intro q; cases q) cv_X5_44 rfl ⟨_, rfl, rfl⟩ rfl rfl rfl hl (Nat.le_of_ble_eq_true rfl) ⟨Nat.le_of_ble_eq_true rfl, Nat.le_of_ble_eq_true rfl⟩ ⟨rfl, rfl⟩ ⟨Nat.le_of_ble_eq_true rfl, Nat.le_of_ble_eq_true rfl⟩ dX5_spend_14 rfl [some 0, some 1, some 2, some 3, some 4, some 5, some 6, some 7, some 8, some 9, some 10, some 11, some 12, some 13, some 14, some 15, some 16, some 17, some 18, some 19, some 20, some 21, some 22, some 23, some 24, some 25, some 26, some 27, some 28, some 29, some 30, some 31, some 32, some 33, some 34, some 35, some 36, some 37, some 38] rfl (ws' := cEW G q p_14.2) rfl (fun H locs hW => ?_)
    refine lv_goto (tgt := 28) hx hb dX5_spend_17 (by decide) ?_
    obtain rfl := Option.some.inj h
    exact x_reti F hr hW rfl dX5_spend_28
