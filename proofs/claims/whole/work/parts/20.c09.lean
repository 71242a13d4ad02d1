def f_X5_mist_70 (x1 : Int32) (x2 : Int32) (x3 : Int32) (x4 : Int32) (w_70 : EW) : Option (Int64 × EW) :=
  Option.bind (f_X4_mistAbove w_70.1 x1 x2 x3) fun p_77 =>
    Option.bind (f_X5_power (x3.toInt64) x2) fun p_83 =>
    Option.bind (f_X5_inLeastTerms p_77.1 p_83 x4) fun p_88 =>
    some (p_88, (p_77.2, w_70.2.1, w_70.2.2.1, w_70.2.2.2.1, w_70.2.2.2.2.1, w_70.2.2.2.2.2.1, w_70.2.2.2.2.2.2.1, w_70.2.2.2.2.2.2.2))
def f_X5_mist (w : EW) (x1 : Int32) (x2 : Int32) (x3 : Int32) (x4 : Int32) : Option (Int64 × EW) :=
  Option.bind (f_X1_isHouse w.1.1 x1) fun p_5 =>
    if p_5 = 0 then
    Option.bind (f_X5_refuseLong w (-1 : Int32)) fun p_13 =>
    some (p_13.1, p_13.2)
    else
    if x2 < 0 then
    Option.bind (f_X5_refuseLong w (-4 : Int32)) fun p_29 =>
    some (p_29.1, p_29.2)
    else
    if (2 : Int32) ≤ x3 then
    if (7 : Int32) < x2 then
    Option.bind (f_X5_refuseLong w (-6 : Int32)) fun p_48 =>
    some (p_48.1, p_48.2)
    else
    if x3 ≤ (20 : Int32) then
    if x4 = 0 then
    f_X5_mist_70 x1 x2 x3 x4 w
    else
    if x4 = (1 : Int32) then
    f_X5_mist_70 x1 x2 x3 x4 w
    else
    Option.bind (f_X5_refuseLong w (-2 : Int32)) fun p_66 =>
    some (p_66.1, p_66.2)
    else
    Option.bind (f_X5_refuseLong w (-6 : Int32)) fun p_48_2 =>
    some (p_48_2.1, p_48_2.2)
    else
    Option.bind (f_X5_refuseLong w (-4 : Int32)) fun p_29_2 =>
    some (p_29_2.1, p_29_2.2)
abbrev rmX5_mist : Room := { frames := 5, cells := 0, slots := 0, locals := 134 }
set_option maxRecDepth 100000 in
set_option maxHeartbeats 4000000 in
theorem c_X5_mist (l : Launch) (G : EnT) (q : Nat → Nat) (w : EW) (x1 : Int32) (x2 : Int32) (x3 : Int32) (x4 : Int32) (o : Int64 × EW) (h : f_X5_mist w x1 x2 x3 x4 = some o) : Ml l yX5_mist rmX5_mist cX5_mist 5 (some .long) G false [.ref (q 0), .int x1, .int x2, .int x3, .int x4] (cEW G q w) o.1 (cEW G q o.2) := by
  refine Ml_of (by decide) (Nat.le_of_ble_eq_true rfl) ?_
  intro p e s m below meth c A0 F hr hW ls hl
  obtain ⟨hx, hb, hml, hown, hts, hK, hNW, hlocks, hA, hSX⟩ := id F
  have hl : lv_has ls 5 [(0, .ref (q 0)), (1, .int x1), (2, .int x2), (3, .int x3), (4, .int x4)] := hl
  have hW : Wd G A0 s (cEW G q w) s.heap [] := hW
  show W p l e rmX5_mist s m ([.ref (q 0), .int x1, .int x2, .int x3, .int x4] : List Value).toArray below meth c s.heap [] 0 0 (Ql below G (cEW G q o.2) o.1 A0 ([.ref (q 0), .int x1, .int x2, .int x3, .int x4] : List Value).toArray s) (F0 m 0 ls [])
  have J0 : ∀ (w_70 : EW) (H : Heap) (locs : List Loc) (ls : Array Slot), f_X5_mist_70 x1 x2 x3 x4 w_70 = some o → Wd G A0 s (cEW G q w_70) H locs → lv_has ls 5 [(0, .ref (q 0)), (1, .int x1), (2, .int x2), (3, .int x3), (4, .int x4)] → W p l e rmX5_mist s m ([.ref (q 0), .int x1, .int x2, .int x3, .int x4] : List Value).toArray below meth c H locs 0 0 (Ql below G (cEW G q o.2) o.1 A0 ([.ref (q 0), .int x1, .int x2, .int x3, .int x4] : List Value).toArray s) (F0 m 70 ls []) := by
    intro w_70 H locs ls h hW hl
    refine lv_aload_n hx hb dX5_mist_70 rfl (lv_at hl 0 rfl) ?_
    refine x_get F hW 0 rfl fa_X5_10 rfl dX5_mist_71 ?_
    refine lv_iload_n hx hb dX5_mist_74 rfl (lv_at hl 1 rfl) ?_
    refine lv_iload_n hx hb dX5_mist_75 rfl (lv_at hl 2 rfl) ?_
    refine lv_iload_n hx hb dX5_mist_76 rfl (lv_at hl 3 rfl) ?_
    obtain ⟨p_77, hc_77, h⟩ := of_bind h
    refine x_Vl (av := [.ref (q 1), .int x1, .int x2, .int x3]) (As := [.int x1, .int x2, .int x3]) F hW (c_X4_mistAbove l G (fun i => q (i + 1)) w_70.1 x1 x2 x3 _ hc_77) [1, 2, 3, 4, 5, 6, 7, 8, 9, 10, 11, 12, 13, 14, 15, 16, 17, 18, 19, 20, 21, 22] rfl rfl (by intro q; cases q) cv_X5_219 rfl ⟨_, rfl, rfl⟩ rfl rfl rfl hl (Nat.le_of_ble_eq_true rfl) ⟨Nat.le_of_ble_eq_true rfl, Nat.le_of_ble_eq_true rfl⟩ ⟨rfl, rfl⟩ ⟨Nat.le_of_ble_eq_true rfl, Nat.le_of_ble_eq_true rfl⟩ dX5_mist_77 rfl [none, some 0, some 1, some 2, some 3, some 4, some 5, some 6, some 7, some 8, some 9, some 10, some 11, some 12, some 13, some 14, some 15, some 16, some 17, some 18, some 19, some 20, some 21, none, none, none, none, none, none, none, none, none, none, none, none, none, none, none, none] rfl (ws' := cEW G q (p_77.2, w_70.2.1, w_70.2.2.1, w_70.2.2.2.1, w_70.2.2.2.2.1, w_70.2.2.2.2.2.1, w_70.2.2.2.2.2.2.1, w_70.2.2.2.2.2.2.2)) rfl (fun H locs hW => ?_)
    refine lv_iload_n hx hb dX5_mist_80 rfl (lv_at hl 3 rfl) ?_
    refine lv_i2l (v := (x3.toInt64)) hx hb dX5_mist_81 rfl ?_
    refine lv_iload_n hx hb dX5_mist_82 rfl (lv_at hl 2 rfl) ?_
    obtain ⟨p_83, hc_83, h⟩ := of_bind h
    refine x_Sl (av := [.long (x3.toInt64), .int x2]) F hW (c_X5_power l G (x3.toInt64) x2 _ hc_83) [] rfl rfl (by intro q; cases q) cs_X5_223 rfl rfl hl (Nat.le_of_ble_eq_true rfl) ⟨Nat.le_of_ble_eq_true rfl, Nat.le_of_ble_eq_true rfl⟩ ⟨rfl, rfl⟩ ⟨Nat.le_of_ble_eq_true rfl, Nat.le_of_ble_eq_true rfl⟩ dX5_mist_83 rfl [none, none, none, none, none, none, none, none, none, none, none, none, none, none, none, none, none, none, none, none, none, none, none, none, none, none, none, none, none, none, none, none, none, none, none, none, none, none, none] rfl (ws' := cEW G q (p_77.2, w_70.2.1, w_70.2.2.1, w_70.2.2.2.1, w_70.2.2.2.2.1, w_70.2.2.2.2.2.1, w_70.2.2.2.2.2.2.1, w_70.2.2.2.2.2.2.2)) rfl (fun H locs hW => ?_)
    refine lv_iload hx hb dX5_mist_86 (lv_at hl 4 rfl) ?_
    obtain ⟨p_88, hc_88, h⟩ := of_bind h
    refine x_Sl (av := [.long p_77.1, .long p_83, .int x4]) F hW (c_X5_inLeastTerms l G p_77.1 p_83 x4 _ hc_88) [] rfl rfl (by intro q; cases q) cs_X5_227 rfl rfl hl (Nat.le_of_ble_eq_true rfl) ⟨Nat.le_of_ble_eq_true rfl, Nat.le_of_ble_eq_true rfl⟩ ⟨rfl, rfl⟩ ⟨Nat.le_of_ble_eq_true rfl, Nat.le_of_ble_eq_true rfl⟩ dX5_mist_88 rfl [none, none, none, none, none, none, none, none, none, none, none, none, none, none, none, none, none, none, none, none, none, none, none, none, none, none, none, none, none, none, none, none, none, none, none, none, none, none, none] rfl (ws' := cEW G q (p_77.2, w_70.2.1, w_70.2.2.1, w_70.2.2.2.1, w_70.2.2.2.2.1, w_70.2.2.2.2.2.1, w_70.2.2.2.2.2.2.1, w_70.2.2.2.2.2.2.2)) rfl (fun H locs hW => ?_)
    obtain rfl := Option.some.inj h
    exact x_retl F hr hW rfl dX5_mist_91
  refine lv_aload_n hx hb dX5_mist_0 rfl (lv_at hl 0 rfl) ?_
  refine x_get F hW 0 rfl fa_X5_20 rfl dX5_mist_1 ?_
  refine lv_iload_n hx hb dX5_mist_4 rfl (lv_at hl 1 rfl) ?_
  obtain ⟨p_5, hc_5, h⟩ := of_bind h
  refine x_Vi (av := [.ref (q 2), .int x1]) (As := [.int x1]) F hW (c_X1_isHouse l G (fun i => q (i + 2)) w.1.1 x1 _ hc_5) [2, 3, 4, 5, 6, 7] rfl rfl (by intro q; cases q) cv_X5_74 rfl ⟨_, rfl, rfl⟩ rfl rfl rfl hl (Nat.le_of_ble_eq_true rfl) ⟨Nat.le_of_ble_eq_true rfl, Nat.le_of_ble_eq_true rfl⟩ ⟨rfl, rfl⟩ ⟨Nat.le_of_ble_eq_true rfl, Nat.le_of_ble_eq_true rfl⟩ dX5_mist_5 rfl [none, none, some 0, some 1, some 2, some 3, some 4, some 5, none, none, none, none, none, none, none, none, none, none, none, none, none, none, none, none, none, none, none, none, none, none, none, none, none, none, none, none, none, none, none] rfl (ws' := cEW G q w) rfl (fun H locs hW => ?_)
  obtain ⟨ht_8, hf_8⟩ := of_ite h
  refine lv_if_ne (tgt := 17) hx hb dX5_mist_8 (by decide) (fun c_8 => ?_) (fun c_8 => ?_)
  · have h := hf_8 c_8
    refine lv_iload_n hx hb dX5_mist_17 rfl (lv_at hl 2 rfl) ?_
    obtain ⟨ht_18, hf_18⟩ := of_ite h
    refine lv_if_lt (tgt := 26) hx hb dX5_mist_18 (by decide) (fun c_18 => ?_) (fun c_18 => ?_)
    · have h := ht_18 c_18
      refine lv_aload_n hx hb dX5_mist_26 rfl (lv_at hl 0 rfl) ?_
      refine lv_bipush (v := (-4 : Int32)) hx hb dX5_mist_27 (by decide) ?_
      obtain ⟨p_29, hc_29, h⟩ := of_bind h
      refine x_Vl (av := [.ref (q 0), .int (-4 : Int32)]) (As := [.int (-4 : Int32)]) F hW (c_X5_refuseLong l G q w (-4 : Int32) _ hc_29) [0, 1, 2, 3, 4, 5, 6, 7, 8, 9, 10, 11, 12, 13, 14, 15, 16, 17, 18, 19, 20, 21, 22, 23, 24, 25, 26, 27, 28, 29, 30, 31, 32, 33, 34, 35, 36, 37, 38] rfl rfl (by intro q; cases q) cv_X5_215 rfl ⟨_, rfl, rfl⟩ rfl rfl rfl hl (Nat.le_of_ble_eq_true rfl) ⟨Nat.le_of_ble_eq_true rfl, Nat.le_of_ble_eq_true rfl⟩ ⟨rfl, rfl⟩ ⟨Nat.le_of_ble_eq_true rfl, Nat.le_of_ble_eq_true rfl⟩ dX5_mist_29 rfl [some 0, some 1, some 2, some 3, some 4, some 5, some 6, some 7, some 8, some 9, some 10, some 11, some 12, some 13, some 14, some 15, some 16, some 17, some 18, some 19, some 20, some 21, some 22, some 23, some 24, some 25, some 26, some 27, some 28, some 29, some 30, some 31, some 32, some 33, some 34, some 35, some 36, some 37, some 38] rfl (ws' := cEW G q p_29.2) rfl (fun H locs hW => ?_)
      obtain rfl := Option.some.inj h
      exact x_retl F hr hW rfl dX5_mist_32
    · have h := hf_18 c_18
      refine lv_iload_n hx hb dX5_mist_21 rfl (lv_at hl 3 rfl) ?_
      refine lv_iconst (v := (2 : Int32)) hx hb dX5_mist_22 (by decide) ?_
      obtain ⟨ht_23, hf_23⟩ := of_ite h
      refine lv_icmp_ge (tgt := 33) hx hb dX5_mist_23 (by decide) (fun c_23 => ?_) (fun c_23 => ?_)
      · have h := ht_23 c_23
        refine lv_iload_n hx hb dX5_mist_33 rfl (lv_at hl 2 rfl) ?_
        refine lv_bipush (v := (7 : Int32)) hx hb dX5_mist_34 (by decide) ?_
        obtain ⟨ht_36, hf_36⟩ := of_ite h
        refine lv_icmp_gt (tgt := 45) hx hb dX5_mist_36 (by decide) (fun c_36 => ?_) (fun c_36 => ?_)
        · have h := ht_36 c_36
          refine lv_aload_n hx hb dX5_mist_45 rfl (lv_at hl 0 rfl) ?_
          refine lv_bipush (v := (-6 : Int32)) hx hb dX5_mist_46 (by decide) ?_
          obtain ⟨p_48, hc_48, h⟩ := of_bind h
          refine x_Vl (av := [.ref (q 0), .int (-6 : Int32)]) (As := [.int (-6 : Int32)]) F hW (c_X5_refuseLong l G q w (-6 : Int32) _ hc_48) [0, 1, 2, 3, 4, 5, 6, 7, 8, 9, 10, 11, 12, 13, 14, 15, 16, 17, 18, 19, 20, 21, 22, 23, 24, 25, 26, 27, 28, 29, 30, 31, 32, 33, 34, 35, 36, 37, 38] rfl rfl (by intro q; cases q) cv_X5_215 rfl ⟨_, rfl, rfl⟩ rfl rfl rfl hl (Nat.le_of_ble_eq_true rfl) ⟨Nat.le_of_ble_eq_true rfl, Nat.le_of_ble_eq_true rfl⟩ ⟨rfl, rfl⟩ ⟨Nat.le_of_ble_eq_true rfl, Nat.le_of_ble_eq_true rfl⟩ dX5_mist_48 rfl [some 0, some 1, some 2, some 3, some 4, some 5, some 6, some 7, some 8, some 9, some 10, some 11, some 12, some 13, some 14, some 15, some 16, some 17, some 18, some 19, some 20, some 21, some 22, some 23, some 24, some 25, some 26, some 27, some 28, some 29, some 30, some 31, some 32, some 33, some 34, some 35, some 36, some 37, some 38] rfl (ws' := cEW G q p_48.2) rfl (fun H locs hW => ?_)
          obtain rfl := Option.some.inj h
          exact x_retl F hr hW rfl dX5_mist_51
        · have h := hf_36 c_36
          refine lv_iload_n hx hb dX5_mist_39 rfl (lv_at hl 3 rfl) ?_
          refine lv_bipush (v := (20 : Int32)) hx hb dX5_mist_40 (by decide) ?_
          obtain ⟨ht_42, hf_42⟩ := of_ite h
          refine lv_icmp_le (tgt := 52) hx hb dX5_mist_42 (by decide) (fun c_42 => ?_) (fun c_42 => ?_)
          · have h := ht_42 c_42
            refine lv_iload hx hb dX5_mist_52 (lv_at hl 4 rfl) ?_
            obtain ⟨ht_54, hf_54⟩ := of_ite h
            refine lv_if_eq (tgt := 70) hx hb dX5_mist_54 (by decide) (fun c_54 => ?_) (fun c_54 => ?_)
            · have h := ht_54 c_54
              exact J0 w _ _ _ h hW (lv_sub hl [0, 1, 2, 3, 4] rfl)
            · have h := hf_54 c_54
              refine lv_iload hx hb dX5_mist_57 (lv_at hl 4 rfl) ?_
              refine lv_iconst (v := (1 : Int32)) hx hb dX5_mist_59 (by decide) ?_
              obtain ⟨ht_60, hf_60⟩ := of_ite h
              refine lv_icmp_eq (tgt := 70) hx hb dX5_mist_60 (by decide) (fun c_60 => ?_) (fun c_60 => ?_)
              · have h := ht_60 c_60
                exact J0 w _ _ _ h hW (lv_sub hl [0, 1, 2, 3, 4] rfl)
              · have h := hf_60 c_60
                refine lv_aload_n hx hb dX5_mist_63 rfl (lv_at hl 0 rfl) ?_
                refine lv_bipush (v := (-2 : Int32)) hx hb dX5_mist_64 (by decide) ?_
                obtain ⟨p_66, hc_66, h⟩ := of_bind h
                refine x_Vl (av := [.ref (q 0), .int (-2 : Int32)]) (As := [.int (-2 : Int32)]) F hW (c_X5_refuseLong l G q w (-2 : Int32) _ hc_66) [0, 1, 2, 3, 4, 5, 6, 7, 8, 9, 10, 11, 12, 13, 14, 15, 16, 17, 18, 19, 20, 21, 22, 23, 24, 25, 26, 27, 28, 29, 30, 31, 32, 33, 34, 35, 36, 37, 38] rfl rfl (by intro q; cases q) cv_X5_215 rfl ⟨_, rfl, rfl⟩ rfl rfl rfl hl (Nat.le_of_ble_eq_true rfl) ⟨Nat.le_of_ble_eq_true rfl, Nat.le_of_ble_eq_true rfl⟩ ⟨rfl, rfl⟩ ⟨Nat.le_of_ble_eq_true rfl, Nat.le_of_ble_eq_true rfl⟩ dX5_mist_66 rfl [some 0, some 1, some 2, some 3, some 4, some 5, some 6, some 7, some 8, some 9, some 10, some 11, some 12, some 13, some 14, some 15, some 16, some 17, some 18, some 19, some 20, some 21, some 22, some 23, some 24, some 25, some 26, some 27, some 28, some 29, some 30, some 31, some 32, some 33, some 34, some 35, some 36, some 37, some 38] rfl (ws' := cEW G q p_66.2) rfl (fun H locs hW => ?_)
                obtain rfl := Option.some.inj h
                exact x_retl F hr hW rfl dX5_mist_69
          · have h := hf_42 c_42
            refine lv_aload_n hx hb dX5_mist_45 rfl (lv_at hl 0 rfl) ?_
            refine lv_bipush (v := (-6 : Int32)) hx hb dX5_mist_46 (by decide) ?_
            obtain ⟨p_48_2, hc_48, h⟩ := of_bind h
            refine x_Vl (av := [.ref (q 0), .int (-6 : Int32)]) (As := [.int (-6 : Int32)]) F hW (c_X5_refuseLong l G q w (-6 : Int32) _ hc_48) [0, 1, 2, 3, 4, 5, 6, 7, 8, 9, 10, 11, 12, 13, 14, 15, 16, 17, 18, 19, 20, 21, 22, 23, 24, 25, 26, 27, 28, 29, 30, 31, 32, 33, 34, 35, 36, 37, 38] rfl rfl (by intro q; cases q) cv_X5_215 rfl ⟨_, rfl, rfl⟩ rfl rfl rfl hl (Nat.le_of_ble_eq_true rfl) ⟨Nat.le_of_ble_eq_true rfl, Nat.le_of_ble_eq_true rfl⟩ ⟨rfl, rfl⟩ ⟨Nat.le_of_ble_eq_true rfl, Nat.le_of_ble_eq_true rfl⟩ dX5_mist_48 rfl [some 0, some 1, some 2, some 3, some 4, some 5, some 6, some 7, some 8, some 9, some 10, some 11, some 12, some 13, some 14, some 15, some 16, some 17, some 18, some 19, some 20, some 21, some 22, some 23, some 24, some 25, some 26, some 27, some 28, some 29, some 30, some 31, some 32, some 33, some 34, some 35, some 36, some 37, some 38] rfl (ws' := cEW G q p_48_2.2) rfl (fun H locs hW => ?_)
            obtain rfl := Option.some.inj h
            exact x_retl F hr hW rfl dX5_mist_51
      · have h := hf_23 c_23
        refine lv_aload_n hx hb dX5_mist_26 rfl (lv_at hl 0 rfl) ?_
        refine lv_bipush (v := (-4 : Int32)) hx hb dX5_mist_27 (by decide) ?_
        obtain ⟨p_29_2, hc_29, h⟩ := of_bind h
        refine x_Vl (av := [.ref (q 0), .int (-4 : Int32)]) (As := [.int (-4 : Int32)]) F hW (c_X5_refuseLong l G q w (-4 : Int32) _ hc_29) [0, 1, 2, 3, 4, 5, 6, 7, 8, 9, 10, 11, 12, 13, 14, 15, 16, 17, 18, 19, 20, 21, 22, 23, 24, 25, 26, 27, 28, 29, 30, 31, 32, 33, 34, 35, 36, 37, 38] rfl rfl (by intro q; cases q) cv_X5_215 rfl ⟨_, rfl, rfl⟩ rfl rfl rfl hl (Nat.le_of_ble_eq_true rfl) ⟨Nat.le_of_ble_eq_true rfl, Nat.le_of_ble_eq_true rfl⟩ ⟨rfl, rfl⟩ ⟨Nat.le_of_ble_eq_true rfl, Nat.le_of_ble_eq_true rfl⟩ dX5_mist_29 rfl [some 0, some 1, some 2, some 3, some 4, some 5, some 6, some 7, some 8, some 9, some 10, some 11, some 12, some 13, some 14, some 15, some 16, some 17, some 18, some 19, some 20, some 21, some 22, some 23, some 24, some 25, some 26, some 27, some 28, some 29, some 30, some 31, some 32, some 33, some 34, some 35, some 36, some 37, some 38] rfl (ws' := cEW G q p_29_2.2) rfl (fun H locs hW => ?_)
        obtain rfl := Option.some.inj h
        exact x_retl F hr hW rfl dX5_mist_32
  · have h := ht_8 c_8
    refine lv_aload_n hx hb dX5_mist_11 rfl (lv_at hl 0 rfl) ?_
    refine lv_iconst (v := (-1 : Int32)) hx hb dX5_mist_12 (by decide) ?_
    obtain ⟨p_13, hc_13, h⟩ := of_bind h
    refine x_Vl (av := [.ref (q 0), .int (-1 : Int32)]) (As := [.int (-1 : Int32)]) F hW (c_X5_refuseLong l G q w (-1 : Int32) _ hc_13) [0, 1, 2, 3, 4, 5, 6, 7, 8, 9, 10, 11, 12, 13, 14, 15, 16, 17, 18, 19, 20, 21, 22, 23, 24, 25, 26, 27, 28, 29, 30, 31, 32, 33, 34, 35, 36, 37, 38] rfl rfl (by intro q; cases q) cv_X5_215 rfl ⟨_, rfl, rfl⟩ rfl rfl rfl hl (Nat.le_of_ble_eq_true rfl) ⟨Nat.le_of_ble_eq_true rfl, Nat.le_of_ble_eq_true rfl⟩ ⟨rfl, rfl⟩ ⟨Nat.le_of_ble_eq_true rfl, Nat.le_of_ble_eq_true rfl⟩ dX5_mist_13 rfl [some 0, some 1, some 2, some 3, some 4, some 5, some 6, some 7, some 8, some 9, some 10, some 11, some 12, some 13, some 14, some 15, some 16, some 17, some 18, some 19, some 20, some 21, some 22, some 23, some 24, some 25, some 26, some 27, some 28, some 29, some 30, some 31, some 32, some 33, some 34, some 35, some 36, some 37, some 38] rfl (ws' := cEW G q p_13.2) rfl (fun H locs hW => ?_)
    obtain rfl := Option.some.inj h
    exact x_retl F hr hW rfl dX5_mist_16
def f_X5_mean_21 (x1 : Int32) (w_16 : EW) : Nat → Int32 → Int64 → Option (Int64 × EW)
  | 0, _, _ => none
  | n1 + 1, v4_21, v2_21 =>
    if (20 : Int32) ≤ v4_21 then
    Option.bind (f_X5_inLeastTerms v2_21 (20 : Int64) x1) fun p_53 =>
    some (p_53, w_16)
    else
    if inR v4_21 20 then
    nm (v2_21 + ((w_16.1.1.1 v4_21.toNatClampNeg).toInt64)) fun x_41 =>
    f_X5_mean_21 x1 w_16 n1 (v4_21 + (1 : Int32)) x_41
    else none
def f_X5_mean_16 (x1 : Int32) (w_16 : EW) : Option (Int64 × EW) :=
  f_X5_mean_21 x1 w_16 200 (0 : Int32) (0 : Int64)
def f_X5_mean (w : EW) (x1 : Int32) : Option (Int64 × EW) :=
  if x1 = 0 then
    f_X5_mean_16 x1 w
    else
    if x1 = (1 : Int32) then
    f_X5_mean_16 x1 w
    else
    Option.bind (f_X5_refuseLong w (-2 : Int32)) fun p_12 =>
    some (p_12.1, p_12.2)
abbrev rmX5_mean : Room := { frames := 2, cells := 0, slots := 0, locals := 56 }
set_option maxRecDepth 100000 in
set_option maxHeartbeats 4000000 in
theorem c_X5_mean (l : Launch) (G : EnT) (q : Nat → Nat) (w : EW) (x1 : Int32) (o : Int64 × EW) (h : f_X5_mean w x1 = some o) : Ml l yX5_mean rmX5_mean cX5_mean 5 (some .long) G false [.ref (q 0), .int x1] (cEW G q w) o.1 (cEW G q o.2) := by
  refine Ml_of (by decide) (Nat.le_of_ble_eq_true rfl) ?_
  intro p e s m below meth c A0 F hr hW ls hl
  obtain ⟨hx, hb, hml, hown, hts, hK, hNW, hlocks, hA, hSX⟩ := id F
  have hl : lv_has ls 5 [(0, .ref (q 0)), (1, .int x1)] := hl
  have hW : Wd G A0 s (cEW G q w) s.heap [] := hW
  show W p l e rmX5_mean s m ([.ref (q 0), .int x1] : List Value).toArray below meth c s.heap [] 0 0 (Ql below G (cEW G q o.2) o.1 A0 ([.ref (q 0), .int x1] : List Value).toArray s) (F0 m 0 ls [])
  have J0 : ∀ (w_16 : EW) (H : Heap) (locs : List Loc) (ls : Array Slot), f_X5_mean_16 x1 w_16 = some o → Wd G A0 s (cEW G q w_16) H locs → lv_has ls 5 [(0, .ref (q 0)), (1, .int x1)] → W p l e rmX5_mean s m ([.ref (q 0), .int x1] : List Value).toArray below meth c H locs 0 0 (Ql below G (cEW G q o.2) o.1 A0 ([.ref (q 0), .int x1] : List Value).toArray s) (F0 m 16 ls []) := by
    intro w_16 H locs ls h hW hl
    refine lv_lconst (v := (0 : Int64)) hx hb dX5_mean_16 (by decide) ?_
    refine lv_lstore_n (lv' := [(2, .long (0 : Int64)), (0, .ref (q 0)), (1, .int x1)]) hx hb dX5_mean_17 rfl hl (by decide) rfl (fun ls hl => ?_)
    refine lv_iconst (v := (0 : Int32)) hx hb dX5_mean_18 (by decide) ?_
    refine lv_istore (lv' := [(4, .int (0 : Int32)), (2, .long (0 : Int64)), (0, .ref (q 0)), (1, .int x1)]) hx hb dX5_mean_19 hl (by decide) rfl (fun ls hl => ?_)
    have L1 : ∀ (n1 : Nat) (v4_21 : Int32) (v2_21 : Int64) (H : Heap) (locs : List Loc) (ls : Array Slot), f_X5_mean_21 x1 w_16 n1 v4_21 v2_21 = some o → Wd G A0 s (cEW G q w_16) H locs → lv_has ls 5 [(4, .int v4_21), (2, .long v2_21), (0, .ref (q 0)), (1, .int x1)] → W p l e rmX5_mean s m ([.ref (q 0), .int x1] : List Value).toArray below meth c H locs 0 0 (Ql below G (cEW G q o.2) o.1 A0 ([.ref (q 0), .int x1] : List Value).toArray s) (F0 m 21 ls []) := by
      intro n1
      induction n1 with
      | zero => intro v4_21 v2_21 H locs ls h; cases (show (none : Option (Int64 × EW)) = some o from h)
      | succ n1 ih1 =>
        intro v4_21 v2_21 H locs ls h hW hl
        refine lv_iload hx hb dX5_mean_21 (lv_at hl 0 rfl) ?_
        refine lv_bipush (v := (20 : Int32)) hx hb dX5_mean_23 (by decide) ?_
        obtain ⟨ht_25, hf_25⟩ := of_ite h
        refine lv_icmp_ge (tgt := 48) hx hb dX5_mean_25 (by decide) (fun c_25 => ?_) (fun c_25 => ?_)
        · have h := ht_25 c_25
          refine lv_lload_n hx hb dX5_mean_48 rfl (lv_at hl 1 rfl) ?_
          refine lv_ldc2 (v := (20 : Int64)) hx hb hown (hts _ wd_792) dX5_mean_49 ?_
          refine lv_iload_n hx hb dX5_mean_52 rfl (lv_at hl 3 rfl) ?_
          obtain ⟨p_53, hc_53, h⟩ := of_bind h
          refine x_Sl (av := [.long v2_21, .long (20 : Int64), .int x1]) F hW (c_X5_inLeastTerms l G v2_21 (20 : Int64) x1 _ hc_53) [] rfl rfl (by intro q; cases q) cs_X5_227 rfl rfl hl (Nat.le_of_ble_eq_true rfl) ⟨Nat.le_of_ble_eq_true rfl, Nat.le_of_ble_eq_true rfl⟩ ⟨rfl, rfl⟩ ⟨Nat.le_of_ble_eq_true rfl, Nat.le_of_ble_eq_true rfl⟩ dX5_mean_53 rfl [none, none, none, none, none, none, none, none, none, none, none, none, none, none, none, none, none, none, none, none, none, none, none, none, none, none, none, none, none, none, none, none, none, none, none, none, none, none, none] rfl (ws' := cEW G q w_16) rfl (fun H locs hW => ?_)
          obtain rfl := Option.some.inj h
          exact x_retl F hr hW rfl dX5_mean_56
        · have h := hf_25 c_25
          refine lv_lload_n hx hb dX5_mean_28 rfl (lv_at hl 1 rfl) ?_
          refine lv_aload_n hx hb dX5_mean_29 rfl (lv_at hl 2 rfl) ?_
          refine x_get F hW 0 rfl fa_X5_20 rfl dX5_mean_30 ?_
          refine x_get F hW 2 rfl fa_X5_105 rfl dX5_mean_33 ?_
          refine lv_iload hx hb dX5_mean_36 (lv_at hl 0 rfl) ?_
          obtain ⟨g_38, h⟩ := of_guard h
          refine x_iald F hW 3 rfl g_38 dX5_mean_38 ?_
          refine lv_i2l (v := ((w_16.1.1.1 v4_21.toNatClampNeg).toInt64)) hx hb dX5_mean_39 rfl ?_
          refine lv_ladd hx hb dX5_mean_40 ?_
          obtain ⟨x_41, e_x_41, h⟩ := of_nm h
          refine x_topl e_x_41 ?_
          refine lv_lstore_n (lv' := [(2, .long x_41), (4, .int v4_21), (0, .ref (q 0)), (1, .int x1)]) hx hb dX5_mean_41 rfl hl (by decide) rfl (fun ls hl => ?_)
          refine lv_iinc (v := (v4_21 + (1 : Int32))) (lv' := [(4, .int (v4_21 + (1 : Int32))), (2, .long x_41), (0, .ref (q 0)), (1, .int x1)]) hx hb dX5_mean_42 hl (k := 1) rfl rfl (by decide) rfl (fun ls hl => ?_)
          refine lv_goto (tgt := 21) hx hb dX5_mean_45 (by decide) ?_
          exact ih1 (v4_21 + (1 : Int32)) x_41 _ _ _ h hW (lv_sub hl [0, 1, 2, 3] rfl)
    exact L1 200 (0 : Int32) (0 : Int64) _ _ _ h hW (lv_sub hl [0, 1, 2, 3] rfl)
  refine lv_iload_n hx hb dX5_mean_0 rfl (lv_at hl 1 rfl) ?_
  obtain ⟨ht_1, hf_1⟩ := of_ite h
  refine lv_if_eq (tgt := 16) hx hb dX5_mean_1 (by decide) (fun c_1 => ?_) (fun c_1 => ?_)
  · have h := ht_1 c_1
    exact J0 w _ _ _ h hW (lv_sub hl [0, 1] rfl)
  · have h := hf_1 c_1
    refine lv_iload_n hx hb dX5_mean_4 rfl (lv_at hl 1 rfl) ?_
    refine lv_iconst (v := (1 : Int32)) hx hb dX5_mean_5 (by decide) ?_
    obtain ⟨ht_6, hf_6⟩ := of_ite h
    refine lv_icmp_eq (tgt := 16) hx hb dX5_mean_6 (by decide) (fun c_6 => ?_) (fun c_6 => ?_)
    · have h := ht_6 c_6
      exact J0 w _ _ _ h hW (lv_sub hl [0, 1] rfl)
    · have h := hf_6 c_6
      refine lv_aload_n hx hb dX5_mean_9 rfl (lv_at hl 0 rfl) ?_
      refine lv_bipush (v := (-2 : Int32)) hx hb dX5_mean_10 (by decide) ?_
      obtain ⟨p_12, hc_12, h⟩ := of_bind h
      refine x_Vl (av := [.ref (q 0), .int (-2 : Int32)]) (As := [.int (-2 : Int32)]) F hW (c_X5_refuseLong l G q w (-2 : Int32) _ hc_12) [0, 1, 2, 3, 4, 5, 6, 7, 8, 9, 10, 11, 12, 13, 14, 15, 16, 17, 18, 19, 20, 21, 22, 23, 24, 25, 26, 27, 28, 29, 30, 31, 32, 33, 34, 35, 36, 37, 38] rfl rfl (by intro q; cases q) cv_X5_215 rfl ⟨_, rfl, rfl⟩ rfl rfl rfl hl (Nat.le_of_ble_eq_true rfl) ⟨Nat.le_of_ble_eq_true rfl, Nat.le_of_ble_eq_true rfl⟩ ⟨rfl, rfl⟩ ⟨Nat.le_of_ble_eq_true rfl, Nat.le_of_ble_eq_true rfl⟩ dX5_mean_12 rfl [some 0, some 1, some 2, some 3, some 4, some 5, some 6, some 7, some 8, some 9, some 10, some 11, some 12, some 13, some 14, some 15, some 16, some 17, some 18, some 19, some 20, some 21, some 22, some 23, some 24, some 25, some 26, some 27, some 28, some 29, some 30, some 31, some 32, some 33, some 34, some 35, some 36, some 37, some 38] rfl (ws' := cEW G q p_12.2) rfl (fun H locs hW => ?_)
      obtain rfl := Option.some.inj h
      exact x_retl F hr hW rfl dX5_mean_15
def f_X5_whoSlept (w : EW) : Option (Int32 × EW) :=
  Option.bind (f_X4_housesThatSlept w.1 w.2.2.2.2.1 w.2.2.2.2.2.2.2) fun p_12 =>
    some (p_12.1, (p_12.2, w.2.1, w.2.2.1, w.2.2.2.1, w.2.2.2.2.1, w.2.2.2.2.2.1, w.2.2.2.2.2.2.1, w.2.2.2.2.2.2.2))
abbrev rmX5_whoSlept : Room := { frames := 6, cells := 0, slots := 0, locals := 146 }
set_option maxRecDepth 100000 in
set_option maxHeartbeats 4000000 in
theorem c_X5_whoSlept (l : Launch) (G : EnT) (q : Nat → Nat) (w : EW) (o : Int32 × EW) (h : f_X5_whoSlept w = some o) : Mi l yX5_whoSlept rmX5_whoSlept cX5_whoSlept 1 (some .int) G false [.ref (q 0)] (cEW G q w) o.1 (cEW G q o.2) := by
  refine Mi_of (by decide) (Nat.le_of_ble_eq_true rfl) ?_
  intro p e s m below meth c A0 F hr hW ls hl
  obtain ⟨hx, hb, hml, hown, hts, hK, hNW, hlocks, hA, hSX⟩ := id F
  have hl : lv_has ls 1 [(0, .ref (q 0))] := hl
  have hW : Wd G A0 s (cEW G q w) s.heap [] := hW
  show W p l e rmX5_whoSlept s m ([.ref (q 0)] : List Value).toArray below meth c s.heap [] 0 0 (Qi below G (cEW G q o.2) o.1 A0 ([.ref (q 0)] : List Value).toArray s) (F0 m 0 ls [])
  refine lv_aload_n hx hb dX5_whoSlept_0 rfl (lv_at hl 0 rfl) ?_
  refine x_get F hW 0 rfl fa_X5_10 rfl dX5_whoSlept_1 ?_
  refine lv_aload_n hx hb dX5_whoSlept_4 rfl (lv_at hl 0 rfl) ?_
  refine x_get F hW 0 rfl fa_X5_37 rfl dX5_whoSlept_5 ?_
  refine lv_aload_n hx hb dX5_whoSlept_8 rfl (lv_at hl 0 rfl) ?_
  refine x_get F hW 0 rfl fa_X5_233 rfl dX5_whoSlept_9 ?_
  obtain ⟨p_12, hc_12, h⟩ := of_bind h
  refine x_Vi (av := [.ref (q 1), .ref (q 37), .int w.2.2.2.2.2.2.2]) (As := [.ref (q 37), .int w.2.2.2.2.2.2.2]) F hW (c_X4_housesThatSlept l G (fun i => q (i + 1)) w.1 (fun i => q (i + 37)) w.2.2.2.2.1 w.2.2.2.2.2.2.2 _ hc_12) [1, 2, 3, 4, 5, 6, 7, 8, 9, 10, 11, 12, 13, 14, 15, 16, 17, 18, 19, 20, 21, 22, 37] rfl rfl (by intro q; cases q) cv_X5_236 rfl ⟨_, rfl, rfl⟩ rfl rfl rfl hl (Nat.le_of_ble_eq_true rfl) ⟨Nat.le_of_ble_eq_true rfl, Nat.le_of_ble_eq_true rfl⟩ ⟨rfl, rfl⟩ ⟨Nat.le_of_ble_eq_true rfl, Nat.le_of_ble_eq_true rfl⟩ dX5_whoSlept_12 rfl [none, some 0, some 1, some 2, some 3, some 4, some 5, some 6, some 7, some 8, some 9, some 10, some 11, some 12, some 13, some 14, some 15, some 16, some 17, some 18, some 19, some 20, some 21, none, none, none, none, none, none, none, none, none, none, none, none, none, none, some 22, none] rfl (ws' := cEW G q (p_12.2, w.2.1, w.2.2.1, w.2.2.2.1, w.2.2.2.2.1, w.2.2.2.2.2.1, w.2.2.2.2.2.2.1, w.2.2.2.2.2.2.2)) rfl (fun H locs hW => ?_)
  obtain rfl := Option.some.inj h
  exact x_reti F hr hW rfl dX5_whoSlept_15
def f_X5_whatIs (w : EW) (x1 : Int32) (x2 : Int32) : Option (Int32 × EW) :=
  Option.bind (f_X1_isHouse w.1.1 x1) fun p_5 =>
    if p_5 = 0 then
    Option.bind (f_X5_refuse w (-1 : Int32)) fun p_13 =>
    some (p_13.1, p_13.2)
    else
    if x2 = (0 : Int32) then
    Option.bind (f_X4_kindsThatFit w.1 x1 w.2.2.2.2.1 w.2.2.2.2.2.2.2) fun p_57 =>
    some (p_57.1, (p_57.2, w.2.1, w.2.2.1, w.2.2.2.1, w.2.2.2.2.1, w.2.2.2.2.2.1, w.2.2.2.2.2.2.1, w.2.2.2.2.2.2.2))
    else
    if x2 = (1 : Int32) then
    Option.bind (f_X4_figuresThatFit w.1 x1 w.2.2.2.2.1 w.2.2.2.2.2.2.2) fun p_74 =>
    some (p_74.1, (p_74.2, w.2.1, w.2.2.1, w.2.2.2.1, w.2.2.2.2.1, w.2.2.2.2.2.1, w.2.2.2.2.2.2.1, w.2.2.2.2.2.2.2))
    else
    Option.bind (f_X5_refuse w (-2 : Int32)) fun p_81 =>
    some (p_81.1, p_81.2)
abbrev rmX5_whatIs : Room := { frames := 6, cells := 0, slots := 0, locals := 147 }
set_option maxRecDepth 100000 in
set_option maxHeartbeats 4000000 in
theorem c_X5_whatIs (l : Launch) (G : EnT) (q : Nat → Nat) (w : EW) (x1 : Int32) (x2 : Int32) (o : Int32 × EW) (h : f_X5_whatIs w x1 x2 = some o) : Mi l yX5_whatIs rmX5_whatIs cX5_whatIs 3 (some .int) G false [.ref (q 0), .int x1, .int x2] (cEW G q w) o.1 (cEW G q o.2) := by
  refine Mi_of (by decide) (Nat.le_of_ble_eq_true rfl) ?_
  intro p e s m below meth c A0 F hr hW ls hl
  obtain ⟨hx, hb, hml, hown, hts, hK, hNW, hlocks, hA, hSX⟩ := id F
  have hl : lv_has ls 3 [(0, .ref (q 0)), (1, .int x1), (2, .int x2)] := hl
  have hW : Wd G A0 s (cEW G q w) s.heap [] := hW
  show W p l e rmX5_whatIs s m ([.ref (q 0), .int x1, .int x2] : List Value).toArray below meth c s.heap [] 0 0 (Qi below G (cEW G q o.2) o.1 A0 ([.ref (q 0), .int x1, .int x2] : List Value).toArray s) (F0 m 0 ls [])
  refine lv_aload_n hx hb dX5_whatIs_0 rfl (lv_at hl 0 rfl) ?_
  refine x_get F hW 0 rfl fa_X5_20 rfl dX5_whatIs_1 ?_
  refine lv_iload_n hx hb dX5_whatIs_4 rfl (lv_at hl 1 rfl) ?_
  obtain ⟨p_5, hc_5, h⟩ := of_bind h
  refine x_Vi (av := [.ref (q 2), .int x1]) (As := [.int x1]) F hW (c_X1_isHouse l G (fun i => q (i + 2)) w.1.1 x1 _ hc_5) [2, 3, 4, 5, 6, 7] rfl rfl (by intro q; cases q) cv_X5_74 rfl ⟨_, rfl, rfl⟩ rfl rfl rfl hl (Nat.le_of_ble_eq_true rfl) ⟨Nat.le_of_ble_eq_true rfl, Nat.le_of_ble_eq_true rfl⟩ ⟨rfl, rfl⟩ ⟨Nat.le_of_ble_eq_true rfl, Nat.le_of_ble_eq_true rfl⟩ dX5_whatIs_5 rfl [none, none, some 0, some 1, some 2, some 3, some 4, some 5, none, none, none, none, none, none, none, none, none, none, none, none, none, none, none, none, none, none, none, none, none, none, none, none, none, none, none, none, none, none, none] rfl (ws' := cEW G q w) rfl (fun H locs hW => ?_)
  obtain ⟨ht_8, hf_8⟩ := of_ite h
  refine lv_if_ne (tgt := 17) hx hb dX5_whatIs_8 (by decide) (fun c_8 => ?_) (fun c_8 => ?_)
  · have h := hf_8 c_8
    refine lv_iload_n hx hb dX5_whatIs_17 rfl (lv_at hl 2 rfl) ?_
    obtain ⟨ht_18_0, h⟩ := of_ite h
    by_cases c_18_0 : x2 = (0 : Int32)
    · have h := ht_18_0 c_18_0
      refine x_lookIn c_18_0 hx hb dX5_whatIs_18 rfl (off := (26)) rfl (tgt := 44) (by decide) ?_
      refine lv_aload_n hx hb dX5_whatIs_44 rfl (lv_at hl 0 rfl) ?_
      refine x_get F hW 0 rfl fa_X5_10 rfl dX5_whatIs_45 ?_
      refine lv_iload_n hx hb dX5_whatIs_48 rfl (lv_at hl 1 rfl) ?_
      refine lv_aload_n hx hb dX5_whatIs_49 rfl (lv_at hl 0 rfl) ?_
      refine x_get F hW 0 rfl fa_X5_37 rfl dX5_whatIs_50 ?_
      refine lv_aload_n hx hb dX5_whatIs_53 rfl (lv_at hl 0 rfl) ?_
      refine x_get F hW 0 rfl fa_X5_233 rfl dX5_whatIs_54 ?_
      obtain ⟨p_57, hc_57, h⟩ := of_bind h
      refine x_Vi (av := [.ref (q 1), .int x1, .ref (q 37), .int w.2.2.2.2.2.2.2]) (As := [.int x1, .ref (q 37), .int w.2.2.2.2.2.2.2]) F hW (c_X4_kindsThatFit l G (fun i => q (i + 1)) w.1 x1 (fun i => q (i + 37)) w.2.2.2.2.1 w.2.2.2.2.2.2.2 _ hc_57) [1, 2, 3, 4, 5, 6, 7, 8, 9, 10, 11, 12, 13, 14, 15, 16, 17, 18, 19, 20, 21, 22, 37] rfl rfl (by intro q; cases q) cv_X5_240 rfl ⟨_, rfl, rfl⟩ rfl rfl rfl hl (Nat.le_of_ble_eq_true rfl) ⟨Nat.le_of_ble_eq_true rfl, Nat.le_of_ble_eq_true rfl⟩ ⟨rfl, rfl⟩ ⟨Nat.le_of_ble_eq_true rfl, Nat.le_of_ble_eq_true rfl⟩ dX5_whatIs_57 rfl [none, some 0, some 1, some 2, some 3, some 4, some 5, some 6, some 7, some 8, some 9, some 10, some 11, some 12, some 13, some 14, some 15, some 16, some 17, some 18, some 19, some 20, some 21, none, none, none, none, none, none, none, none, none, none, none, none, none, none, some 22, none] rfl (ws' := cEW G q (p_57.2, w.2.1, w.2.2.1, w.2.2.2.1, w.2.2.2.2.1, w.2.2.2.2.2.1, w.2.2.2.2.2.2.1, w.2.2.2.2.2.2.2)) rfl (fun H locs hW => ?_)
      obtain rfl := Option.some.inj h
      exact x_reti F hr hW rfl dX5_whatIs_60
    have h := h c_18_0
    obtain ⟨ht_18_1, h⟩ := of_ite h
    by_cases c_18_1 : x2 = (1 : Int32)
    · have h := ht_18_1 c_18_1
      refine x_lookIn c_18_1 hx hb dX5_whatIs_18 rfl (off := (43)) rfl (tgt := 61) (by decide) ?_
      refine lv_aload_n hx hb dX5_whatIs_61 rfl (lv_at hl 0 rfl) ?_
      refine x_get F hW 0 rfl fa_X5_10 rfl dX5_whatIs_62 ?_
      refine lv_iload_n hx hb dX5_whatIs_65 rfl (lv_at hl 1 rfl) ?_
      refine lv_aload_n hx hb dX5_whatIs_66 rfl (lv_at hl 0 rfl) ?_
      refine x_get F hW 0 rfl fa_X5_37 rfl dX5_whatIs_67 ?_
      refine lv_aload_n hx hb dX5_whatIs_70 rfl (lv_at hl 0 rfl) ?_
      refine x_get F hW 0 rfl fa_X5_233 rfl dX5_whatIs_71 ?_
      obtain ⟨p_74, hc_74, h⟩ := of_bind h
      refine x_Vi (av := [.ref (q 1), .int x1, .ref (q 37), .int w.2.2.2.2.2.2.2]) (As := [.int x1, .ref (q 37), .int w.2.2.2.2.2.2.2]) F hW (c_X4_figuresThatFit l G (fun i => q (i + 1)) w.1 x1 (fun i => q (i + 37)) w.2.2.2.2.1 w.2.2.2.2.2.2.2 _ hc_74) [1, 2, 3, 4, 5, 6, 7, 8, 9, 10, 11, 12, 13, 14, 15, 16, 17, 18, 19, 20, 21, 22, 37] rfl rfl (by intro q; cases q) cv_X5_244 rfl ⟨_, rfl, rfl⟩ rfl rfl rfl hl (Nat.le_of_ble_eq_true rfl) ⟨Nat.le_of_ble_eq_true rfl, Nat.le_of_ble_eq_true rfl⟩ ⟨rfl, rfl⟩ ⟨Nat.le_of_ble_eq_true rfl, Nat.le_of_ble_eq_true rfl⟩ dX5_whatIs_74 rfl [none, some 0, some 1, some 2, some 3, some 4, some 5, some 6, some 7, some 8, some 9, some 10, some 11, some 12, some 13, some 14, some 15, some 16, some 17, some 18, some 19, some 20, some 21, none, none, none, none, none, none, none, none, none, none, none, none, none, none, some 22, none] rfl (ws' := cEW G q (p_74.2, w.2.1, w.2.2.1, w.2.2.2.1, w.2.2.2.2.1, w.2.2.2.2.2.1, w.2.2.2.2.2.2.1, w.2.2.2.2.2.2.2)) rfl (fun H locs hW => ?_)
      obtain rfl := Option.some.inj h
      exact x_reti F hr hW rfl dX5_whatIs_77
    have h := h c_18_1
    refine lv_lookup (off := 60) hx hb dX5_whatIs_18 rfl (by have z0 := x_ne c_18_0 (z := 0) (by decide); have z1 := x_ne c_18_1 (z := 1) (by decide); simp [Op.lookupswitch.offset, z0, Ne.symm z0, z1, Ne.symm z1]) (tgt := 78) (by decide) ?_
    refine lv_aload_n hx hb dX5_whatIs_78 rfl (lv_at hl 0 rfl) ?_
    refine lv_bipush (v := (-2 : Int32)) hx hb dX5_whatIs_79 (by decide) ?_
    obtain ⟨p_81, hc_81, h⟩ := of_bind h
    refine x_Vi (av := [.ref (q 0), .int (-2 : Int32)]) (As := [.int (-2 : Int32)]) F hW (c_X5_refuse l G q w (-2 : Int32) _ hc_81) [0, 1, 2, 3, 4, 5, 6, 7, 8, 9, 10, 11, 12, 13, 14, 15, 16, 17, 18, 19, 20, 21, 22, 23, 24, 25, 26, 27, 28, 29, 30, 31, 32, 33, 34, 35, 36, 37, 38] rfl rfl (by intro q; cases q) cv_X5_44 rfl ⟨_, rfl, rfl⟩ rfl rfl rfl hl (Nat.le_of_ble_eq_true rfl) ⟨Nat.le_of_ble_eq_true rfl, Nat.le_of_ble_eq_true rfl⟩ ⟨rfl, rfl⟩ ⟨Nat.le_of_ble_eq_true rfl, Nat.le_of_ble_eq_true rfl⟩ dX5_whatIs_81 rfl [some 0, some 1, some 2, some 3, some 4, some 5, some 6, some 7, some 8, some 9, some 10, some 11, some 12, some 13, some 14, some 15, some 16, some 17, some 18, some 19, some 20, some 21, some 22, some 23, some 24, some 25, some 26, some 27, some 28, some 29, some 30, some 31, some 32, some 33, some 34, some 35, some 36, some 37, some 38] rfl (ws' := cEW G q p_81.2) rfl (fun H locs hW => ?_)
    obtain rfl := Option.some.inj h
    exact x_reti F hr hW rfl dX5_whatIs_84
  · have h := ht_8 c_8
    refine lv_aload_n hx hb dX5_whatIs_11 rfl (lv_at hl 0 rfl) ?_
    refine lv_iconst (v := (-1 : Int32)) hx hb dX5_whatIs_12 (by decide) ?_
    obtain ⟨p_13, hc_13, h⟩ := of_bind h
    refine x_Vi (av := [.ref (q 0), .int (-1 : Int32)]) (As := [.int (-1 : Int32)]) F hW (c_X5_refuse l G q w (-1 : Int32) _ hc_13) [0, 1, 2, 3, 4, 5, 6, 7, 8, 9, 10, 11, 12, 13, 14, 15, 16, 17, 18, 19, 20, 21, 22, 23, 24, 25, 26, 27, 28, 29, 30, 31, 32, 33, 34, 35, 36, 37, 38] rfl rfl (by intro q; cases q) cv_X5_44 rfl ⟨_, rfl, rfl⟩ rfl rfl rfl hl (Nat.le_of_ble_eq_true rfl) ⟨Nat.le_of_ble_eq_true rfl, Nat.le_of_ble_eq_true rfl⟩ ⟨rfl, rfl⟩ ⟨Nat.le_of_ble_eq_true rfl, Nat.le_of_ble_eq_true rfl⟩ dX5_whatIs_13 rfl [some 0, some 1, some 2, some 3, some 4, some 5, some 6, some 7, some 8, some 9, some 10, some 11, some 12, some 13, some 14, some 15, some 16, some 17, some 18, some 19, some 20, some 21, some 22, some 23, some 24, some 25, some 26, some 27, some 28, some 29, some 30, some 31, some 32, some 33, some 34, some 35, some 36, some 37, some 38] rfl (ws' := cEW G q p_13.2) rfl (fun H locs hW => ?_)
    obtain rfl := Option.some.inj h
    exact x_reti F hr hW rfl dX5_whatIs_16
def f_X5_row (w : EW) (x1 : Int32) : Option (Int32 × EW) :=
  if 0 ≤ x1 then
    if (99 : Int32) < x1 then
    Option.bind (f_X5_refuse w (-6 : Int32)) fun p_29 =>
    some (p_29.1, p_29.2)
    else
    if w.2.2.2.2.2.2.2 < (16 : Int32) then
    if inR w.2.2.2.2.2.2.2 16 then
    some ((w.2.2.2.2.2.2.2 + (1 : Int32)), (w.1, w.2.1, w.2.2.1, w.2.2.2.1, (upd w.2.2.2.2.1 w.2.2.2.2.2.2.2.toNatClampNeg x1), w.2.2.2.2.2.1, w.2.2.2.2.2.2.1, (w.2.2.2.2.2.2.2 + (1 : Int32))))
    else none
    else
    Option.bind (f_X5_refuse w (-6 : Int32)) fun p_29_2 =>
    some (p_29_2.1, p_29_2.2)
    else
    Option.bind (f_X5_refuse w (-4 : Int32)) fun p_7 =>
    some (p_7.1, p_7.2)
abbrev rmX5_row : Room := { frames := 1, cells := 0, slots := 0, locals := 21 }
set_option maxRecDepth 100000 in
set_option maxHeartbeats 4000000 in
theorem c_X5_row (l : Launch) (G : EnT) (q : Nat → Nat) (w : EW) (x1 : Int32) (o : Int32 × EW) (h : f_X5_row w x1 = some o) : Mi l yX5_row rmX5_row cX5_row 2 (some .int) G false [.ref (q 0), .int x1] (cEW G q w) o.1 (cEW G q o.2) := by
  refine Mi_of (by decide) (Nat.le_of_ble_eq_true rfl) ?_
  intro p e s m below meth c A0 F hr hW ls hl
  obtain ⟨hx, hb, hml, hown, hts, hK, hNW, hlocks, hA, hSX⟩ := id F
  have hl : lv_has ls 2 [(0, .ref (q 0)), (1, .int x1)] := hl
  have hW : Wd G A0 s (cEW G q w) s.heap [] := hW
  show W p l e rmX5_row s m ([.ref (q 0), .int x1] : List Value).toArray below meth c s.heap [] 0 0 (Qi below G (cEW G q o.2) o.1 A0 ([.ref (q 0), .int x1] : List Value).toArray s) (F0 m 0 ls [])
  refine lv_iload_n hx hb dX5_row_0 rfl (lv_at hl 1 rfl) ?_
  obtain ⟨ht_1, hf_1⟩ := of_ite h
  refine lv_if_ge (tgt := 11) hx hb dX5_row_1 (by decide) (fun c_1 => ?_) (fun c_1 => ?_)
  · have h := ht_1 c_1
    refine lv_iload_n hx hb dX5_row_11 rfl (lv_at hl 1 rfl) ?_
    refine lv_bipush (v := (99 : Int32)) hx hb dX5_row_12 (by decide) ?_
    obtain ⟨ht_14, hf_14⟩ := of_ite h
    refine lv_icmp_gt (tgt := 26) hx hb dX5_row_14 (by decide) (fun c_14 => ?_) (fun c_14 => ?_)
    · have h := ht_14 c_14
      refine lv_aload_n hx hb dX5_row_26 rfl (lv_at hl 0 rfl) ?_
      refine lv_bipush (v := (-6 : Int32)) hx hb dX5_row_27 (by decide) ?_
      obtain ⟨p_29, hc_29, h⟩ := of_bind h
      refine x_Vi (av := [.ref (q 0), .int (-6 : Int32)]) (As := [.int (-6 : Int32)]) F hW (c_X5_refuse l G q w (-6 : Int32) _ hc_29) [0, 1, 2, 3, 4, 5, 6, 7, 8, 9, 10, 11, 12, 13, 14, 15, 16, 17, 18, 19, 20, 21, 22, 23, 24, 25, 26, 27, 28, 29, 30, 31, 32, 33, 34, 35, 36, 37, 38] rfl rfl (by intro q; cases q) cv_X5_44 rfl ⟨_, rfl, rfl⟩ rfl rfl rfl hl (Nat.le_of_ble_eq_true rfl) ⟨Nat.le_of_ble_eq_true rfl, Nat.le_of_ble_eq_true rfl⟩ ⟨rfl, rfl⟩ ⟨Nat.le_of_ble_eq_true rfl, Nat.le_of_ble_eq_true rfl⟩ dX5_row_29 rfl [some 0, some 1, some 2, some 3, some 4, some 5, some 6, some 7, some 8, some 9, some 10, some 11, some 12, some 13, some 14, some 15, some 16, some 17, some 18, some 19, some 20, some 21, some 22, some 23, some 24, some 25, some 26, some 27, some 28, some 29, some 30, some 31, some 32, some 33, some 34, some 35, some 36, some 37, some 38] rfl (ws' := cEW G q p_29.2) rfl (fun H locs hW => ?_)
      obtain rfl := Option.some.inj h
      exact x_reti F hr hW rfl dX5_row_32
    · have h := hf_14 c_14
      refine lv_aload_n hx hb dX5_row_17 rfl (lv_at hl 0 rfl) ?_
      refine x_get F hW 0 rfl fa_X5_233 rfl dX5_row_18 ?_
      refine lv_bipush (v := (16 : Int32)) hx hb dX5_row_21 (by decide) ?_
      obtain ⟨ht_23, hf_23⟩ := of_ite h
      refine lv_icmp_lt (tgt := 33) hx hb dX5_row_23 (by decide) (fun c_23 => ?_) (fun c_23 => ?_)
      · have h := ht_23 c_23
        refine lv_aload_n hx hb dX5_row_33 rfl (lv_at hl 0 rfl) ?_
        refine x_get F hW 0 rfl fa_X5_37 rfl dX5_row_34 ?_
        refine lv_aload_n hx hb dX5_row_37 rfl (lv_at hl 0 rfl) ?_
        refine x_get F hW 0 rfl fa_X5_233 rfl dX5_row_38 ?_
        refine lv_iload_n hx hb dX5_row_41 rfl (lv_at hl 1 rfl) ?_
        obtain ⟨g_42, h⟩ := of_guard h
        refine x_iast F hW 37 rfl g_42 (ws' := cEW G q (w.1, w.2.1, w.2.2.1, w.2.2.2.1, (upd w.2.2.2.2.1 w.2.2.2.2.2.2.2.toNatClampNeg x1), w.2.2.2.2.2.1, w.2.2.2.2.2.2.1, w.2.2.2.2.2.2.2)) rfl dX5_row_42 (fun H locs hW => ?_)
        refine lv_aload_n hx hb dX5_row_43 rfl (lv_at hl 0 rfl) ?_
        refine lv_dup hx hb dX5_row_44 rfl ?_
        refine x_get F hW 0 rfl fa_X5_233 rfl dX5_row_45 ?_
        refine lv_iconst (v := (1 : Int32)) hx hb dX5_row_48 (by decide) ?_
        refine lv_iadd hx hb dX5_row_49 ?_
        refine x_put F hW 0 rfl fp_X5_233 rfl rfl (Nat.le_of_ble_eq_true rfl) (ws' := cEW G q (w.1, w.2.1, w.2.2.1, w.2.2.2.1, (upd w.2.2.2.2.1 w.2.2.2.2.2.2.2.toNatClampNeg x1), w.2.2.2.2.2.1, w.2.2.2.2.2.2.1, (w.2.2.2.2.2.2.2 + (1 : Int32)))) rfl dX5_row_50 (fun H locs hW => ?_)
        refine lv_aload_n hx hb dX5_row_53 rfl (lv_at hl 0 rfl) ?_
        refine x_get F hW 0 rfl fa_X5_233 rfl dX5_row_54 ?_
        obtain rfl := Option.some.inj h
        exact x_reti F hr hW rfl dX5_row_57
      · have h := hf_23 c_23
        refine lv_aload_n hx hb dX5_row_26 rfl (lv_at hl 0 rfl) ?_
        refine lv_bipush (v := (-6 : Int32)) hx hb dX5_row_27 (by decide) ?_
        obtain ⟨p_29_2, hc_29, h⟩ := of_bind h
        refine x_Vi (av := [.ref (q 0), .int (-6 : Int32)]) (As := [.int (-6 : Int32)]) F hW (c_X5_refuse l G q w (-6 : Int32) _ hc_29) [0, 1, 2, 3, 4, 5, 6, 7, 8, 9, 10, 11, 12, 13, 14, 15, 16, 17, 18, 19, 20, 21, 22, 23, 24, 25, 26, 27, 28, 29, 30, 31, 32, 33, 34, 35, 36, 37, 38] rfl rfl (by intro q; cases q) cv_X5_44 rfl ⟨_, rfl, rfl⟩ rfl rfl rfl hl (Nat.le_of_ble_eq_true rfl) ⟨Nat.le_of_ble_eq_true rfl, Nat.le_of_ble_eq_true rfl⟩ ⟨rfl, rfl⟩ ⟨Nat.le_of_ble_eq_true rfl, Nat.le_of_ble_eq_true rfl⟩ dX5_row_29 rfl [some 0, some 1, some 2, some 3, some 4, some 5, some 6, some 7, some 8, some 9, some 10, some 11, some 12, some 13, some 14, some 15, some 16, some 17, some 18, some 19, some 20, some 21, some 22, some 23, some 24, some 25, some 26, some 27, some 28, some 29, some 30, some 31, some 32, some 33, some 34, some 35, some 36, some 37, some 38] rfl (ws' := cEW G q p_29_2.2) rfl (fun H locs hW => ?_)
        obtain rfl := Option.some.inj h
        exact x_reti F hr hW rfl dX5_row_32
  · have h := hf_1 c_1
    refine lv_aload_n hx hb dX5_row_4 rfl (lv_at hl 0 rfl) ?_
    refine lv_bipush (v := (-4 : Int32)) hx hb dX5_row_5 (by decide) ?_
    obtain ⟨p_7, hc_7, h⟩ := of_bind h
    refine x_Vi (av := [.ref (q 0), .int (-4 : Int32)]) (As := [.int (-4 : Int32)]) F hW (c_X5_refuse l G q w (-4 : Int32) _ hc_7) [0, 1, 2, 3, 4, 5, 6, 7, 8, 9, 10, 11, 12, 13, 14, 15, 16, 17, 18, 19, 20, 21, 22, 23, 24, 25, 26, 27, 28, 29, 30, 31, 32, 33, 34, 35, 36, 37, 38] rfl rfl (by intro q; cases q) cv_X5_44 rfl ⟨_, rfl, rfl⟩ rfl rfl rfl hl (Nat.le_of_ble_eq_true rfl) ⟨Nat.le_of_ble_eq_true rfl, Nat.le_of_ble_eq_true rfl⟩ ⟨rfl, rfl⟩ ⟨Nat.le_of_ble_eq_true rfl, Nat.le_of_ble_eq_true rfl⟩ dX5_row_7 rfl [some 0, some 1, some 2, some 3, some 4, some 5, some 6, some 7, some 8, some 9, some 10, some 11, some 12, some 13, some 14, some 15, some 16, some 17, some 18, some 19, some 20, some 21, some 22, some 23, some 24, some 25, some 26, some 27, some 28, some 29, some 30, some 31, some 32, some 33, some 34, some 35, some 36, some 37, some 38] rfl (ws' := cEW G q p_7.2) rfl (fun H locs hW => ?_)
    obtain rfl := Option.some.inj h
    exact x_reti F hr hW rfl dX5_row_10
def f_X5_judge_5 (w : EW) : Nat → Int32 → Int32 → Option (Int32 × EW)
  | 0, _, _ => none
  | n0 + 1, v2_5, v1_5 =>
    if w.2.2.2.2.2.2.2 ≤ v2_5 then
    some (v1_5, (w.1, w.2.1, w.2.2.1, w.2.2.2.1, w.2.2.2.2.1, w.2.2.2.2.2.1, w.2.2.2.2.2.2.1, (0 : Int32)))
    else
    if v1_5 = (-9 : Int32) then
    if inR v2_5 16 then
    if inR v2_5 20 then
    if (w.2.2.2.2.1 v2_5.toNatClampNeg) = (w.1.1.1 v2_5.toNatClampNeg) then
    f_X5_judge_5 w n0 (v2_5 + (1 : Int32)) v1_5
    else
    f_X5_judge_5 w n0 (v2_5 + (1 : Int32)) v2_5
    else none
    else none
    else
    some (v1_5, (w.1, w.2.1, w.2.2.1, w.2.2.2.1, w.2.2.2.2.1, w.2.2.2.2.2.1, w.2.2.2.2.2.2.1, (0 : Int32)))
def f_X5_judge (w : EW) : Option (Int32 × EW) :=
  f_X5_judge_5 w 200 (0 : Int32) (-9 : Int32)
abbrev rmX5_judge : Room := { frames := 0, cells := 0, slots := 0, locals := 0 }
set_option maxRecDepth 100000 in
set_option maxHeartbeats 4000000 in
theorem c_X5_judge (l : Launch) (G : EnT) (q : Nat → Nat) (w : EW) (o : Int32 × EW) (h : f_X5_judge w = some o) : Mi l yX5_judge rmX5_judge cX5_judge 3 (some .int) G false [.ref (q 0)] (cEW G q w) o.1 (cEW G q o.2) := by
  refine Mi_of (by decide) (Nat.le_of_ble_eq_true rfl) ?_
  intro p e s m below meth c A0 F hr hW ls hl
  obtain ⟨hx, hb, hml, hown, hts, hK, hNW, hlocks, hA, hSX⟩ := id F
  have hl : lv_has ls 3 [(0, .ref (q 0))] := hl
  have hW : Wd G A0 s (cEW G q w) s.heap [] := hW
  show W p l e rmX5_judge s m ([.ref (q 0)] : List Value).toArray below meth c s.heap [] 0 0 (Qi below G (cEW G q o.2) o.1 A0 ([.ref (q 0)] : List Value).toArray s) (F0 m 0 ls [])
  refine lv_bipush (v := (-9 : Int32)) hx hb dX5_judge_0 (by decide) ?_
  refine lv_istore_n (lv' := [(1, .int (-9 : Int32)), (0, .ref (q 0))]) hx hb dX5_judge_2 rfl hl (by decide) rfl (fun ls hl => ?_)
  refine lv_iconst (v := (0 : Int32)) hx hb dX5_judge_3 (by decide) ?_
  refine lv_istore_n (lv' := [(2, .int (0 : Int32)), (1, .int (-9 : Int32)), (0, .ref (q 0))]) hx hb dX5_judge_4 rfl hl (by decide) rfl (fun ls hl => ?_)
  have L0 : ∀ (n0 : Nat) (v2_5 : Int32) (v1_5 : Int32) (H : Heap) (locs : List Loc) (ls : Array Slot), f_X5_judge_5 w n0 v2_5 v1_5 = some o → Wd G A0 s (cEW G q w) H locs → lv_has ls 3 [(2, .int v2_5), (1, .int v1_5), (0, .ref (q 0))] → W p l e rmX5_judge s m ([.ref (q 0)] : List Value).toArray below meth c H locs 0 0 (Qi below G (cEW G q o.2) o.1 A0 ([.ref (q 0)] : List Value).toArray s) (F0 m 5 ls []) := by
    intro n0
    induction n0 with
    | zero => intro v2_5 v1_5 H locs ls h; cases (show (none : Option (Int32 × EW)) = some o from h)
    | succ n0 ih0 =>
      intro v2_5 v1_5 H locs ls h hW hl
      refine lv_iload_n hx hb dX5_judge_5 rfl (lv_at hl 0 rfl) ?_
      refine lv_aload_n hx hb dX5_judge_6 rfl (lv_at hl 2 rfl) ?_
      refine x_get F hW 0 rfl fa_X5_233 rfl dX5_judge_7 ?_
      obtain ⟨ht_10, hf_10⟩ := of_ite h
      refine lv_icmp_ge (tgt := 45) hx hb dX5_judge_10 (by decide) (fun c_10 => ?_) (fun c_10 => ?_)
      · have h := ht_10 c_10
        refine lv_aload_n hx hb dX5_judge_45 rfl (lv_at hl 2 rfl) ?_
        refine lv_iconst (v := (0 : Int32)) hx hb dX5_judge_46 (by decide) ?_
        refine x_put F hW 0 rfl fp_X5_233 rfl rfl (Nat.le_of_ble_eq_true rfl) (ws' := cEW G q (w.1, w.2.1, w.2.2.1, w.2.2.2.1, w.2.2.2.2.1, w.2.2.2.2.2.1, w.2.2.2.2.2.2.1, (0 : Int32))) rfl dX5_judge_47 (fun H locs hW => ?_)
        refine lv_iload_n hx hb dX5_judge_50 rfl (lv_at hl 1 rfl) ?_
        obtain rfl := Option.some.inj h
        exact x_reti F hr hW rfl dX5_judge_51
      · have h := hf_10 c_10
        refine lv_iload_n hx hb dX5_judge_13 rfl (lv_at hl 1 rfl) ?_
        refine lv_bipush (v := (-9 : Int32)) hx hb dX5_judge_14 (by decide) ?_
        obtain ⟨ht_16, hf_16⟩ := of_ite h
        refine lv_icmp_ne (tgt := 45) hx hb dX5_judge_16 (by decide) (fun c_16 => ?_) (fun c_16 => ?_)
        · have h := hf_16 c_16
          refine lv_aload_n hx hb dX5_judge_45 rfl (lv_at hl 2 rfl) ?_
          refine lv_iconst (v := (0 : Int32)) hx hb dX5_judge_46 (by decide) ?_
          refine x_put F hW 0 rfl fp_X5_233 rfl rfl (Nat.le_of_ble_eq_true rfl) (ws' := cEW G q (w.1, w.2.1, w.2.2.1, w.2.2.2.1, w.2.2.2.2.1, w.2.2.2.2.2.1, w.2.2.2.2.2.2.1, (0 : Int32))) rfl dX5_judge_47 (fun H locs hW => ?_)
          refine lv_iload_n hx hb dX5_judge_50 rfl (lv_at hl 1 rfl) ?_
          obtain rfl := Option.some.inj h
          exact x_reti F hr hW rfl dX5_judge_51
        · have h := ht_16 c_16
          refine lv_aload_n hx hb dX5_judge_19 rfl (lv_at hl 2 rfl) ?_
          refine x_get F hW 0 rfl fa_X5_37 rfl dX5_judge_20 ?_
          refine lv_iload_n hx hb dX5_judge_23 rfl (lv_at hl 0 rfl) ?_
          obtain ⟨g_24, h⟩ := of_guard h
          refine x_iald F hW 37 rfl g_24 dX5_judge_24 ?_
          refine lv_aload_n hx hb dX5_judge_25 rfl (lv_at hl 2 rfl) ?_
          refine x_get F hW 0 rfl fa_X5_20 rfl dX5_judge_26 ?_
          refine x_get F hW 2 rfl fa_X5_105 rfl dX5_judge_29 ?_
          refine lv_iload_n hx hb dX5_judge_32 rfl (lv_at hl 0 rfl) ?_
          obtain ⟨g_33, h⟩ := of_guard h
          refine x_iald F hW 3 rfl g_33 dX5_judge_33 ?_
          obtain ⟨ht_34, hf_34⟩ := of_ite h
          refine lv_icmp_eq (tgt := 39) hx hb dX5_judge_34 (by decide) (fun c_34 => ?_) (fun c_34 => ?_)
          · have h := ht_34 c_34
            refine lv_iinc (v := (v2_5 + (1 : Int32))) (lv' := [(2, .int (v2_5 + (1 : Int32))), (1, .int v1_5), (0, .ref (q 0))]) hx hb dX5_judge_39 hl (k := 0) rfl rfl (by decide) rfl (fun ls hl => ?_)
            refine lv_goto (tgt := 5) hx hb dX5_judge_42 (by decide) ?_
            exact ih0 (v2_5 + (1 : Int32)) v1_5 _ _ _ h hW (lv_sub hl [0, 1, 2] rfl)
          · have h := hf_34 c_34
            refine lv_iload_n hx hb dX5_judge_37 rfl (lv_at hl 0 rfl) ?_
            refine lv_istore_n (lv' := [(1, .int v2_5), (2, .int v2_5), (0, .ref (q 0))]) hx hb dX5_judge_38 rfl hl (by decide) rfl (fun ls hl => ?_)
            refine lv_iinc (v := (v2_5 + (1 : Int32))) (lv' := [(2, .int (v2_5 + (1 : Int32))), (1, .int v2_5), (0, .ref (q 0))]) hx hb dX5_judge_39 hl (k := 1) rfl rfl (by decide) rfl (fun ls hl => ?_)
            refine lv_goto (tgt := 5) hx hb dX5_judge_42 (by decide) ?_
            exact ih0 (v2_5 + (1 : Int32)) v2_5 _ _ _ h hW (lv_sub hl [0, 1, 2] rfl)
  exact L0 200 (0 : Int32) (-9 : Int32) _ _ _ h hW (lv_sub hl [0, 1, 2] rfl)
def f_X5_clear (w : EW) : Option (Int32 × EW) :=
  nm w.2.2.2.2.2.2.2 fun x_4 =>
    some (x_4, (w.1, w.2.1, w.2.2.1, w.2.2.2.1, w.2.2.2.2.1, w.2.2.2.2.2.1, w.2.2.2.2.2.2.1, (0 : Int32)))
abbrev rmX5_clear : Room := { frames := 0, cells := 0, slots := 0, locals := 0 }
set_option maxRecDepth 100000 in
set_option maxHeartbeats 4000000 in
theorem c_X5_clear (l : Launch) (G : EnT) (q : Nat → Nat) (w : EW) (o : Int32 × EW) (h : f_X5_clear w = some o) : Mi l yX5_clear rmX5_clear cX5_clear 2 (some .int) G false [.ref (q 0)] (cEW G q w) o.1 (cEW G q o.2) := by
  refine Mi_of (by decide) (Nat.le_of_ble_eq_true rfl) ?_
  intro p e s m below meth c A0 F hr hW ls hl
  obtain ⟨hx, hb, hml, hown, hts, hK, hNW, hlocks, hA, hSX⟩ := id F
  have hl : lv_has ls 2 [(0, .ref (q 0))] := hl
  have hW : Wd G A0 s (cEW G q w) s.heap [] := hW
  show W p l e rmX5_clear s m ([.ref (q 0)] : List Value).toArray below meth c s.heap [] 0 0 (Qi below G (cEW G q o.2) o.1 A0 ([.ref (q 0)] : List Value).toArray s) (F0 m 0 ls [])
  refine lv_aload_n hx hb dX5_clear_0 rfl (lv_at hl 0 rfl) ?_
  refine x_get F hW 0 rfl fa_X5_233 rfl dX5_clear_1 ?_
  obtain ⟨x_4, e_x_4, h⟩ := of_nm h
  refine x_topi e_x_4 ?_
  refine lv_istore_n (lv' := [(1, .int x_4), (0, .ref (q 0))]) hx hb dX5_clear_4 rfl hl (by decide) rfl (fun ls hl => ?_)
  refine lv_aload_n hx hb dX5_clear_5 rfl (lv_at hl 1 rfl) ?_
  refine lv_iconst (v := (0 : Int32)) hx hb dX5_clear_6 (by decide) ?_
  refine x_put F hW 0 rfl fp_X5_233 rfl rfl (Nat.le_of_ble_eq_true rfl) (ws' := cEW G q (w.1, w.2.1, w.2.2.1, w.2.2.2.1, w.2.2.2.2.1, w.2.2.2.2.2.1, w.2.2.2.2.2.2.1, (0 : Int32))) rfl dX5_clear_7 (fun H locs hW => ?_)
  refine lv_iload_n hx hb dX5_clear_10 rfl (lv_at hl 0 rfl) ?_
  obtain rfl := Option.some.inj h
  exact x_reti F hr hW rfl dX5_clear_11
def f_X5_lots_37 (x3 : Int32) (x1 : Int32) (x2 : Int32) (w_37 : EW) : Option (Int32 × EW) :=
  if x3 = 0 then
    Option.bind (f_X4_nightsByLot w_37.1 x1 x2 (1 : Int32)) fun p_52_2 =>
    some (p_52_2.1, (p_52_2.2, w_37.2.1, w_37.2.2.1, w_37.2.2.2.1, w_37.2.2.2.2.1, w_37.2.2.2.2.2.1, w_37.2.2.2.2.2.2.1, w_37.2.2.2.2.2.2.2))
    else
    Option.bind (f_X4_nightsByLot w_37.1 x1 x2 (0 : Int32)) fun p_52 =>
    some (p_52.1, (p_52.2, w_37.2.1, w_37.2.2.1, w_37.2.2.2.1, w_37.2.2.2.2.1, w_37.2.2.2.2.2.1, w_37.2.2.2.2.2.2.1, w_37.2.2.2.2.2.2.2))
def f_X5_lots (w : EW) (x1 : Int32) (x2 : Int32) (x3 : Int32) : Option (Int32 × EW) :=
  Option.bind (f_X5_outside x1 (1 : Int32) (20 : Int32)) fun p_4 =>
    if p_4 = 0 then
    if x3 = 0 then
    f_X5_lots_37 x3 x1 x2 w
    else
    if x3 = (1 : Int32) then
    f_X5_lots_37 x3 x1 x2 w
    else
    Option.bind (f_X5_refuse w (-2 : Int32)) fun p_33 =>
    some (p_33.1, p_33.2)
    else
    Option.bind (f_X5_refuse w p_4) fun p_17 =>
    some (p_17.1, p_17.2)
abbrev rmX5_lots : Room := { frames := 5, cells := 0, slots := 0, locals := 126 }
set_option maxRecDepth 100000 in
set_option maxHeartbeats 4000000 in
theorem c_X5_lots (l : Launch) (G : EnT) (q : Nat → Nat) (w : EW) (x1 : Int32) (x2 : Int32) (x3 : Int32) (o : Int32 × EW) (h : f_X5_lots w x1 x2 x3 = some o) : Mi l yX5_lots rmX5_lots cX5_lots 5 (some .int) G false [.ref (q 0), .int x1, .int x2, .int x3] (cEW G q w) o.1 (cEW G q o.2) := by
  refine Mi_of (by decide) (Nat.le_of_ble_eq_true rfl) ?_
  intro p e s m below meth c A0 F hr hW ls hl
  obtain ⟨hx, hb, hml, hown, hts, hK, hNW, hlocks, hA, hSX⟩ := id F
  have hl : lv_has ls 5 [(0, .ref (q 0)), (1, .int x1), (2, .int x2), (3, .int x3)] := hl
  have hW : Wd G A0 s (cEW G q w) s.heap [] := hW
  show W p l e rmX5_lots s m ([.ref (q 0), .int x1, .int x2, .int x3] : List Value).toArray below meth c s.heap [] 0 0 (Qi below G (cEW G q o.2) o.1 A0 ([.ref (q 0), .int x1, .int x2, .int x3] : List Value).toArray s) (F0 m 0 ls [])
  have J0 : ∀ (w_37 : EW) (H : Heap) (locs : List Loc) (ls : Array Slot), f_X5_lots_37 x3 x1 x2 w_37 = some o → Wd G A0 s (cEW G q w_37) H locs → lv_has ls 5 [(0, .ref (q 0)), (1, .int x1), (2, .int x2), (3, .int x3)] → W p l e rmX5_lots s m ([.ref (q 0), .int x1, .int x2, .int x3] : List Value).toArray below meth c H locs 0 0 (Qi below G (cEW G q o.2) o.1 A0 ([.ref (q 0), .int x1, .int x2, .int x3] : List Value).toArray s) (F0 m 37 ls []) := by
    intro w_37 H locs ls h hW hl
    refine lv_aload_n hx hb dX5_lots_37 rfl (lv_at hl 0 rfl) ?_
    refine x_get F hW 0 rfl fa_X5_10 rfl dX5_lots_38 ?_
    refine lv_iload_n hx hb dX5_lots_41 rfl (lv_at hl 1 rfl) ?_
    refine lv_iload_n hx hb dX5_lots_42 rfl (lv_at hl 2 rfl) ?_
    refine lv_iload_n hx hb dX5_lots_43 rfl (lv_at hl 3 rfl) ?_
    obtain ⟨ht_44, hf_44⟩ := of_ite h
    refine lv_if_ne (tgt := 51) hx hb dX5_lots_44 (by decide) (fun c_44 => ?_) (fun c_44 => ?_)
    · have h := hf_44 c_44
      refine lv_iconst (v := (0 : Int32)) hx hb dX5_lots_51 (by decide) ?_
      obtain ⟨p_52, hc_52, h⟩ := of_bind h
      refine x_Vi (av := [.ref (q 1), .int x1, .int x2, .int (0 : Int32)]) (As := [.int x1, .int x2, .int (0 : Int32)]) F hW (c_X4_nightsByLot l G (fun i => q (i + 1)) w_37.1 x1 x2 (0 : Int32) _ hc_52) [1, 2, 3, 4, 5, 6, 7, 8, 9, 10, 11, 12, 13, 14, 15, 16, 17, 18, 19, 20, 21, 22] rfl rfl (by intro q; cases q) cv_X5_247 rfl ⟨_, rfl, rfl⟩ rfl rfl rfl hl (Nat.le_of_ble_eq_true rfl) ⟨Nat.le_of_ble_eq_true rfl, Nat.le_of_ble_eq_true rfl⟩ ⟨rfl, rfl⟩ ⟨Nat.le_of_ble_eq_true rfl, Nat.le_of_ble_eq_true rfl⟩ dX5_lots_52 rfl [none, some 0, some 1, some 2, some 3, some 4, some 5, some 6, some 7, some 8, some 9, some 10, some 11, some 12, some 13, some 14, some 15, some 16, some 17, some 18, some 19, some 20, some 21, none, none, none, none, none, none, none, none, none, none, none, none, none, none, none, none] rfl (ws' := cEW G q (p_52.2, w_37.2.1, w_37.2.2.1, w_37.2.2.2.1, w_37.2.2.2.2.1, w_37.2.2.2.2.2.1, w_37.2.2.2.2.2.2.1, w_37.2.2.2.2.2.2.2)) rfl (fun H locs hW => ?_)
      obtain rfl := Option.some.inj h
      exact x_reti F hr hW rfl dX5_lots_55
    · have h := ht_44 c_44
      refine lv_iconst (v := (1 : Int32)) hx hb dX5_lots_47 (by decide) ?_
      refine lv_goto (tgt := 52) hx hb dX5_lots_48 (by decide) ?_
      obtain ⟨p_52_2, hc_52, h⟩ := of_bind h
      refine x_Vi (av := [.ref (q 1), .int x1, .int x2, .int (1 : Int32)]) (As := [.int x1, .int x2, .int (1 : Int32)]) F hW (c_X4_nightsByLot l G (fun i => q (i + 1)) w_37.1 x1 x2 (1 : Int32) _ hc_52) [1, 2, 3, 4, 5, 6, 7, 8, 9, 10, 11, 12, 13, 14, 15, 16, 17, 18, 19, 20, 21, 22] rfl rfl (by intro q; cases q) cv_X5_247 rfl ⟨_, rfl, rfl⟩ rfl rfl rfl hl (Nat.le_of_ble_eq_true rfl) ⟨Nat.le_of_ble_eq_true rfl, Nat.le_of_ble_eq_true rfl⟩ ⟨rfl, rfl⟩ ⟨Nat.le_of_ble_eq_true rfl, Nat.le_of_ble_eq_true rfl⟩ dX5_lots_52 rfl [none, some 0, some 1, some 2, some 3, some 4, some 5, some 6, some 7, some 8, some 9, some 10, some 11, some 12, some 13, some 14, some 15, some 16, some 17, some 18, some 19, some 20, some 21, none, none, none, none, none, none, none, none, none, none, none, none, none, none, none, none] rfl (ws' := cEW G q (p_52_2.2, w_37.2.1, w_37.2.2.1, w_37.2.2.2.1, w_37.2.2.2.2.1, w_37.2.2.2.2.2.1, w_37.2.2.2.2.2.2.1, w_37.2.2.2.2.2.2.2)) rfl (fun H locs hW => ?_)
      obtain rfl := Option.some.inj h
      exact x_reti F hr hW rfl dX5_lots_55
  refine lv_iload_n hx hb dX5_lots_0 rfl (lv_at hl 1 rfl) ?_
  refine lv_iconst (v := (1 : Int32)) hx hb dX5_lots_1 (by decide) ?_
  refine lv_bipush (v := (20 : Int32)) hx hb dX5_lots_2 (by decide) ?_
  obtain ⟨p_4, hc_4, h⟩ := of_bind h
  refine x_Si (av := [.int x1, .int (1 : Int32), .int (20 : Int32)]) F hW (c_X5_outside l G x1 (1 : Int32) (20 : Int32) _ hc_4) [] rfl rfl (by intro q; cases q) cs_X5_108 rfl rfl hl (Nat.le_of_ble_eq_true rfl) ⟨Nat.le_of_ble_eq_true rfl, Nat.le_of_ble_eq_true rfl⟩ ⟨rfl, rfl⟩ ⟨Nat.le_of_ble_eq_true rfl, Nat.le_of_ble_eq_true rfl⟩ dX5_lots_4 rfl [none, none, none, none, none, none, none, none, none, none, none, none, none, none, none, none, none, none, none, none, none, none, none, none, none, none, none, none, none, none, none, none, none, none, none, none, none, none, none] rfl (ws' := cEW G q w) rfl (fun H locs hW => ?_)
  refine lv_istore (lv' := [(4, .int p_4), (0, .ref (q 0)), (1, .int x1), (2, .int x2), (3, .int x3)]) hx hb dX5_lots_7 hl (by decide) rfl (fun ls hl => ?_)
  refine lv_iload hx hb dX5_lots_9 (lv_at hl 0 rfl) ?_
  obtain ⟨ht_11, hf_11⟩ := of_ite h
  refine lv_if_eq (tgt := 21) hx hb dX5_lots_11 (by decide) (fun c_11 => ?_) (fun c_11 => ?_)
  · have h := ht_11 c_11
    refine lv_iload_n hx hb dX5_lots_21 rfl (lv_at hl 4 rfl) ?_
    obtain ⟨ht_22, hf_22⟩ := of_ite h
    refine lv_if_eq (tgt := 37) hx hb dX5_lots_22 (by decide) (fun c_22 => ?_) (fun c_22 => ?_)
    · have h := ht_22 c_22
      exact J0 w _ _ _ h hW (lv_sub hl [1, 2, 3, 4] rfl)
    · have h := hf_22 c_22
      refine lv_iload_n hx hb dX5_lots_25 rfl (lv_at hl 4 rfl) ?_
      refine lv_iconst (v := (1 : Int32)) hx hb dX5_lots_26 (by decide) ?_
      obtain ⟨ht_27, hf_27⟩ := of_ite h
      refine lv_icmp_eq (tgt := 37) hx hb dX5_lots_27 (by decide) (fun c_27 => ?_) (fun c_27 => ?_)
      · have h := ht_27 c_27
        exact J0 w _ _ _ h hW (lv_sub hl [1, 2, 3, 4] rfl)
      · have h := hf_27 c_27
        refine lv_aload_n hx hb dX5_lots_30 rfl (lv_at hl 1 rfl) ?_
        refine lv_bipush (v := (-2 : Int32)) hx hb dX5_lots_31 (by decide) ?_
        obtain ⟨p_33, hc_33, h⟩ := of_bind h
        refine x_Vi (av := [.ref (q 0), .int (-2 : Int32)]) (As := [.int (-2 : Int32)]) F hW (c_X5_refuse l G q w (-2 : Int32) _ hc_33) [0, 1, 2, 3, 4, 5, 6, 7, 8, 9, 10, 11, 12, 13, 14, 15, 16, 17, 18, 19, 20, 21, 22, 23, 24, 25, 26, 27, 28, 29, 30, 31, 32, 33, 34, 35, 36, 37, 38] rfl rfl (by intro q; cases q) cv_X5_44 rfl ⟨_, rfl, rfl⟩ rfl rfl rfl hl (Nat.le_of_ble_eq_true rfl) ⟨Nat.le_of_ble_eq_true rfl, Nat.le_of_ble_eq_true rfl⟩ ⟨rfl, rfl⟩ ⟨Nat.le_of_ble_eq_true rfl, Nat.le_of_ble_eq_true rfl⟩ dX5_lots_33 rfl [some 0, some 1, some 2, some 3, some 4, some 5, some 6, some 7, some 8, some 9, some 10, some 11, some 12, some 13, some 14, some 15, some 16, some 17, some 18, some 19, some 20, some 21, some 22, some 23, some 24, some 25, some 26, some 27, some 28, some 29, some 30, some 31, some 32, some 33, some 34, some 35, some 36, some 37, some 38] rfl (ws' := cEW G q p_33.2) rfl (fun H locs hW => ?_)
        obtain rfl := Option.some.inj h
        exact x_reti F hr hW rfl dX5_lots_36
  · have h := hf_11 c_11
    refine lv_aload_n hx hb dX5_lots_14 rfl (lv_at hl 1 rfl) ?_
    refine lv_iload hx hb dX5_lots_15 (lv_at hl 0 rfl) ?_
    obtain ⟨p_17, hc_17, h⟩ := of_bind h
    refine x_Vi (av := [.ref (q 0), .int p_4]) (As := [.int p_4]) F hW (c_X5_refuse l G q w p_4 _ hc_17) [0, 1, 2, 3, 4, 5, 6, 7, 8, 9, 10, 11, 12, 13, 14, 15, 16, 17, 18, 19, 20, 21, 22, 23, 24, 25, 26, 27, 28, 29, 30, 31, 32, 33, 34, 35, 36, 37, 38] rfl rfl (by intro q; cases q) cv_X5_44 rfl ⟨_, rfl, rfl⟩ rfl rfl rfl hl (Nat.le_of_ble_eq_true rfl) ⟨Nat.le_of_ble_eq_true rfl, Nat.le_of_ble_eq_true rfl⟩ ⟨rfl, rfl⟩ ⟨Nat.le_of_ble_eq_true rfl, Nat.le_of_ble_eq_true rfl⟩ dX5_lots_17 rfl [some 0, some 1, some 2, some 3, some 4, some 5, some 6, some 7, some 8, some 9, some 10, some 11, some 12, some 13, some 14, some 15, some 16, some 17, some 18, some 19, some 20, some 21, some 22, some 23, some 24, some 25, some 26, some 27, some 28, some 29, some 30, some 31, some 32, some 33, some 34, some 35, some 36, some 37, some 38] rfl (ws' := cEW G q p_17.2) rfl (fun H locs hW => ?_)
    obtain rfl := Option.some.inj h
    exact x_reti F hr hW rfl dX5_lots_20
def f_X5_image (w : EW) : Option (Int32 × EW) :=
  Option.bind (f_X1_become w.2.2.1 w.1.1) fun p_8 =>
    some (w.1.1.2.2.2.2.2.2.2.2, (w.1, w.2.1, p_8, w.2.2.2.1, w.2.2.2.2.1, w.2.2.2.2.2.1, (1 : Int32), w.2.2.2.2.2.2.2))
abbrev rmX5_image : Room := { frames := 2, cells := 0, slots := 0, locals := 85 }
set_option maxRecDepth 100000 in
set_option maxHeartbeats 4000000 in
theorem c_X5_image (l : Launch) (G : EnT) (q : Nat → Nat) (w : EW) (o : Int32 × EW) (h : f_X5_image w = some o) : Mi l yX5_image rmX5_image cX5_image 1 (some .int) G false [.ref (q 0)] (cEW G q w) o.1 (cEW G q o.2) := by
  refine Mi_of (by decide) (Nat.le_of_ble_eq_true rfl) ?_
  intro p e s m below meth c A0 F hr hW ls hl
  obtain ⟨hx, hb, hml, hown, hts, hK, hNW, hlocks, hA, hSX⟩ := id F
  have hl : lv_has ls 1 [(0, .ref (q 0))] := hl
  have hW : Wd G A0 s (cEW G q w) s.heap [] := hW
  show W p l e rmX5_image s m ([.ref (q 0)] : List Value).toArray below meth c s.heap [] 0 0 (Qi below G (cEW G q o.2) o.1 A0 ([.ref (q 0)] : List Value).toArray s) (F0 m 0 ls [])
  refine lv_aload_n hx hb dX5_image_0 rfl (lv_at hl 0 rfl) ?_
  refine x_get F hW 0 rfl fa_X5_27 rfl dX5_image_1 ?_
  refine lv_aload_n hx hb dX5_image_4 rfl (lv_at hl 0 rfl) ?_
  refine x_get F hW 0 rfl fa_X5_20 rfl dX5_image_5 ?_
  obtain ⟨p_8, hc_8, h⟩ := of_bind h
  refine x_Vv (av := [.ref (q 29), .ref (q 2)]) (As := [.ref (q 2)]) F hW (c_X1_become l G (fun i => q (i + 29)) w.2.2.1 (fun i => q (i + 2)) w.1.1 _ hc_8) [29, 30, 31, 32, 33, 34, 2, 3, 4, 5, 6, 7] rfl rfl (by intro q; cases q) cv_X5_59 rfl ⟨_, rfl, rfl⟩ rfl rfl rfl hl (Nat.le_of_ble_eq_true rfl) ⟨Nat.le_of_ble_eq_true rfl, Nat.le_of_ble_eq_true rfl⟩ ⟨rfl, rfl⟩ ⟨Nat.le_of_ble_eq_true rfl, Nat.le_of_ble_eq_true rfl⟩ dX5_image_8 rfl [none, none, some 6, some 7, some 8, some 9, some 10, some 11, none, none, none, none, none, none, none, none, none, none, none, none, none, none, none, none, none, none, none, none, none, some 0, some 1, some 2, some 3, some 4, some 5, none, none, none, none] rfl (ws' := cEW G q (w.1, w.2.1, p_8, w.2.2.2.1, w.2.2.2.2.1, w.2.2.2.2.2.1, w.2.2.2.2.2.2.1, w.2.2.2.2.2.2.2)) rfl (fun H locs hW => ?_)
  refine lv_aload_n hx hb dX5_image_11 rfl (lv_at hl 0 rfl) ?_
  refine lv_iconst (v := (1 : Int32)) hx hb dX5_image_12 (by decide) ?_
  refine x_put F hW 0 rfl fp_X5_251 rfl rfl (Nat.le_of_ble_eq_true rfl) (ws' := cEW G q (w.1, w.2.1, p_8, w.2.2.2.1, w.2.2.2.2.1, w.2.2.2.2.2.1, (1 : Int32), w.2.2.2.2.2.2.2)) rfl dX5_image_13 (fun H locs hW => ?_)
  refine lv_aload_n hx hb dX5_image_16 rfl (lv_at hl 0 rfl) ?_
  refine x_get F hW 0 rfl fa_X5_20 rfl dX5_image_17 ?_
  refine x_get F hW 2 rfl fa_X5_255 rfl dX5_image_20 ?_
  obtain rfl := Option.some.inj h
  exact x_reti F hr hW rfl dX5_image_23
def f_X5_on (w : EW) : Option (Int32 × EW) :=
  if w.2.2.2.2.2.2.1 = 0 then
    Option.bind (f_X5_refuse w (-3 : Int32)) fun p_10 =>
    some (p_10.1, p_10.2)
    else
    Option.bind (f_X1_become w.1.1 w.2.2.1) fun p_22 =>
    some (p_22.2.2.2.2.2.2.2.2, ((p_22, w.1.2.1, w.1.2.2.1, w.1.2.2.2.1, w.1.2.2.2.2.1, w.1.2.2.2.2.2.1, w.1.2.2.2.2.2.2), w.2.1, w.2.2.1, w.2.2.2.1, w.2.2.2.2.1, w.2.2.2.2.2.1, w.2.2.2.2.2.2.1, w.2.2.2.2.2.2.2))
abbrev rmX5_on : Room := { frames := 2, cells := 0, slots := 0, locals := 85 }
set_option maxRecDepth 100000 in
set_option maxHeartbeats 4000000 in
theorem c_X5_on (l : Launch) (G : EnT) (q : Nat → Nat) (w : EW) (o : Int32 × EW) (h : f_X5_on w = some o) : Mi l yX5_on rmX5_on cX5_on 1 (some .int) G false [.ref (q 0)] (cEW G q w) o.1 (cEW G q o.2) := by
  refine Mi_of (by decide) (Nat.le_of_ble_eq_true rfl) ?_
  intro p e s m below meth c A0 F hr hW ls hl
  obtain ⟨hx, hb, hml, hown, hts, hK, hNW, hlocks, hA, hSX⟩ := id F
  have hl : lv_has ls 1 [(0, .ref (q 0))] := hl
  have hW : Wd G A0 s (cEW G q w) s.heap [] := hW
  show W p l e rmX5_on s m ([.ref (q 0)] : List Value).toArray below meth c s.heap [] 0 0 (Qi below G (cEW G q o.2) o.1 A0 ([.ref (q 0)] : List Value).toArray s) (F0 m 0 ls [])
  refine lv_aload_n hx hb dX5_on_0 rfl (lv_at hl 0 rfl) ?_
  refine x_get F hW 0 rfl fa_X5_251 rfl dX5_on_1 ?_
  obtain ⟨ht_4, hf_4⟩ := of_ite h
  refine lv_if_ne (tgt := 14) hx hb dX5_on_4 (by decide) (fun c_4 => ?_) (fun c_4 => ?_)
  · have h := hf_4 c_4
    refine lv_aload_n hx hb dX5_on_14 rfl (lv_at hl 0 rfl) ?_
    refine x_get F hW 0 rfl fa_X5_20 rfl dX5_on_15 ?_
    refine lv_aload_n hx hb dX5_on_18 rfl (lv_at hl 0 rfl) ?_
    refine x_get F hW 0 rfl fa_X5_27 rfl dX5_on_19 ?_
    obtain ⟨p_22, hc_22, h⟩ := of_bind h
    refine x_Vv (av := [.ref (q 2), .ref (q 29)]) (As := [.ref (q 29)]) F hW (c_X1_become l G (fun i => q (i + 2)) w.1.1 (fun i => q (i + 29)) w.2.2.1 _ hc_22) [2, 3, 4, 5, 6, 7, 29, 30, 31, 32, 33, 34] rfl rfl (by intro q; cases q) cv_X5_59 rfl ⟨_, rfl, rfl⟩ rfl rfl rfl hl (Nat.le_of_ble_eq_true rfl) ⟨Nat.le_of_ble_eq_true rfl, Nat.le_of_ble_eq_true rfl⟩ ⟨rfl, rfl⟩ ⟨Nat.le_of_ble_eq_true rfl, Nat.le_of_ble_eq_true rfl⟩ dX5_on_22 rfl [none, none, some 0, some 1, some 2, some 3, some 4, some 5, none, none, none, none, none, none, none, none, none, none, none, none, none, none, none, none, none, none, none, none, none, some 6, some 7, some 8, some 9, some 10, some 11, none, none, none, none] rfl (ws' := cEW G q ((p_22, w.1.2.1, w.1.2.2.1, w.1.2.2.2.1, w.1.2.2.2.2.1, w.1.2.2.2.2.2.1, w.1.2.2.2.2.2.2), w.2.1, w.2.2.1, w.2.2.2.1, w.2.2.2.2.1, w.2.2.2.2.2.1, w.2.2.2.2.2.2.1, w.2.2.2.2.2.2.2)) rfl (fun H locs hW => ?_)
    refine lv_aload_n hx hb dX5_on_25 rfl (lv_at hl 0 rfl) ?_
    refine x_get F hW 0 rfl fa_X5_20 rfl dX5_on_26 ?_
    refine x_get F hW 2 rfl fa_X5_255 rfl dX5_on_29 ?_
    obtain rfl := Option.some.inj h
    exact x_reti F hr hW rfl dX5_on_32
  · have h := ht_4 c_4
    refine lv_aload_n hx hb dX5_on_7 rfl (lv_at hl 0 rfl) ?_
    refine lv_bipush (v := (-3 : Int32)) hx hb dX5_on_8 (by decide) ?_
    obtain ⟨p_10, hc_10, h⟩ := of_bind h
    refine x_Vi (av := [.ref (q 0), .int (-3 : Int32)]) (As := [.int (-3 : Int32)]) F hW (c_X5_refuse l G q w (-3 : Int32) _ hc_10) [0, 1, 2, 3, 4, 5, 6, 7, 8, 9, 10, 11, 12, 13, 14, 15, 16, 17, 18, 19, 20, 21, 22, 23, 24, 25, 26, 27, 28, 29, 30, 31, 32, 33, 34, 35, 36, 37, 38] rfl rfl (by intro q; cases q) cv_X5_44 rfl ⟨_, rfl, rfl⟩ rfl rfl rfl hl (Nat.le_of_ble_eq_true rfl) ⟨Nat.le_of_ble_eq_true rfl, Nat.le_of_ble_eq_true rfl⟩ ⟨rfl, rfl⟩ ⟨Nat.le_of_ble_eq_true rfl, Nat.le_of_ble_eq_true rfl⟩ dX5_on_10 rfl [some 0, some 1, some 2, some 3, some 4, some 5, some 6, some 7, some 8, some 9, some 10, some 11, some 12, some 13, some 14, some 15, some 16, some 17, some 18, some 19, some 20, some 21, some 22, some 23, some 24, some 25, some 26, some 27, some 28, some 29, some 30, some 31, some 32, some 33, some 34, some 35, some 36, some 37, some 38] rfl (ws' := cEW G q p_10.2) rfl (fun H locs hW => ?_)
    obtain rfl := Option.some.inj h
    exact x_reti F hr hW rfl dX5_on_13
def f_X5_refusalsCounted (w : EW) (x1 : Int32) : Option (Int32) :=
  if x1 < (1 : Int32) then
    some (-9 : Int32)
    else
    if (6 : Int32) < x1 then
    some (-9 : Int32)
    else
    if inR x1 7 then
    some (w.2.2.2.2.2.1 x1.toNatClampNeg)
    else none
abbrev rmX5_refusalsCounted : Room := { frames := 0, cells := 0, slots := 0, locals := 0 }
set_option maxRecDepth 100000 in
set_option maxHeartbeats 4000000 in
theorem c_X5_refusalsCounted (l : Launch) (G : EnT) (q : Nat → Nat) (w : EW) (x1 : Int32) (o : Int32) (h : f_X5_refusalsCounted w x1 = some o) : Mi l yX5_refusalsCounted rmX5_refusalsCounted cX5_refusalsCounted 2 (some .int) G false [.ref (q 0), .int x1] (cEW G q w) o (cEW G q w) := by
  refine Mi_of (by decide) (Nat.le_of_ble_eq_true rfl) ?_
  intro p e s m below meth c A0 F hr hW ls hl
  obtain ⟨hx, hb, hml, hown, hts, hK, hNW, hlocks, hA, hSX⟩ := id F
  have hl : lv_has ls 2 [(0, .ref (q 0)), (1, .int x1)] := hl
  have hW : Wd G A0 s (cEW G q w) s.heap [] := hW
  show W p l e rmX5_refusalsCounted s m ([.ref (q 0), .int x1] : List Value).toArray below meth c s.heap [] 0 0 (Qi below G (cEW G q w) o A0 ([.ref (q 0), .int x1] : List Value).toArray s) (F0 m 0 ls [])
  refine lv_iload_n hx hb dX5_refusalsCounted_0 rfl (lv_at hl 1 rfl) ?_
  refine lv_iconst (v := (1 : Int32)) hx hb dX5_refusalsCounted_1 (by decide) ?_
  obtain ⟨ht_2, hf_2⟩ := of_ite h
  refine lv_icmp_lt (tgt := 20) hx hb dX5_refusalsCounted_2 (by decide) (fun c_2 => ?_) (fun c_2 => ?_)
  · have h := ht_2 c_2
    refine lv_bipush (v := (-9 : Int32)) hx hb dX5_refusalsCounted_20 (by decide) ?_
    obtain rfl := Option.some.inj h
    exact x_reti F hr hW rfl dX5_refusalsCounted_22
  · have h := hf_2 c_2
    refine lv_iload_n hx hb dX5_refusalsCounted_5 rfl (lv_at hl 1 rfl) ?_
    refine lv_bipush (v := (6 : Int32)) hx hb dX5_refusalsCounted_6 (by decide) ?_
    obtain ⟨ht_8, hf_8⟩ := of_ite h
    refine lv_icmp_gt (tgt := 20) hx hb dX5_refusalsCounted_8 (by decide) (fun c_8 => ?_) (fun c_8 => ?_)
    · have h := ht_8 c_8
      refine lv_bipush (v := (-9 : Int32)) hx hb dX5_refusalsCounted_20 (by decide) ?_
      obtain rfl := Option.some.inj h
      exact x_reti F hr hW rfl dX5_refusalsCounted_22
    · have h := hf_8 c_8
      refine lv_aload_n hx hb dX5_refusalsCounted_11 rfl (lv_at hl 0 rfl) ?_
      refine x_get F hW 0 rfl fa_X5_41 rfl dX5_refusalsCounted_12 ?_
      refine lv_iload_n hx hb dX5_refusalsCounted_15 rfl (lv_at hl 1 rfl) ?_
      obtain ⟨g_16, h⟩ := of_guard h
      refine x_iald F hW 38 rfl g_16 dX5_refusalsCounted_16 ?_
      refine lv_goto (tgt := 22) hx hb dX5_refusalsCounted_17 (by decide) ?_
      obtain rfl := Option.some.inj h
      exact x_reti F hr hW rfl dX5_refusalsCounted_22
def f_X5_count (w : EW) (x1 : Int32) : Option (Int32 × EW) :=
  if x1 = (0 : Int32) then
    some (w.1.1.2.2.2.2.2.1, w)
    else
    if x1 = (1 : Int32) then
    some (w.1.1.2.2.2.2.2.2.2.2, w)
    else
    if x1 = (2 : Int32) then
    some (w.1.1.2.2.2.2.2.2.2.1, w)
    else
    if x1 = (3 : Int32) then
    Option.bind (f_X1_lit w.1.1) fun p_76 =>
    some (p_76, w)
    else
    if x1 = (4 : Int32) then
    Option.bind (f_X4_hangingBehind w.1 (0 : Int32)) fun p_85 =>
    some (p_85.1, (p_85.2, w.2.1, w.2.2.1, w.2.2.2.1, w.2.2.2.2.1, w.2.2.2.2.2.1, w.2.2.2.2.2.2.1, w.2.2.2.2.2.2.2))
    else
    if x1 = (5 : Int32) then
    Option.bind (f_X1_allWicks w.1.1) fun p_93 =>
    some (p_93, w)
    else
    if x1 = (6 : Int32) then
    some (w.2.2.2.2.2.2.2, w)
    else
    if x1 = (7 : Int32) then
    some (w.2.2.2.1.2.1, w)
    else
    Option.bind (f_X5_refusalsCounted w (x1 - (10 : Int32))) fun p_115 =>
    some (p_115, w)
abbrev rmX5_count : Room := { frames := 5, cells := 0, slots := 0, locals := 126 }
set_option maxRecDepth 100000 in
set_option maxHeartbeats 4000000 in
theorem c_X5_count (l : Launch) (G : EnT) (q : Nat → Nat) (w : EW) (x1 : Int32) (o : Int32 × EW) (h : f_X5_count w x1 = some o) : Mi l yX5_count rmX5_count cX5_count 2 (some .int) G false [.ref (q 0), .int x1] (cEW G q w) o.1 (cEW G q o.2) := by
  refine Mi_of (by decide) (Nat.le_of_ble_eq_true rfl) ?_
  intro p e s m below meth c A0 F hr hW ls hl
  obtain ⟨hx, hb, hml, hown, hts, hK, hNW, hlocks, hA, hSX⟩ := id F
  have hl : lv_has ls 2 [(0, .ref (q 0)), (1, .int x1)] := hl
  have hW : Wd G A0 s (cEW G q w) s.heap [] := hW
  show W p l e rmX5_count s m ([.ref (q 0), .int x1] : List Value).toArray below meth c s.heap [] 0 0 (Qi below G (cEW G q o.2) o.1 A0 ([.ref (q 0), .int x1] : List Value).toArray s) (F0 m 0 ls [])
  refine lv_iload_n hx hb dX5_count_0 rfl (lv_at hl 1 rfl) ?_
  obtain ⟨ht_1_0, h⟩ := of_ite h
  by_cases c_1_0 : x1 = (0 : Int32)
  · have h := ht_1_0 c_1_0
    refine x_tableIn c_1_0 hx hb dX5_count_1 (by decide) (by decide) (off := (47)) rfl (tgt := 48) (by decide) ?_
    refine lv_aload_n hx hb dX5_count_48 rfl (lv_at hl 0 rfl) ?_
    refine x_get F hW 0 rfl fa_X5_20 rfl dX5_count_49 ?_
    refine x_get F hW 2 rfl fa_X5_258 rfl dX5_count_52 ?_
    obtain rfl := Option.some.inj h
    exact x_reti F hr hW rfl dX5_count_55
  have h := h c_1_0
  obtain ⟨ht_1_1, h⟩ := of_ite h
  by_cases c_1_1 : x1 = (1 : Int32)
  · have h := ht_1_1 c_1_1
    refine x_tableIn c_1_1 hx hb dX5_count_1 (by decide) (by decide) (off := (55)) rfl (tgt := 56) (by decide) ?_
    refine lv_aload_n hx hb dX5_count_56 rfl (lv_at hl 0 rfl) ?_
    refine x_get F hW 0 rfl fa_X5_20 rfl dX5_count_57 ?_
    refine x_get F hW 2 rfl fa_X5_255 rfl dX5_count_60 ?_
    obtain rfl := Option.some.inj h
    exact x_reti F hr hW rfl dX5_count_63
  have h := h c_1_1
  obtain ⟨ht_1_2, h⟩ := of_ite h
  by_cases c_1_2 : x1 = (2 : Int32)
  · have h := ht_1_2 c_1_2
    refine x_tableIn c_1_2 hx hb dX5_count_1 (by decide) (by decide) (off := (63)) rfl (tgt := 64) (by decide) ?_
    refine lv_aload_n hx hb dX5_count_64 rfl (lv_at hl 0 rfl) ?_
    refine x_get F hW 0 rfl fa_X5_20 rfl dX5_count_65 ?_
    refine x_get F hW 2 rfl fa_X5_125 rfl dX5_count_68 ?_
    obtain rfl := Option.some.inj h
    exact x_reti F hr hW rfl dX5_count_71
  have h := h c_1_2
  obtain ⟨ht_1_3, h⟩ := of_ite h
  by_cases c_1_3 : x1 = (3 : Int32)
  · have h := ht_1_3 c_1_3
    refine x_tableIn c_1_3 hx hb dX5_count_1 (by decide) (by decide) (off := (71)) rfl (tgt := 72) (by decide) ?_
    refine lv_aload_n hx hb dX5_count_72 rfl (lv_at hl 0 rfl) ?_
    refine x_get F hW 0 rfl fa_X5_20 rfl dX5_count_73 ?_
    obtain ⟨p_76, hc_76, h⟩ := of_bind h
    refine x_Vi (av := [.ref (q 2)]) (As := []) F hW (c_X1_lit l G (fun i => q (i + 2)) w.1.1 _ hc_76) [2, 3, 4, 5, 6, 7] rfl rfl (by intro q; cases q) cv_X5_261 rfl ⟨_, rfl, rfl⟩ rfl rfl rfl hl (Nat.le_of_ble_eq_true rfl) ⟨Nat.le_of_ble_eq_true rfl, Nat.le_of_ble_eq_true rfl⟩ ⟨rfl, rfl⟩ ⟨Nat.le_of_ble_eq_true rfl, Nat.le_of_ble_eq_true rfl⟩ dX5_count_76 rfl [none, none, some 0, some 1, some 2, some 3, some 4, some 5, none, none, none, none, none, none, none, none, none, none, none, none, none, none, none, none, none, none, none, none, none, none, none, none, none, none, none, none, none, none, none] rfl (ws' := cEW G q w) rfl (fun H locs hW => ?_)
    obtain rfl := Option.some.inj h
    exact x_reti F hr hW rfl dX5_count_79
  have h := h c_1_3
  obtain ⟨ht_1_4, h⟩ := of_ite h
  by_cases c_1_4 : x1 = (4 : Int32)
  · have h := ht_1_4 c_1_4
    refine x_tableIn c_1_4 hx hb dX5_count_1 (by decide) (by decide) (off := (79)) rfl (tgt := 80) (by decide) ?_
    refine lv_aload_n hx hb dX5_count_80 rfl (lv_at hl 0 rfl) ?_
    refine x_get F hW 0 rfl fa_X5_10 rfl dX5_count_81 ?_
    refine lv_iconst (v := (0 : Int32)) hx hb dX5_count_84 (by decide) ?_
    obtain ⟨p_85, hc_85, h⟩ := of_bind h
    refine x_Vi (av := [.ref (q 1), .int (0 : Int32)]) (As := [.int (0 : Int32)]) F hW (c_X4_hangingBehind l G (fun i => q (i + 1)) w.1 (0 : Int32) _ hc_85) [1, 2, 3, 4, 5, 6, 7, 8, 9, 10, 11, 12, 13, 14, 15, 16, 17, 18, 19, 20, 21, 22] rfl rfl (by intro q; cases q) cv_X5_131 rfl ⟨_, rfl, rfl⟩ rfl rfl rfl hl (Nat.le_of_ble_eq_true rfl) ⟨Nat.le_of_ble_eq_true rfl, Nat.le_of_ble_eq_true rfl⟩ ⟨rfl, rfl⟩ ⟨Nat.le_of_ble_eq_true rfl, Nat.le_of_ble_eq_true rfl⟩ dX5_count_85 rfl [none, some 0, some 1, some 2, some 3, some 4, some 5, some 6, some 7, some 8, some 9, some 10, some 11, some 12, some 13, some 14, some 15, some 16, some 17, some 18, some 19, some 20, some 21, none, none, none, none, none, none, none, none, none, none, none, none, none, none, none, none] rfl (ws' := cEW G q (p_85.2, w.2.1, w.2.2.1, w.2.2.2.1, w.2.2.2.2.1, w.2.2.2.2.2.1, w.2.2.2.2.2.2.1, w.2.2.2.2.2.2.2)) rfl (fun H locs hW => ?_)
    obtain rfl := Option.some.inj h
    exact x_reti F hr hW rfl dX5_count_88
  have h := h c_1_4
  obtain ⟨ht_1_5, h⟩ := of_ite h
  by_cases c_1_5 : x1 = (5 : Int32)
  · have h := ht_1_5 c_1_5
    refine x_tableIn c_1_5 hx hb dX5_count_1 (by decide) (by decide) (off := (88)) rfl (tgt := 89) (by decide) ?_
    refine lv_aload_n hx hb dX5_count_89 rfl (lv_at hl 0 rfl) ?_
    refine x_get F hW 0 rfl fa_X5_20 rfl dX5_count_90 ?_
    obtain ⟨p_93, hc_93, h⟩ := of_bind h
    refine x_Vi (av := [.ref (q 2)]) (As := []) F hW (c_X1_allWicks l G (fun i => q (i + 2)) w.1.1 _ hc_93) [2, 3, 4, 5, 6, 7] rfl rfl (by intro q; cases q) cv_X5_264 rfl ⟨_, rfl, rfl⟩ rfl rfl rfl hl (Nat.le_of_ble_eq_true rfl) ⟨Nat.le_of_ble_eq_true rfl, Nat.le_of_ble_eq_true rfl⟩ ⟨rfl, rfl⟩ ⟨Nat.le_of_ble_eq_true rfl, Nat.le_of_ble_eq_true rfl⟩ dX5_count_93 rfl [none, none, some 0, some 1, some 2, some 3, some 4, some 5, none, none, none, none, none, none, none, none, none, none, none, none, none, none, none, none, none, none, none, none, none, none, none, none, none, none, none, none, none, none, none] rfl (ws' := cEW G q w) rfl (fun H locs hW => ?_)
    obtain rfl := Option.some.inj h
    exact x_reti F hr hW rfl dX5_count_96
  have h := h c_1_5
  obtain ⟨ht_1_6, h⟩ := of_ite h
  by_cases c_1_6 : x1 = (6 : Int32)
  · have h := ht_1_6 c_1_6
    refine x_tableIn c_1_6 hx hb dX5_count_1 (by decide) (by decide) (off := (96)) rfl (tgt := 97) (by decide) ?_
    refine lv_aload_n hx hb dX5_count_97 rfl (lv_at hl 0 rfl) ?_
    refine x_get F hW 0 rfl fa_X5_233 rfl dX5_count_98 ?_
    obtain rfl := Option.some.inj h
    exact x_reti F hr hW rfl dX5_count_101
  have h := h c_1_6
  obtain ⟨ht_1_7, h⟩ := of_ite h
  by_cases c_1_7 : x1 = (7 : Int32)
  · have h := ht_1_7 c_1_7
    refine x_tableIn c_1_7 hx hb dX5_count_1 (by decide) (by decide) (off := (101)) rfl (tgt := 102) (by decide) ?_
    refine lv_aload_n hx hb dX5_count_102 rfl (lv_at hl 0 rfl) ?_
    refine x_get F hW 0 rfl fa_X5_33 rfl dX5_count_103 ?_
    refine x_get F hW 35 rfl fa_X5_267 rfl dX5_count_106 ?_
    obtain rfl := Option.some.inj h
    exact x_reti F hr hW rfl dX5_count_109
  have h := h c_1_7
  refine lv_tableOut hx hb dX5_count_1 (by have z0 := x_ne c_1_0 (z := 0) (by decide); have z1 := x_ne c_1_1 (z := 1) (by decide); have z2 := x_ne c_1_2 (z := 2) (by decide); have z3 := x_ne c_1_3 (z := 3) (by decide); have z4 := x_ne c_1_4 (z := 4) (by decide); have z5 := x_ne c_1_5 (z := 5) (by decide); have z6 := x_ne c_1_6 (z := 6) (by decide); have z7 := x_ne c_1_7 (z := 7) (by decide); omega) (tgt := 110) (by decide) ?_
  refine lv_aload_n hx hb dX5_count_110 rfl (lv_at hl 0 rfl) ?_
  refine lv_iload_n hx hb dX5_count_111 rfl (lv_at hl 1 rfl) ?_
  refine lv_bipush (v := (10 : Int32)) hx hb dX5_count_112 (by decide) ?_
  refine lv_isub hx hb dX5_count_114 ?_
  obtain ⟨p_115, hc_115, h⟩ := of_bind h
  refine x_Vi (av := [.ref (q 0), .int (x1 - (10 : Int32))]) (As := [.int (x1 - (10 : Int32))]) F hW (c_X5_refusalsCounted l G q w (x1 - (10 : Int32)) _ hc_115) [0, 1, 2, 3, 4, 5, 6, 7, 8, 9, 10, 11, 12, 13, 14, 15, 16, 17, 18, 19, 20, 21, 22, 23, 24, 25, 26, 27, 28, 29, 30, 31, 32, 33, 34, 35, 36, 37, 38] rfl rfl (by intro q; cases q) cv_X5_270 rfl ⟨_, rfl, rfl⟩ rfl rfl rfl hl (Nat.le_of_ble_eq_true rfl) ⟨Nat.le_of_ble_eq_true rfl, Nat.le_of_ble_eq_true rfl⟩ ⟨rfl, rfl⟩ ⟨Nat.le_of_ble_eq_true rfl, Nat.le_of_ble_eq_true rfl⟩ dX5_count_115 rfl [some 0, some 1, some 2, some 3, some 4, some 5, some 6, some 7, some 8, some 9, some 10, some 11, some 12, some 13, some 14, some 15, some 16, some 17, some 18, some 19, some 20, some 21, some 22, some 23, some 24, some 25, some 26, some 27, some 28, some 29, some 30, some 31, some 32, some 33, some 34, some 35, some 36, some 37, some 38] rfl (ws' := cEW G q w) rfl (fun H locs hW => ?_)
  obtain rfl := Option.some.inj h
  exact x_reti F hr hW rfl dX5_count_118
