def f_X4_pairAtRest_26 (w_6 : TW) : Nat → Int32 → Option (Int32 × TW)
  | 0, _ => none
  | n1 + 1, v3_26 =>
    if (4 : Int32) ≤ v3_26 then
    some ((-9 : Int32), w_6)
    else
    if inR v3_26 4 then
    if inR (v3_26 ^^^ (2 : Int32)) 4 then
    if (w_6.2.2.2.2.2.1 v3_26.toNatClampNeg) < (w_6.2.2.2.2.2.1 (v3_26 ^^^ (2 : Int32)).toNatClampNeg) then
    f_X4_pairAtRest_26 w_6 n1 (v3_26 + (1 : Int32))
    else
    if inR v3_26 4 then
    if inR (v3_26 ^^^ (1 : Int32)) 4 then
    if (w_6.2.2.2.2.2.2 v3_26.toNatClampNeg) < (w_6.2.2.2.2.2.2 (v3_26 ^^^ (1 : Int32)).toNatClampNeg) then
    f_X4_pairAtRest_26 w_6 n1 (v3_26 + (1 : Int32))
    else
    some ((((10 : Int32) * (v3_26 / (2 : Int32))) + (remI v3_26 (2 : Int32))), w_6)
    else none
    else none
    else none
    else none
def f_X4_pairAtRest_6 (x1 : Int32) (x2 : Int32) : Nat → Int32 → TW → Option (Int32 × TW)
  | 0, _, _ => none
  | n0 + 1, v3_6, w_6 =>
    if (4 : Int32) ≤ v3_6 then
    f_X4_pairAtRest_26 w_6 200 (0 : Int32)
    else
    Option.bind (f_X4_weighPair w_6 v3_6 x1 x2) fun p_15 =>
    f_X4_pairAtRest_6 x1 x2 n0 (v3_6 + (1 : Int32)) p_15
def f_X4_pairAtRest (w : TW) (x1 : Int32) (x2 : Int32) : Option (Int32 × TW) :=
  Option.bind (f_X4_begin w) fun p_1 =>
    f_X4_pairAtRest_6 x1 x2 200 (0 : Int32) p_1
abbrev rmX4_pairAtRest : Room := { frames := 5, cells := 0, slots := 0, locals := 116 }
set_option maxRecDepth 100000 in
set_option maxHeartbeats 4000000 in
theorem c_X4_pairAtRest (l : Launch) (G : EnT) (q : Nat → Nat) (w : TW) (x1 : Int32) (x2 : Int32) (o : Int32 × TW) (h : f_X4_pairAtRest w x1 x2 = some o) : Mi l yX4_pairAtRest rmX4_pairAtRest cX4_pairAtRest 4 (some .int) G false [.ref (q 0), .int x1, .int x2] (cTW G q w) o.1 (cTW G q o.2) := by
  refine Mi_of (by decide) (Nat.le_of_ble_eq_true rfl) ?_
  intro p e s m below meth c A0 F hr hW ls hl
  obtain ⟨hx, hb, hml, hown, hts, hK, hNW, hlocks, hA, hSX⟩ := id F
  have hl : lv_has ls 4 [(0, .ref (q 0)), (1, .int x1), (2, .int x2)] := hl
  have hW : Wd G A0 s (cTW G q w) s.heap [] := hW
  show W p l e rmX4_pairAtRest s m ([.ref (q 0), .int x1, .int x2] : List Value).toArray below meth c s.heap [] 0 0 (Qi below G (cTW G q o.2) o.1 A0 ([.ref (q 0), .int x1, .int x2] : List Value).toArray s) (F0 m 0 ls [])
  refine lv_aload_n hx hb dX4_pairAtRest_0 rfl (lv_at hl 0 rfl) ?_
  obtain ⟨p_1, hc_1, h⟩ := of_bind h
  refine x_Vv (av := [.ref (q 0)]) (As := []) F hW (c_X4_begin l G q w _ hc_1) [0, 1, 2, 3, 4, 5, 6, 7, 8, 9, 10, 11, 12, 13, 14, 15, 16, 17, 18, 19, 20, 21] rfl rfl (by intro q; cases q) cv_X4_71 rfl ⟨_, rfl, rfl⟩ rfl rfl rfl hl (Nat.le_of_ble_eq_true rfl) ⟨Nat.le_of_ble_eq_true rfl, Nat.le_of_ble_eq_true rfl⟩ ⟨rfl, rfl⟩ ⟨Nat.le_of_ble_eq_true rfl, Nat.le_of_ble_eq_true rfl⟩ dX4_pairAtRest_1 rfl [some 0, some 1, some 2, some 3, some 4, some 5, some 6, some 7, some 8, some 9, some 10, some 11, some 12, some 13, some 14, some 15, some 16, some 17, some 18, some 19, some 20, some 21] rfl (ws' := cTW G q p_1) rfl (fun H locs hW => ?_)
  refine lv_iconst (v := (0 : Int32)) hx hb dX4_pairAtRest_4 (by decide) ?_
  refine lv_istore_n (lv' := [(3, .int (0 : Int32)), (0, .ref (q 0)), (1, .int x1), (2, .int x2)]) hx hb dX4_pairAtRest_5 rfl hl (by decide) rfl (fun ls hl => ?_)
  have L0 : ∀ (n0 : Nat) (v3_6 : Int32) (w_6 : TW) (H : Heap) (locs : List Loc) (ls : Array Slot), f_X4_pairAtRest_6 x1 x2 n0 v3_6 w_6 = some o → Wd G A0 s (cTW G q w_6) H locs → lv_has ls 4 [(3, .int v3_6), (0, .ref (q 0)), (1, .int x1), (2, .int x2)] → W p l e rmX4_pairAtRest s m ([.ref (q 0), .int x1, .int x2] : List Value).toArray below meth c H locs 0 0 (Qi below G (cTW G q o.2) o.1 A0 ([.ref (q 0), .int x1, .int x2] : List Value).toArray s) (F0 m 6 ls []) := by
    intro n0
    induction n0 with
    | zero => intro v3_6 w_6 H locs ls h; cases (show (none : Option (Int32 × TW)) = some o from h)
    | succ n0 ih0 =>
      intro v3_6 w_6 H locs ls h hW hl
      refine lv_iload_n hx hb dX4_pairAtRest_6 rfl (lv_at hl 0 rfl) ?_
      refine lv_iconst (v := (4 : Int32)) hx hb dX4_pairAtRest_7 (by decide) ?_
      obtain ⟨ht_8, hf_8⟩ := of_ite h
      refine lv_icmp_ge (tgt := 24) hx hb dX4_pairAtRest_8 (by decide) (fun c_8 => ?_) (fun c_8 => ?_)
      · have h := ht_8 c_8
        refine lv_iconst (v := (0 : Int32)) hx hb dX4_pairAtRest_24 (by decide) ?_
        refine lv_istore_n (lv' := [(3, .int (0 : Int32)), (0, .ref (q 0)), (1, .int x1), (2, .int x2)]) hx hb dX4_pairAtRest_25 rfl hl (by decide) rfl (fun ls hl => ?_)
        have L1 : ∀ (n1 : Nat) (v3_26 : Int32) (H : Heap) (locs : List Loc) (ls : Array Slot), f_X4_pairAtRest_26 w_6 n1 v3_26 = some o → Wd G A0 s (cTW G q w_6) H locs → lv_has ls 4 [(3, .int v3_26), (0, .ref (q 0))] → W p l e rmX4_pairAtRest s m ([.ref (q 0), .int x1, .int x2] : List Value).toArray below meth c H locs 0 0 (Qi below G (cTW G q o.2) o.1 A0 ([.ref (q 0), .int x1, .int x2] : List Value).toArray s) (F0 m 26 ls []) := by
          intro n1
          induction n1 with
          | zero => intro v3_26 H locs ls h; cases (show (none : Option (Int32 × TW)) = some o from h)
          | succ n1 ih1 =>
            intro v3_26 H locs ls h hW hl
            refine lv_iload_n hx hb dX4_pairAtRest_26 rfl (lv_at hl 0 rfl) ?_
            refine lv_iconst (v := (4 : Int32)) hx hb dX4_pairAtRest_27 (by decide) ?_
            obtain ⟨ht_28, hf_28⟩ := of_ite h
            refine lv_icmp_ge (tgt := 82) hx hb dX4_pairAtRest_28 (by decide) (fun c_28 => ?_) (fun c_28 => ?_)
            · have h := ht_28 c_28
              refine lv_bipush (v := (-9 : Int32)) hx hb dX4_pairAtRest_82 (by decide) ?_
              obtain rfl := Option.some.inj h
              exact x_reti F hr hW rfl dX4_pairAtRest_84
            · have h := hf_28 c_28
              refine lv_aload_n hx hb dX4_pairAtRest_31 rfl (lv_at hl 1 rfl) ?_
              refine x_get F hW 0 rfl fa_X4_35 rfl dX4_pairAtRest_32 ?_
              refine lv_iload_n hx hb dX4_pairAtRest_35 rfl (lv_at hl 0 rfl) ?_
              obtain ⟨g_36, h⟩ := of_guard h
              refine x_iald F hW 20 rfl g_36 dX4_pairAtRest_36 ?_
              refine lv_aload_n hx hb dX4_pairAtRest_37 rfl (lv_at hl 1 rfl) ?_
              refine x_get F hW 0 rfl fa_X4_35 rfl dX4_pairAtRest_38 ?_
              refine lv_iload_n hx hb dX4_pairAtRest_41 rfl (lv_at hl 0 rfl) ?_
              refine lv_iconst (v := (2 : Int32)) hx hb dX4_pairAtRest_42 (by decide) ?_
              refine lv_ixor hx hb dX4_pairAtRest_43 ?_
              obtain ⟨g_44, h⟩ := of_guard h
              refine x_iald F hW 20 rfl g_44 dX4_pairAtRest_44 ?_
              obtain ⟨ht_45, hf_45⟩ := of_ite h
              refine lv_icmp_lt (tgt := 76) hx hb dX4_pairAtRest_45 (by decide) (fun c_45 => ?_) (fun c_45 => ?_)
              · have h := ht_45 c_45
                refine lv_iinc (v := (v3_26 + (1 : Int32))) (lv' := [(3, .int (v3_26 + (1 : Int32))), (0, .ref (q 0))]) hx hb dX4_pairAtRest_76 hl (k := 0) rfl rfl (by decide) rfl (fun ls hl => ?_)
                refine lv_goto (tgt := 26) hx hb dX4_pairAtRest_79 (by decide) ?_
                exact ih1 (v3_26 + (1 : Int32)) _ _ _ h hW (lv_sub hl [0, 1] rfl)
              · have h := hf_45 c_45
                refine lv_aload_n hx hb dX4_pairAtRest_48 rfl (lv_at hl 1 rfl) ?_
                refine x_get F hW 0 rfl fa_X4_38 rfl dX4_pairAtRest_49 ?_
                refine lv_iload_n hx hb dX4_pairAtRest_52 rfl (lv_at hl 0 rfl) ?_
                obtain ⟨g_53, h⟩ := of_guard h
                refine x_iald F hW 21 rfl g_53 dX4_pairAtRest_53 ?_
                refine lv_aload_n hx hb dX4_pairAtRest_54 rfl (lv_at hl 1 rfl) ?_
                refine x_get F hW 0 rfl fa_X4_38 rfl dX4_pairAtRest_55 ?_
                refine lv_iload_n hx hb dX4_pairAtRest_58 rfl (lv_at hl 0 rfl) ?_
                refine lv_iconst (v := (1 : Int32)) hx hb dX4_pairAtRest_59 (by decide) ?_
                refine lv_ixor hx hb dX4_pairAtRest_60 ?_
                obtain ⟨g_61, h⟩ := of_guard h
                refine x_iald F hW 21 rfl g_61 dX4_pairAtRest_61 ?_
                obtain ⟨ht_62, hf_62⟩ := of_ite h
                refine lv_icmp_lt (tgt := 76) hx hb dX4_pairAtRest_62 (by decide) (fun c_62 => ?_) (fun c_62 => ?_)
                · have h := ht_62 c_62
                  refine lv_iinc (v := (v3_26 + (1 : Int32))) (lv' := [(3, .int (v3_26 + (1 : Int32))), (0, .ref (q 0))]) hx hb dX4_pairAtRest_76 hl (k := 0) rfl rfl (by decide) rfl (fun ls hl => ?_)
                  refine lv_goto (tgt := 26) hx hb dX4_pairAtRest_79 (by decide) ?_
                  exact ih1 (v3_26 + (1 : Int32)) _ _ _ h hW (lv_sub hl [0, 1] rfl)
                · have h := hf_62 c_62
                  refine lv_bipush (v := (10 : Int32)) hx hb dX4_pairAtRest_65 (by decide) ?_
                  refine lv_iload_n hx hb dX4_pairAtRest_67 rfl (lv_at hl 0 rfl) ?_
                  refine lv_iconst (v := (2 : Int32)) hx hb dX4_pairAtRest_68 (by decide) ?_
                  refine lv_idiv hx hb dX4_pairAtRest_69 (by decide) ?_
                  refine lv_imul hx hb dX4_pairAtRest_70 ?_
                  refine lv_iload_n hx hb dX4_pairAtRest_71 rfl (lv_at hl 0 rfl) ?_
                  refine lv_iconst (v := (2 : Int32)) hx hb dX4_pairAtRest_72 (by decide) ?_
                  refine lv_irem hx hb dX4_pairAtRest_73 (by decide) ?_
                  refine lv_iadd hx hb dX4_pairAtRest_74 ?_
                  obtain rfl := Option.some.inj h
                  exact x_reti F hr hW rfl dX4_pairAtRest_75
        exact L1 200 (0 : Int32) _ _ _ h hW (lv_sub hl [0, 1] rfl)
      · have h := hf_8 c_8
        refine lv_aload_n hx hb dX4_pairAtRest_11 rfl (lv_at hl 1 rfl) ?_
        refine lv_iload_n hx hb dX4_pairAtRest_12 rfl (lv_at hl 0 rfl) ?_
        refine lv_iload_n hx hb dX4_pairAtRest_13 rfl (lv_at hl 2 rfl) ?_
        refine lv_iload_n hx hb dX4_pairAtRest_14 rfl (lv_at hl 3 rfl) ?_
        obtain ⟨p_15, hc_15, h⟩ := of_bind h
        refine x_Vv (av := [.ref (q 0), .int v3_6, .int x1, .int x2]) (As := [.int v3_6, .int x1, .int x2]) F hW (c_X4_weighPair l G q w_6 v3_6 x1 x2 _ hc_15) [0, 1, 2, 3, 4, 5, 6, 7, 8, 9, 10, 11, 12, 13, 14, 15, 16, 17, 18, 19, 20, 21] rfl rfl (by intro q; cases q) cv_X4_172 rfl ⟨_, rfl, rfl⟩ rfl rfl rfl hl (Nat.le_of_ble_eq_true rfl) ⟨Nat.le_of_ble_eq_true rfl, Nat.le_of_ble_eq_true rfl⟩ ⟨rfl, rfl⟩ ⟨Nat.le_of_ble_eq_true rfl, Nat.le_of_ble_eq_true rfl⟩ dX4_pairAtRest_15 rfl [some 0, some 1, some 2, some 3, some 4, some 5, some 6, some 7, some 8, some 9, some 10, some 11, some 12, some 13, some 14, some 15, some 16, some 17, some 18, some 19, some 20, some 21] rfl (ws' := cTW G q p_15) rfl (fun H locs hW => ?_)
        refine lv_iinc (v := (v3_6 + (1 : Int32))) (lv' := [(3, .int (v3_6 + (1 : Int32))), (0, .ref (q 0)), (1, .int x1), (2, .int x2)]) hx hb dX4_pairAtRest_18 hl (k := 0) rfl rfl (by decide) rfl (fun ls hl => ?_)
        refine lv_goto (tgt := 6) hx hb dX4_pairAtRest_21 (by decide) ?_
        exact ih0 (v3_6 + (1 : Int32)) p_15 _ _ _ h hW (lv_sub hl [0, 1, 2, 3] rfl)
  exact L0 200 (0 : Int32) p_1 _ _ _ h hW (lv_sub hl [0, 1, 2, 3] rfl)
def f_X4_mistAbove_91 (k0 : Int32 → Int64 → TW → Option (Int64 × TW)) (v8_91 : Int32) (v6_91 : Int32) (v4_91 : Int64) (t0_91 : Int32) (w_91 : TW) : Option (Int64 × TW) :=
  nm (v4_91 * ((v8_91 + t0_91).toInt64)) fun x_102 =>
    Option.bind (f_X1_passNight w_91.2.1) fun p_108 =>
    k0 (v6_91 + (1 : Int32)) x_102 (w_91.1, p_108, w_91.2.2.1, w_91.2.2.2.1, w_91.2.2.2.2.1, w_91.2.2.2.2.2.1, w_91.2.2.2.2.2.2)
def f_X4_mistAbove_68 (k0 : Int32 → Int64 → TW → Option (Int64 × TW)) (x1 : Int32) (v7_68 : Int32) (v6_68 : Int32) (v4_68 : Int64) (t0_68 : Int32) (w_68 : TW) : Option (Int64 × TW) :=
  Option.bind (f_X3_hanging w_68.2.2.2.1 v7_68) fun p_76 =>
    Option.bind (f_X5_has p_76 x1) fun p_80 =>
    if p_80 = 0 then
    f_X4_mistAbove_91 k0 t0_68 v6_68 v4_68 (0 : Int32) w_68
    else
    f_X4_mistAbove_91 k0 t0_68 v6_68 v4_68 (1 : Int32) w_68
def f_X4_mistAbove_30 (x2 : Int32) (x1 : Int32) (x3 : Int32) : Nat → Int32 → Int64 → TW → Option (Int64 × TW)
  | 0, _, _, _ => none
  | n0 + 1, v6_30, v4_30, w_30 =>
    if x2 ≤ v6_30 then
    some (v4_30, w_30)
    else
    Option.bind (f_X1_lit w_30.2.1) fun p_40 =>
    Option.bind (f_X3_hanging w_30.2.2.1 p_40) fun p_51 =>
    Option.bind (f_X5_has p_51 x1) fun p_55 =>
    if p_55 = 0 then
    f_X4_mistAbove_68 (fun a0 a1 a2 => f_X4_mistAbove_30 x2 x1 x3 n0 a0 a1 a2) x1 p_40 v6_30 v4_30 (0 : Int32) w_30
    else
    f_X4_mistAbove_68 (fun a0 a1 a2 => f_X4_mistAbove_30 x2 x1 x3 n0 a0 a1 a2) x1 p_40 v6_30 v4_30 (x3 - (1 : Int32)) w_30
def f_X4_mistAbove (w : TW) (x1 : Int32) (x2 : Int32) (x3 : Int32) : Option (Int64 × TW) :=
  Option.bind (f_X4_begin w) fun p_1 =>
    Option.bind (f_X3_lookOver p_1.2.2.2.1 (p_1.2.1.1, p_1.2.1.2.1, p_1.2.1.2.2.1, p_1.2.1.2.2.2.1, p_1.2.1.2.2.2.2.1, p_1.2.1.2.2.2.2.2.1, p_1.2.1.2.2.2.2.2.2.1, (9 : Int32), p_1.2.1.2.2.2.2.2.2.2.2)) fun p_21 =>
    f_X4_mistAbove_30 x2 x1 x3 200 (0 : Int32) (1 : Int64) (p_1.1, (p_1.2.1.1, p_1.2.1.2.1, p_1.2.1.2.2.1, p_1.2.1.2.2.2.1, p_1.2.1.2.2.2.2.1, p_1.2.1.2.2.2.2.2.1, p_1.2.1.2.2.2.2.2.2.1, (9 : Int32), p_1.2.1.2.2.2.2.2.2.2.2), p_1.2.2.1, p_21, p_1.2.2.2.2.1, p_1.2.2.2.2.2.1, p_1.2.2.2.2.2.2)
abbrev rmX4_mistAbove : Room := { frames := 4, cells := 0, slots := 0, locals := 105 }
set_option maxRecDepth 100000 in
set_option maxHeartbeats 4000000 in
theorem c_X4_mistAbove (l : Launch) (G : EnT) (q : Nat → Nat) (w : TW) (x1 : Int32) (x2 : Int32) (x3 : Int32) (o : Int64 × TW) (h : f_X4_mistAbove w x1 x2 x3 = some o) : Ml l yX4_mistAbove rmX4_mistAbove cX4_mistAbove 10 (some .long) G false [.ref (q 0), .int x1, .int x2, .int x3] (cTW G q w) o.1 (cTW G q o.2) := by
  refine Ml_of (by decide) (Nat.le_of_ble_eq_true rfl) ?_
  intro p e s m below meth c A0 F hr hW ls hl
  obtain ⟨hx, hb, hml, hown, hts, hK, hNW, hlocks, hA, hSX⟩ := id F
  have hl : lv_has ls 10 [(0, .ref (q 0)), (1, .int x1), (2, .int x2), (3, .int x3)] := hl
  have hW : Wd G A0 s (cTW G q w) s.heap [] := hW
  show W p l e rmX4_mistAbove s m ([.ref (q 0), .int x1, .int x2, .int x3] : List Value).toArray below meth c s.heap [] 0 0 (Ql below G (cTW G q o.2) o.1 A0 ([.ref (q 0), .int x1, .int x2, .int x3] : List Value).toArray s) (F0 m 0 ls [])
  refine lv_aload_n hx hb dX4_mistAbove_0 rfl (lv_at hl 0 rfl) ?_
  obtain ⟨p_1, hc_1, h⟩ := of_bind h
  refine x_Vv (av := [.ref (q 0)]) (As := []) F hW (c_X4_begin l G q w _ hc_1) [0, 1, 2, 3, 4, 5, 6, 7, 8, 9, 10, 11, 12, 13, 14, 15, 16, 17, 18, 19, 20, 21] rfl rfl (by intro q; cases q) cv_X4_71 rfl ⟨_, rfl, rfl⟩ rfl rfl rfl hl (Nat.le_of_ble_eq_true rfl) ⟨Nat.le_of_ble_eq_true rfl, Nat.le_of_ble_eq_true rfl⟩ ⟨rfl, rfl⟩ ⟨Nat.le_of_ble_eq_true rfl, Nat.le_of_ble_eq_true rfl⟩ dX4_mistAbove_1 rfl [some 0, some 1, some 2, some 3, some 4, some 5, some 6, some 7, some 8, some 9, some 10, some 11, some 12, some 13, some 14, some 15, some 16, some 17, some 18, some 19, some 20, some 21] rfl (ws' := cTW G q p_1) rfl (fun H locs hW => ?_)
  refine lv_aload_n hx hb dX4_mistAbove_4 rfl (lv_at hl 0 rfl) ?_
  refine x_get F hW 0 rfl fa_X4_18 rfl dX4_mistAbove_5 ?_
  refine lv_bipush (v := (9 : Int32)) hx hb dX4_mistAbove_8 (by decide) ?_
  refine x_put F hW 7 rfl fp_X4_169 rfl rfl (Nat.le_of_ble_eq_true rfl) (ws' := cTW G q (p_1.1, (p_1.2.1.1, p_1.2.1.2.1, p_1.2.1.2.2.1, p_1.2.1.2.2.2.1, p_1.2.1.2.2.2.2.1, p_1.2.1.2.2.2.2.2.1, p_1.2.1.2.2.2.2.2.2.1, (9 : Int32), p_1.2.1.2.2.2.2.2.2.2.2), p_1.2.2.1, p_1.2.2.2.1, p_1.2.2.2.2.1, p_1.2.2.2.2.2.1, p_1.2.2.2.2.2.2)) rfl dX4_mistAbove_10 (fun H locs hW => ?_)
  refine lv_aload_n hx hb dX4_mistAbove_13 rfl (lv_at hl 0 rfl) ?_
  refine x_get F hW 0 rfl fa_X4_28 rfl dX4_mistAbove_14 ?_
  refine lv_aload_n hx hb dX4_mistAbove_17 rfl (lv_at hl 0 rfl) ?_
  refine x_get F hW 0 rfl fa_X4_18 rfl dX4_mistAbove_18 ?_
  obtain ⟨p_21, hc_21, h⟩ := of_bind h
  refine x_Vv (av := [.ref (q 16), .ref (q 7)]) (As := [.ref (q 7)]) F hW (c_X3_lookOver l G (fun i => q (i + 16)) p_1.2.2.2.1 (fun i => q (i + 7)) (p_1.2.1.1, p_1.2.1.2.1, p_1.2.1.2.2.1, p_1.2.1.2.2.2.1, p_1.2.1.2.2.2.2.1, p_1.2.1.2.2.2.2.2.1, p_1.2.1.2.2.2.2.2.2.1, (9 : Int32), p_1.2.1.2.2.2.2.2.2.2.2) _ hc_21) [16, 17, 18, 7, 8, 9, 10, 11, 12] rfl rfl (by intro q; cases q) cv_X4_131 rfl ⟨_, rfl, rfl⟩ rfl rfl rfl hl (Nat.le_of_ble_eq_true rfl) ⟨Nat.le_of_ble_eq_true rfl, Nat.le_of_ble_eq_true rfl⟩ ⟨rfl, rfl⟩ ⟨Nat.le_of_ble_eq_true rfl, Nat.le_of_ble_eq_true rfl⟩ dX4_mistAbove_21 rfl [none, none, none, none, none, none, none, some 3, some 4, some 5, some 6, some 7, some 8, none, none, none, some 0, some 1, some 2, none, none, none] rfl (ws' := cTW G q (p_1.1, (p_1.2.1.1, p_1.2.1.2.1, p_1.2.1.2.2.1, p_1.2.1.2.2.2.1, p_1.2.1.2.2.2.2.1, p_1.2.1.2.2.2.2.2.1, p_1.2.1.2.2.2.2.2.2.1, (9 : Int32), p_1.2.1.2.2.2.2.2.2.2.2), p_1.2.2.1, p_21, p_1.2.2.2.2.1, p_1.2.2.2.2.2.1, p_1.2.2.2.2.2.2)) rfl (fun H locs hW => ?_)
  refine lv_lconst (v := (1 : Int64)) hx hb dX4_mistAbove_24 (by decide) ?_
  refine lv_lstore (lv' := [(4, .long (1 : Int64)), (0, .ref (q 0)), (1, .int x1), (2, .int x2), (3, .int x3)]) hx hb dX4_mistAbove_25 hl (by decide) rfl (fun ls hl => ?_)
  refine lv_iconst (v := (0 : Int32)) hx hb dX4_mistAbove_27 (by decide) ?_
  refine lv_istore (lv' := [(6, .int (0 : Int32)), (4, .long (1 : Int64)), (0, .ref (q 0)), (1, .int x1), (2, .int x2), (3, .int x3)]) hx hb dX4_mistAbove_28 hl (by decide) rfl (fun ls hl => ?_)
  have L0 : ∀ (n0 : Nat) (v6_30 : Int32) (v4_30 : Int64) (w_30 : TW) (H : Heap) (locs : List Loc) (ls : Array Slot), f_X4_mistAbove_30 x2 x1 x3 n0 v6_30 v4_30 w_30 = some o → Wd G A0 s (cTW G q w_30) H locs → lv_has ls 10 [(6, .int v6_30), (4, .long v4_30), (0, .ref (q 0)), (1, .int x1), (2, .int x2), (3, .int x3)] → W p l e rmX4_mistAbove s m ([.ref (q 0), .int x1, .int x2, .int x3] : List Value).toArray below meth c H locs 0 0 (Ql below G (cTW G q o.2) o.1 A0 ([.ref (q 0), .int x1, .int x2, .int x3] : List Value).toArray s) (F0 m 30 ls []) := by
    intro n0
    induction n0 with
    | zero => intro v6_30 v4_30 w_30 H locs ls h; cases (show (none : Option (Int64 × TW)) = some o from h)
    | succ n0 ih0 =>
      intro v6_30 v4_30 w_30 H locs ls h hW hl
      have J1 : ∀ (v8_91 : Int32) (v6_91 : Int32) (v4_91 : Int64) (t0_91 : Int32) (w_91 : TW) (H : Heap) (locs : List Loc) (ls : Array Slot), f_X4_mistAbove_91 (fun a0 a1 a2 => f_X4_mistAbove_30 x2 x1 x3 n0 a0 a1 a2) v8_91 v6_91 v4_91 t0_91 w_91 = some o → Wd G A0 s (cTW G q w_91) H locs → lv_has ls 10 [(8, .int v8_91), (6, .int v6_91), (4, .long v4_91), (0, .ref (q 0)), (1, .int x1), (2, .int x2), (3, .int x3)] → W p l e rmX4_mistAbove s m ([.ref (q 0), .int x1, .int x2, .int x3] : List Value).toArray below meth c H locs 0 0 (Ql below G (cTW G q o.2) o.1 A0 ([.ref (q 0), .int x1, .int x2, .int x3] : List Value).toArray s) (F0 m 91 ls [.int t0_91]) := by
        intro v8_91 v6_91 v4_91 t0_91 w_91 H locs ls h hW hl
        refine lv_istore (lv' := [(9, .int t0_91), (8, .int v8_91), (6, .int v6_91), (4, .long v4_91), (0, .ref (q 0)), (1, .int x1), (2, .int x2), (3, .int x3)]) hx hb dX4_mistAbove_91 hl (by decide) rfl (fun ls hl => ?_)
        refine lv_lload hx hb dX4_mistAbove_93 (lv_at hl 3 rfl) ?_
        refine lv_iload hx hb dX4_mistAbove_95 (lv_at hl 1 rfl) ?_
        refine lv_iload hx hb dX4_mistAbove_97 (lv_at hl 0 rfl) ?_
        refine lv_iadd hx hb dX4_mistAbove_99 ?_
        refine lv_i2l (v := ((v8_91 + t0_91).toInt64)) hx hb dX4_mistAbove_100 rfl ?_
        refine lv_lmul hx hb dX4_mistAbove_101 ?_
        obtain ⟨x_102, e_x_102, h⟩ := of_nm h
        refine x_topl e_x_102 ?_
        refine lv_lstore (lv' := [(4, .long x_102), (9, .int t0_91), (8, .int v8_91), (6, .int v6_91), (0, .ref (q 0)), (1, .int x1), (2, .int x2), (3, .int x3)]) hx hb dX4_mistAbove_102 hl (by decide) rfl (fun ls hl => ?_)
        refine lv_aload_n hx hb dX4_mistAbove_104 rfl (lv_at hl 4 rfl) ?_
        refine x_get F hW 0 rfl fa_X4_18 rfl dX4_mistAbove_105 ?_
        obtain ⟨p_108, hc_108, h⟩ := of_bind h
        refine x_Vv (av := [.ref (q 7)]) (As := []) F hW (c_X1_passNight l G (fun i => q (i + 7)) w_91.2.1 _ hc_108) [7, 8, 9, 10, 11, 12] rfl rfl (by intro q; cases q) cv_X4_64 rfl ⟨_, rfl, rfl⟩ rfl rfl rfl hl (Nat.le_of_ble_eq_true rfl) ⟨Nat.le_of_ble_eq_true rfl, Nat.le_of_ble_eq_true rfl⟩ ⟨rfl, rfl⟩ ⟨Nat.le_of_ble_eq_true rfl, Nat.le_of_ble_eq_true rfl⟩ dX4_mistAbove_108 rfl [none, none, none, none, none, none, none, some 0, some 1, some 2, some 3, some 4, some 5, none, none, none, none, none, none, none, none, none] rfl (ws' := cTW G q (w_91.1, p_108, w_91.2.2.1, w_91.2.2.2.1, w_91.2.2.2.2.1, w_91.2.2.2.2.2.1, w_91.2.2.2.2.2.2)) rfl (fun H locs hW => ?_)
        refine lv_iinc (v := (v6_91 + (1 : Int32))) (lv' := [(6, .int (v6_91 + (1 : Int32))), (4, .long x_102), (9, .int t0_91), (8, .int v8_91), (0, .ref (q 0)), (1, .int x1), (2, .int x2), (3, .int x3)]) hx hb dX4_mistAbove_111 hl (k := 3) rfl rfl (by decide) rfl (fun ls hl => ?_)
        refine lv_goto (tgt := 30) hx hb dX4_mistAbove_114 (by decide) ?_
        exact ih0 (v6_91 + (1 : Int32)) x_102 (w_91.1, p_108, w_91.2.2.1, w_91.2.2.2.1, w_91.2.2.2.2.1, w_91.2.2.2.2.2.1, w_91.2.2.2.2.2.2) _ _ _ h hW (lv_sub hl [0, 1, 4, 5, 6, 7] rfl)
      have J2 : ∀ (v7_68 : Int32) (v6_68 : Int32) (v4_68 : Int64) (t0_68 : Int32) (w_68 : TW) (H : Heap) (locs : List Loc) (ls : Array Slot), f_X4_mistAbove_68 (fun a0 a1 a2 => f_X4_mistAbove_30 x2 x1 x3 n0 a0 a1 a2) x1 v7_68 v6_68 v4_68 t0_68 w_68 = some o → Wd G A0 s (cTW G q w_68) H locs → lv_has ls 10 [(7, .int v7_68), (6, .int v6_68), (4, .long v4_68), (0, .ref (q 0)), (1, .int x1), (2, .int x2), (3, .int x3)] → W p l e rmX4_mistAbove s m ([.ref (q 0), .int x1, .int x2, .int x3] : List Value).toArray below meth c H locs 0 0 (Ql below G (cTW G q o.2) o.1 A0 ([.ref (q 0), .int x1, .int x2, .int x3] : List Value).toArray s) (F0 m 68 ls [.int t0_68]) := by
        intro v7_68 v6_68 v4_68 t0_68 w_68 H locs ls h hW hl
        refine lv_istore (lv' := [(8, .int t0_68), (7, .int v7_68), (6, .int v6_68), (4, .long v4_68), (0, .ref (q 0)), (1, .int x1), (2, .int x2), (3, .int x3)]) hx hb dX4_mistAbove_68 hl (by decide) rfl (fun ls hl => ?_)
        refine lv_aload_n hx hb dX4_mistAbove_70 rfl (lv_at hl 4 rfl) ?_
        refine x_get F hW 0 rfl fa_X4_28 rfl dX4_mistAbove_71 ?_
        refine lv_iload hx hb dX4_mistAbove_74 (lv_at hl 1 rfl) ?_
        obtain ⟨p_76, hc_76, h⟩ := of_bind h
        refine x_Vi (av := [.ref (q 16), .int v7_68]) (As := [.int v7_68]) F hW (c_X3_hanging l G (fun i => q (i + 16)) w_68.2.2.2.1 v7_68 _ hc_76) [16, 17, 18] rfl rfl (by intro q; cases q) cv_X4_55 rfl ⟨_, rfl, rfl⟩ rfl rfl rfl hl (Nat.le_of_ble_eq_true rfl) ⟨Nat.le_of_ble_eq_true rfl, Nat.le_of_ble_eq_true rfl⟩ ⟨rfl, rfl⟩ ⟨Nat.le_of_ble_eq_true rfl, Nat.le_of_ble_eq_true rfl⟩ dX4_mistAbove_76 rfl [none, none, none, none, none, none, none, none, none, none, none, none, none, none, none, none, some 0, some 1, some 2, none, none, none] rfl (ws' := cTW G q w_68) rfl (fun H locs hW => ?_)
        refine lv_iload_n hx hb dX4_mistAbove_79 rfl (lv_at hl 5 rfl) ?_
        obtain ⟨p_80, hc_80, h⟩ := of_bind h
        refine x_Ni (av := [.int p_76, .int x1]) F hW (c_X5_has l G p_76 x1 _ hc_80) [] rfl rfl (by intro q; cases q) cn_X4_80 rfl rfl hl (Nat.le_of_ble_eq_true rfl) ⟨Nat.le_of_ble_eq_true rfl, Nat.le_of_ble_eq_true rfl⟩ ⟨rfl, rfl⟩ ⟨Nat.le_of_ble_eq_true rfl, Nat.le_of_ble_eq_true rfl⟩ dX4_mistAbove_80 rfl [none, none, none, none, none, none, none, none, none, none, none, none, none, none, none, none, none, none, none, none, none, none] rfl (ws' := cTW G q w_68) rfl (fun H locs hW => ?_)
        obtain ⟨ht_83, hf_83⟩ := of_ite h
        refine lv_if_eq (tgt := 90) hx hb dX4_mistAbove_83 (by decide) (fun c_83 => ?_) (fun c_83 => ?_)
        · have h := ht_83 c_83
          refine lv_iconst (v := (0 : Int32)) hx hb dX4_mistAbove_90 (by decide) ?_
          exact J1 t0_68 v6_68 v4_68 (0 : Int32) w_68 _ _ _ h hW (lv_sub hl [0, 2, 3, 4, 5, 6, 7] rfl)
        · have h := hf_83 c_83
          refine lv_iconst (v := (1 : Int32)) hx hb dX4_mistAbove_86 (by decide) ?_
          refine lv_goto (tgt := 91) hx hb dX4_mistAbove_87 (by decide) ?_
          exact J1 t0_68 v6_68 v4_68 (1 : Int32) w_68 _ _ _ h hW (lv_sub hl [0, 2, 3, 4, 5, 6, 7] rfl)
      refine lv_iload hx hb dX4_mistAbove_30 (lv_at hl 0 rfl) ?_
      refine lv_iload_n hx hb dX4_mistAbove_32 rfl (lv_at hl 4 rfl) ?_
      obtain ⟨ht_33, hf_33⟩ := of_ite h
      refine lv_icmp_ge (tgt := 117) hx hb dX4_mistAbove_33 (by decide) (fun c_33 => ?_) (fun c_33 => ?_)
      · have h := ht_33 c_33
        refine lv_lload hx hb dX4_mistAbove_117 (lv_at hl 1 rfl) ?_
        obtain rfl := Option.some.inj h
        exact x_retl F hr hW rfl dX4_mistAbove_119
      · have h := hf_33 c_33
        refine lv_aload_n hx hb dX4_mistAbove_36 rfl (lv_at hl 2 rfl) ?_
        refine x_get F hW 0 rfl fa_X4_18 rfl dX4_mistAbove_37 ?_
        obtain ⟨p_40, hc_40, h⟩ := of_bind h
        refine x_Vi (av := [.ref (q 7)]) (As := []) F hW (c_X1_lit l G (fun i => q (i + 7)) w_30.2.1 _ hc_40) [7, 8, 9, 10, 11, 12] rfl rfl (by intro q; cases q) cv_X4_51 rfl ⟨_, rfl, rfl⟩ rfl rfl rfl hl (Nat.le_of_ble_eq_true rfl) ⟨Nat.le_of_ble_eq_true rfl, Nat.le_of_ble_eq_true rfl⟩ ⟨rfl, rfl⟩ ⟨Nat.le_of_ble_eq_true rfl, Nat.le_of_ble_eq_true rfl⟩ dX4_mistAbove_40 rfl [none, none, none, none, none, none, none, some 0, some 1, some 2, some 3, some 4, some 5, none, none, none, none, none, none, none, none, none] rfl (ws' := cTW G q w_30) rfl (fun H locs hW => ?_)
        refine lv_istore (lv' := [(7, .int p_40), (6, .int v6_30), (4, .long v4_30), (0, .ref (q 0)), (1, .int x1), (2, .int x2), (3, .int x3)]) hx hb dX4_mistAbove_43 hl (by decide) rfl (fun ls hl => ?_)
        refine lv_aload_n hx hb dX4_mistAbove_45 rfl (lv_at hl 3 rfl) ?_
        refine x_get F hW 0 rfl fa_X4_24 rfl dX4_mistAbove_46 ?_
        refine lv_iload hx hb dX4_mistAbove_49 (lv_at hl 0 rfl) ?_
        obtain ⟨p_51, hc_51, h⟩ := of_bind h
        refine x_Vi (av := [.ref (q 13), .int p_40]) (As := [.int p_40]) F hW (c_X3_hanging l G (fun i => q (i + 13)) w_30.2.2.1 p_40 _ hc_51) [13, 14, 15] rfl rfl (by intro q; cases q) cv_X4_55 rfl ⟨_, rfl, rfl⟩ rfl rfl rfl hl (Nat.le_of_ble_eq_true rfl) ⟨Nat.le_of_ble_eq_true rfl, Nat.le_of_ble_eq_true rfl⟩ ⟨rfl, rfl⟩ ⟨Nat.le_of_ble_eq_true rfl, Nat.le_of_ble_eq_true rfl⟩ dX4_mistAbove_51 rfl [none, none, none, none, none, none, none, none, none, none, none, none, none, some 0, some 1, some 2, none, none, none, none, none, none] rfl (ws' := cTW G q w_30) rfl (fun H locs hW => ?_)
        refine lv_iload_n hx hb dX4_mistAbove_54 rfl (lv_at hl 4 rfl) ?_
        obtain ⟨p_55, hc_55, h⟩ := of_bind h
        refine x_Ni (av := [.int p_51, .int x1]) F hW (c_X5_has l G p_51 x1 _ hc_55) [] rfl rfl (by intro q; cases q) cn_X4_80 rfl rfl hl (Nat.le_of_ble_eq_true rfl) ⟨Nat.le_of_ble_eq_true rfl, Nat.le_of_ble_eq_true rfl⟩ ⟨rfl, rfl⟩ ⟨Nat.le_of_ble_eq_true rfl, Nat.le_of_ble_eq_true rfl⟩ dX4_mistAbove_55 rfl [none, none, none, none, none, none, none, none, none, none, none, none, none, none, none, none, none, none, none, none, none, none] rfl (ws' := cTW G q w_30) rfl (fun H locs hW => ?_)
        obtain ⟨ht_58, hf_58⟩ := of_ite h
        refine lv_if_eq (tgt := 67) hx hb dX4_mistAbove_58 (by decide) (fun c_58 => ?_) (fun c_58 => ?_)
        · have h := ht_58 c_58
          refine lv_iconst (v := (0 : Int32)) hx hb dX4_mistAbove_67 (by decide) ?_
          exact J2 p_40 v6_30 v4_30 (0 : Int32) w_30 _ _ _ h hW (lv_sub hl [0, 1, 2, 3, 4, 5, 6] rfl)
        · have h := hf_58 c_58
          refine lv_iload_n hx hb dX4_mistAbove_61 rfl (lv_at hl 6 rfl) ?_
          refine lv_iconst (v := (1 : Int32)) hx hb dX4_mistAbove_62 (by decide) ?_
          refine lv_isub hx hb dX4_mistAbove_63 ?_
          refine lv_goto (tgt := 68) hx hb dX4_mistAbove_64 (by decide) ?_
          exact J2 p_40 v6_30 v4_30 (x3 - (1 : Int32)) w_30 _ _ _ h hW (lv_sub hl [0, 1, 2, 3, 4, 5, 6] rfl)
  exact L0 200 (0 : Int32) (1 : Int64) (p_1.1, (p_1.2.1.1, p_1.2.1.2.1, p_1.2.1.2.2.1, p_1.2.1.2.2.2.1, p_1.2.1.2.2.2.2.1, p_1.2.1.2.2.2.2.2.1, p_1.2.1.2.2.2.2.2.2.1, (9 : Int32), p_1.2.1.2.2.2.2.2.2.2.2), p_1.2.2.1, p_21, p_1.2.2.2.2.1, p_1.2.2.2.2.2.1, p_1.2.2.2.2.2.2) _ _ _ h hW (lv_sub hl [0, 1, 2, 3, 4, 5] rfl)
def f_X4_isSo_13 (x1 : Int32) (w2 : (Nat → Int32)) : Nat → Int32 → TW → Option (Int32 × TW)
  | 0, _, _ => none
  | n0 + 1, v3_13, w_13 =>
    if x1 ≤ v3_13 then
    some ((1 : Int32), w_13)
    else
    if (16 : Int32) ≤ v3_13 then
    some ((1 : Int32), w_13)
    else
    Option.bind (f_X4_hangers w_13) fun p_25 =>
    Option.bind (f_J6_bitCount_0f7a4 p_25) fun p_28 =>
    if inR v3_13 16 then
    if p_28 = (w2 v3_13.toNatClampNeg) then
    Option.bind (f_X1_passNight w_13.2.1) fun p_43 =>
    f_X4_isSo_13 x1 w2 n0 (v3_13 + (1 : Int32)) (w_13.1, p_43, w_13.2.2.1, w_13.2.2.2.1, w_13.2.2.2.2.1, w_13.2.2.2.2.2.1, w_13.2.2.2.2.2.2)
    else
    some ((0 : Int32), w_13)
    else none
def f_X4_isSo (w : TW) (w2 : (Nat → Int32)) (x1 : Int32) : Option (Int32 × TW) :=
  Option.bind (f_X3_lookOver w.2.2.1 w.2.1) fun p_8 =>
    f_X4_isSo_13 x1 w2 200 (0 : Int32) (w.1, w.2.1, p_8, w.2.2.2.1, w.2.2.2.2.1, w.2.2.2.2.2.1, w.2.2.2.2.2.2)
abbrev rmX4_isSo : Room := { frames := 4, cells := 0, slots := 0, locals := 99 }
set_option maxRecDepth 100000 in
set_option maxHeartbeats 4000000 in
theorem c_X4_isSo (l : Launch) (G : EnT) (q : Nat → Nat) (w : TW) (q2 : Nat → Nat) (w2 : (Nat → Int32)) (x1 : Int32) (o : Int32 × TW) (h : f_X4_isSo w w2 x1 = some o) : Mi l yX4_isSo rmX4_isSo cX4_isSo 4 (some .boolean) G false [.ref (q 0), .ref (q2 0), .int x1] (cTW G q w ++ cAR G 16 q2 w2) o.1 (cTW G q o.2 ++ cAR G 16 q2 w2) := by
  refine Mi_of (by decide) (Nat.le_of_ble_eq_true rfl) ?_
  intro p e s m below meth c A0 F hr hW ls hl
  obtain ⟨hx, hb, hml, hown, hts, hK, hNW, hlocks, hA, hSX⟩ := id F
  have hl : lv_has ls 4 [(0, .ref (q 0)), (1, .ref (q2 0)), (2, .int x1)] := hl
  have hW : Wd G A0 s (cTW G q w ++ cAR G 16 q2 w2) s.heap [] := hW
  show W p l e rmX4_isSo s m ([.ref (q 0), .ref (q2 0), .int x1] : List Value).toArray below meth c s.heap [] 0 0 (Qi below G (cTW G q o.2 ++ cAR G 16 q2 w2) o.1 A0 ([.ref (q 0), .ref (q2 0), .int x1] : List Value).toArray s) (F0 m 0 ls [])
  refine lv_aload_n hx hb dX4_isSo_0 rfl (lv_at hl 0 rfl) ?_
  refine x_get F hW 0 rfl fa_X4_24 rfl dX4_isSo_1 ?_
  refine lv_aload_n hx hb dX4_isSo_4 rfl (lv_at hl 0 rfl) ?_
  refine x_get F hW 0 rfl fa_X4_18 rfl dX4_isSo_5 ?_
  obtain ⟨p_8, hc_8, h⟩ := of_bind h
  refine x_Vv (av := [.ref (q 13), .ref (q 7)]) (As := [.ref (q 7)]) F hW (c_X3_lookOver l G (fun i => q (i + 13)) w.2.2.1 (fun i => q (i + 7)) w.2.1 _ hc_8) [13, 14, 15, 7, 8, 9, 10, 11, 12] rfl rfl (by intro q; cases q) cv_X4_131 rfl ⟨_, rfl, rfl⟩ rfl rfl rfl hl (Nat.le_of_ble_eq_true rfl) ⟨Nat.le_of_ble_eq_true rfl, Nat.le_of_ble_eq_true rfl⟩ ⟨rfl, rfl⟩ ⟨Nat.le_of_ble_eq_true rfl, Nat.le_of_ble_eq_true rfl⟩ dX4_isSo_8 rfl [none, none, none, none, none, none, none, some 3, some 4, some 5, some 6, some 7, some 8, some 0, some 1, some 2, none, none, none, none, none, none, none] rfl (ws' := cTW G q (w.1, w.2.1, p_8, w.2.2.2.1, w.2.2.2.2.1, w.2.2.2.2.2.1, w.2.2.2.2.2.2) ++ cAR G 16 q2 w2) rfl (fun H locs hW => ?_)
  refine lv_iconst (v := (0 : Int32)) hx hb dX4_isSo_11 (by decide) ?_
  refine lv_istore_n (lv' := [(3, .int (0 : Int32)), (0, .ref (q 0)), (1, .ref (q2 0)), (2, .int x1)]) hx hb dX4_isSo_12 rfl hl (by decide) rfl (fun ls hl => ?_)
  have L0 : ∀ (n0 : Nat) (v3_13 : Int32) (w_13 : TW) (H : Heap) (locs : List Loc) (ls : Array Slot), f_X4_isSo_13 x1 w2 n0 v3_13 w_13 = some o → Wd G A0 s (cTW G q w_13 ++ cAR G 16 q2 w2) H locs → lv_has ls 4 [(3, .int v3_13), (0, .ref (q 0)), (1, .ref (q2 0)), (2, .int x1)] → W p l e rmX4_isSo s m ([.ref (q 0), .ref (q2 0), .int x1] : List Value).toArray below meth c H locs 0 0 (Qi below G (cTW G q o.2 ++ cAR G 16 q2 w2) o.1 A0 ([.ref (q 0), .ref (q2 0), .int x1] : List Value).toArray s) (F0 m 13 ls []) := by
    intro n0
    induction n0 with
    | zero => intro v3_13 w_13 H locs ls h; cases (show (none : Option (Int32 × TW)) = some o from h)
    | succ n0 ih0 =>
      intro v3_13 w_13 H locs ls h hW hl
      refine lv_iload_n hx hb dX4_isSo_13 rfl (lv_at hl 0 rfl) ?_
      refine lv_iload_n hx hb dX4_isSo_14 rfl (lv_at hl 3 rfl) ?_
      obtain ⟨ht_15, hf_15⟩ := of_ite h
      refine lv_icmp_ge (tgt := 52) hx hb dX4_isSo_15 (by decide) (fun c_15 => ?_) (fun c_15 => ?_)
      · have h := ht_15 c_15
        refine lv_iconst (v := (1 : Int32)) hx hb dX4_isSo_52 (by decide) ?_
        obtain rfl := Option.some.inj h
        exact x_retz F hr hW (Or.inr rfl) rfl dX4_isSo_53
      · have h := hf_15 c_15
        refine lv_iload_n hx hb dX4_isSo_18 rfl (lv_at hl 0 rfl) ?_
        refine lv_aload_n hx hb dX4_isSo_19 rfl (lv_at hl 2 rfl) ?_
        refine x_alen (v := (16 : Int32)) F hW 22 rfl rfl dX4_isSo_20 ?_
        obtain ⟨ht_21, hf_21⟩ := of_ite h
        refine lv_icmp_ge (tgt := 52) hx hb dX4_isSo_21 (by decide) (fun c_21 => ?_) (fun c_21 => ?_)
        · have h := ht_21 c_21
          refine lv_iconst (v := (1 : Int32)) hx hb dX4_isSo_52 (by decide) ?_
          obtain rfl := Option.some.inj h
          exact x_retz F hr hW (Or.inr rfl) rfl dX4_isSo_53
        · have h := hf_21 c_21
          refine lv_aload_n hx hb dX4_isSo_24 rfl (lv_at hl 1 rfl) ?_
          obtain ⟨p_25, hc_25, h⟩ := of_bind h
          refine x_Vi (av := [.ref (q 0)]) (As := []) F hW (c_X4_hangers l G q w_13 _ hc_25) [0, 1, 2, 3, 4, 5, 6, 7, 8, 9, 10, 11, 12, 13, 14, 15, 16, 17, 18, 19, 20, 21] rfl rfl (by intro q; cases q) cv_X4_74 rfl ⟨_, rfl, rfl⟩ rfl rfl rfl hl (Nat.le_of_ble_eq_true rfl) ⟨Nat.le_of_ble_eq_true rfl, Nat.le_of_ble_eq_true rfl⟩ ⟨rfl, rfl⟩ ⟨Nat.le_of_ble_eq_true rfl, Nat.le_of_ble_eq_true rfl⟩ dX4_isSo_25 rfl [some 0, some 1, some 2, some 3, some 4, some 5, some 6, some 7, some 8, some 9, some 10, some 11, some 12, some 13, some 14, some 15, some 16, some 17, some 18, some 19, some 20, some 21, none] rfl (ws' := cTW G q w_13 ++ cAR G 16 q2 w2) rfl (fun H locs hW => ?_)
          obtain ⟨p_28, hc_28, h⟩ := of_bind h
          refine x_Si (av := [.int p_25]) F hW (c_J6_bitCount_0f7a4 l G p_25 _ hc_28) [] rfl rfl (by intro q; cases q) cs_X4_59 rfl rfl hl (Nat.le_of_ble_eq_true rfl) ⟨Nat.le_of_ble_eq_true rfl, Nat.le_of_ble_eq_true rfl⟩ ⟨rfl, rfl⟩ ⟨Nat.le_of_ble_eq_true rfl, Nat.le_of_ble_eq_true rfl⟩ dX4_isSo_28 rfl [none, none, none, none, none, none, none, none, none, none, none, none, none, none, none, none, none, none, none, none, none, none, none] rfl (ws' := cTW G q w_13 ++ cAR G 16 q2 w2) rfl (fun H locs hW => ?_)
          refine lv_aload_n hx hb dX4_isSo_31 rfl (lv_at hl 2 rfl) ?_
          refine lv_iload_n hx hb dX4_isSo_32 rfl (lv_at hl 0 rfl) ?_
          obtain ⟨g_33, h⟩ := of_guard h
          refine x_iald F hW 22 rfl g_33 dX4_isSo_33 ?_
          obtain ⟨ht_34, hf_34⟩ := of_ite h
          refine lv_icmp_eq (tgt := 39) hx hb dX4_isSo_34 (by decide) (fun c_34 => ?_) (fun c_34 => ?_)
          · have h := ht_34 c_34
            refine lv_aload_n hx hb dX4_isSo_39 rfl (lv_at hl 1 rfl) ?_
            refine x_get F hW 0 rfl fa_X4_18 rfl dX4_isSo_40 ?_
            obtain ⟨p_43, hc_43, h⟩ := of_bind h
            refine x_Vv (av := [.ref (q 7)]) (As := []) F hW (c_X1_passNight l G (fun i => q (i + 7)) w_13.2.1 _ hc_43) [7, 8, 9, 10, 11, 12] rfl rfl (by intro q; cases q) cv_X4_64 rfl ⟨_, rfl, rfl⟩ rfl rfl rfl hl (Nat.le_of_ble_eq_true rfl) ⟨Nat.le_of_ble_eq_true rfl, Nat.le_of_ble_eq_true rfl⟩ ⟨rfl, rfl⟩ ⟨Nat.le_of_ble_eq_true rfl, Nat.le_of_ble_eq_true rfl⟩ dX4_isSo_43 rfl [none, none, none, none, none, none, none, some 0, some 1, some 2, some 3, some 4, some 5, none, none, none, none, none, none, none, none, none, none] rfl (ws' := cTW G q (w_13.1, p_43, w_13.2.2.1, w_13.2.2.2.1, w_13.2.2.2.2.1, w_13.2.2.2.2.2.1, w_13.2.2.2.2.2.2) ++ cAR G 16 q2 w2) rfl (fun H locs hW => ?_)
            refine lv_iinc (v := (v3_13 + (1 : Int32))) (lv' := [(3, .int (v3_13 + (1 : Int32))), (0, .ref (q 0)), (1, .ref (q2 0)), (2, .int x1)]) hx hb dX4_isSo_46 hl (k := 0) rfl rfl (by decide) rfl (fun ls hl => ?_)
            refine lv_goto (tgt := 13) hx hb dX4_isSo_49 (by decide) ?_
            exact ih0 (v3_13 + (1 : Int32)) (w_13.1, p_43, w_13.2.2.1, w_13.2.2.2.1, w_13.2.2.2.2.1, w_13.2.2.2.2.2.1, w_13.2.2.2.2.2.2) _ _ _ h hW (lv_sub hl [0, 1, 2, 3] rfl)
          · have h := hf_34 c_34
            refine lv_iconst (v := (0 : Int32)) hx hb dX4_isSo_37 (by decide) ?_
            obtain rfl := Option.some.inj h
            exact x_retz F hr hW (Or.inl rfl) rfl dX4_isSo_38
  exact L0 200 (0 : Int32) (w.1, w.2.1, p_8, w.2.2.2.1, w.2.2.2.2.1, w.2.2.2.2.2.1, w.2.2.2.2.2.2) _ _ _ h hW (lv_sub hl [0, 1, 2, 3] rfl)
def f_X4_housesThatSlept_5 (w2 : (Nat → Int32)) (x1 : Int32) : Nat → Int32 → Int32 → TW → Option (Int32 × TW)
  | 0, _, _, _ => none
  | n0 + 1, v4_5, v3_5, w_5 =>
    if w_5.1.2.2.2.2.2.1 ≤ v4_5 then
    some (v3_5, w_5)
    else
    Option.bind (f_X1_become w_5.2.1 w_5.1) fun p_25 =>
    if inR v4_5 8 then
    Option.bind (f_X4_isSo (w_5.1, (p_25.1, p_25.2.1, p_25.2.2.1, p_25.2.2.2.1, (upd p_25.2.2.2.2.1 v4_5.toNatClampNeg (0 : Int32)), p_25.2.2.2.2.2.1, p_25.2.2.2.2.2.2.1, p_25.2.2.2.2.2.2.2.1, p_25.2.2.2.2.2.2.2.2), w_5.2.2.1, w_5.2.2.2.1, w_5.2.2.2.2.1, w_5.2.2.2.2.2.1, w_5.2.2.2.2.2.2) w2 x1) fun p_42 =>
    if p_42.1 = 0 then
    f_X4_housesThatSlept_5 w2 x1 n0 (v4_5 + (1 : Int32)) v3_5 p_42.2
    else
    nm (v3_5 ||| ((1 : Int32) <<< (v4_5 &&& 31))) fun x_54 =>
    f_X4_housesThatSlept_5 w2 x1 n0 (v4_5 + (1 : Int32)) x_54 p_42.2
    else none
def f_X4_housesThatSlept (w : TW) (w2 : (Nat → Int32)) (x1 : Int32) : Option (Int32 × TW) :=
  f_X4_housesThatSlept_5 w2 x1 200 (0 : Int32) (0 : Int32) w
abbrev rmX4_housesThatSlept : Room := { frames := 5, cells := 0, slots := 0, locals := 122 }
set_option maxRecDepth 100000 in
set_option maxHeartbeats 4000000 in
theorem c_X4_housesThatSlept (l : Launch) (G : EnT) (q : Nat → Nat) (w : TW) (q2 : Nat → Nat) (w2 : (Nat → Int32)) (x1 : Int32) (o : Int32 × TW) (h : f_X4_housesThatSlept w w2 x1 = some o) : Mi l yX4_housesThatSlept rmX4_housesThatSlept cX4_housesThatSlept 5 (some .int) G false [.ref (q 0), .ref (q2 0), .int x1] (cTW G q w ++ cAR G 16 q2 w2) o.1 (cTW G q o.2 ++ cAR G 16 q2 w2) := by
  refine Mi_of (by decide) (Nat.le_of_ble_eq_true rfl) ?_
  intro p e s m below meth c A0 F hr hW ls hl
  obtain ⟨hx, hb, hml, hown, hts, hK, hNW, hlocks, hA, hSX⟩ := id F
  have hl : lv_has ls 5 [(0, .ref (q 0)), (1, .ref (q2 0)), (2, .int x1)] := hl
  have hW : Wd G A0 s (cTW G q w ++ cAR G 16 q2 w2) s.heap [] := hW
  show W p l e rmX4_housesThatSlept s m ([.ref (q 0), .ref (q2 0), .int x1] : List Value).toArray below meth c s.heap [] 0 0 (Qi below G (cTW G q o.2 ++ cAR G 16 q2 w2) o.1 A0 ([.ref (q 0), .ref (q2 0), .int x1] : List Value).toArray s) (F0 m 0 ls [])
  refine lv_iconst (v := (0 : Int32)) hx hb dX4_housesThatSlept_0 (by decide) ?_
  refine lv_istore_n (lv' := [(3, .int (0 : Int32)), (0, .ref (q 0)), (1, .ref (q2 0)), (2, .int x1)]) hx hb dX4_housesThatSlept_1 rfl hl (by decide) rfl (fun ls hl => ?_)
  refine lv_iconst (v := (0 : Int32)) hx hb dX4_housesThatSlept_2 (by decide) ?_
  refine lv_istore (lv' := [(4, .int (0 : Int32)), (3, .int (0 : Int32)), (0, .ref (q 0)), (1, .ref (q2 0)), (2, .int x1)]) hx hb dX4_housesThatSlept_3 hl (by decide) rfl (fun ls hl => ?_)
  have L0 : ∀ (n0 : Nat) (v4_5 : Int32) (v3_5 : Int32) (w_5 : TW) (H : Heap) (locs : List Loc) (ls : Array Slot), f_X4_housesThatSlept_5 w2 x1 n0 v4_5 v3_5 w_5 = some o → Wd G A0 s (cTW G q w_5 ++ cAR G 16 q2 w2) H locs → lv_has ls 5 [(4, .int v4_5), (3, .int v3_5), (0, .ref (q 0)), (1, .ref (q2 0)), (2, .int x1)] → W p l e rmX4_housesThatSlept s m ([.ref (q 0), .ref (q2 0), .int x1] : List Value).toArray below meth c H locs 0 0 (Qi below G (cTW G q o.2 ++ cAR G 16 q2 w2) o.1 A0 ([.ref (q 0), .ref (q2 0), .int x1] : List Value).toArray s) (F0 m 5 ls []) := by
    intro n0
    induction n0 with
    | zero => intro v4_5 v3_5 w_5 H locs ls h; cases (show (none : Option (Int32 × TW)) = some o from h)
    | succ n0 ih0 =>
      intro v4_5 v3_5 w_5 H locs ls h hW hl
      refine lv_iload hx hb dX4_housesThatSlept_5 (lv_at hl 0 rfl) ?_
      refine lv_aload_n hx hb dX4_housesThatSlept_7 rfl (lv_at hl 2 rfl) ?_
      refine x_get F hW 0 rfl fa_X4_12 rfl dX4_housesThatSlept_8 ?_
      refine x_get F hW 1 rfl fa_X4_114 rfl dX4_housesThatSlept_11 ?_
      obtain ⟨ht_14, hf_14⟩ := of_ite h
      refine lv_icmp_ge (tgt := 61) hx hb dX4_housesThatSlept_14 (by decide) (fun c_14 => ?_) (fun c_14 => ?_)
      · have h := ht_14 c_14
        refine lv_iload_n hx hb dX4_housesThatSlept_61 rfl (lv_at hl 1 rfl) ?_
        obtain rfl := Option.some.inj h
        exact x_reti F hr hW rfl dX4_housesThatSlept_62
      · have h := hf_14 c_14
        refine lv_aload_n hx hb dX4_housesThatSlept_17 rfl (lv_at hl 2 rfl) ?_
        refine x_get F hW 0 rfl fa_X4_18 rfl dX4_housesThatSlept_18 ?_
        refine lv_aload_n hx hb dX4_housesThatSlept_21 rfl (lv_at hl 2 rfl) ?_
        refine x_get F hW 0 rfl fa_X4_12 rfl dX4_housesThatSlept_22 ?_
        obtain ⟨p_25, hc_25, h⟩ := of_bind h
        refine x_Vv (av := [.ref (q 7), .ref (q 1)]) (As := [.ref (q 1)]) F hW (c_X1_become l G (fun i => q (i + 7)) w_5.2.1 (fun i => q (i + 1)) w_5.1 _ hc_25) [7, 8, 9, 10, 11, 12, 1, 2, 3, 4, 5, 6] rfl rfl (by intro q; cases q) cv_X4_41 rfl ⟨_, rfl, rfl⟩ rfl rfl rfl hl (Nat.le_of_ble_eq_true rfl) ⟨Nat.le_of_ble_eq_true rfl, Nat.le_of_ble_eq_true rfl⟩ ⟨rfl, rfl⟩ ⟨Nat.le_of_ble_eq_true rfl, Nat.le_of_ble_eq_true rfl⟩ dX4_housesThatSlept_25 rfl [none, some 6, some 7, some 8, some 9, some 10, some 11, some 0, some 1, some 2, some 3, some 4, some 5, none, none, none, none, none, none, none, none, none, none] rfl (ws' := cTW G q (w_5.1, p_25, w_5.2.2.1, w_5.2.2.2.1, w_5.2.2.2.2.1, w_5.2.2.2.2.2.1, w_5.2.2.2.2.2.2) ++ cAR G 16 q2 w2) rfl (fun H locs hW => ?_)
        refine lv_aload_n hx hb dX4_housesThatSlept_28 rfl (lv_at hl 2 rfl) ?_
        refine x_get F hW 0 rfl fa_X4_18 rfl dX4_housesThatSlept_29 ?_
        refine x_get F hW 7 rfl fa_X4_77 rfl dX4_housesThatSlept_32 ?_
        refine lv_iload hx hb dX4_housesThatSlept_35 (lv_at hl 0 rfl) ?_
        refine lv_iconst (v := (0 : Int32)) hx hb dX4_housesThatSlept_37 (by decide) ?_
        obtain ⟨g_38, h⟩ := of_guard h
        refine x_iast F hW 12 rfl g_38 (ws' := cTW G q (w_5.1, (p_25.1, p_25.2.1, p_25.2.2.1, p_25.2.2.2.1, (upd p_25.2.2.2.2.1 v4_5.toNatClampNeg (0 : Int32)), p_25.2.2.2.2.2.1, p_25.2.2.2.2.2.2.1, p_25.2.2.2.2.2.2.2.1, p_25.2.2.2.2.2.2.2.2), w_5.2.2.1, w_5.2.2.2.1, w_5.2.2.2.2.1, w_5.2.2.2.2.2.1, w_5.2.2.2.2.2.2) ++ cAR G 16 q2 w2) rfl dX4_housesThatSlept_38 (fun H locs hW => ?_)
        refine lv_aload_n hx hb dX4_housesThatSlept_39 rfl (lv_at hl 2 rfl) ?_
        refine lv_aload_n hx hb dX4_housesThatSlept_40 rfl (lv_at hl 3 rfl) ?_
        refine lv_iload_n hx hb dX4_housesThatSlept_41 rfl (lv_at hl 4 rfl) ?_
        obtain ⟨p_42, hc_42, h⟩ := of_bind h
        refine x_Vi (av := [.ref (q 0), .ref (q2 0), .int x1]) (As := [.ref (q2 0), .int x1]) F hW (c_X4_isSo l G q (w_5.1, (p_25.1, p_25.2.1, p_25.2.2.1, p_25.2.2.2.1, (upd p_25.2.2.2.2.1 v4_5.toNatClampNeg (0 : Int32)), p_25.2.2.2.2.2.1, p_25.2.2.2.2.2.2.1, p_25.2.2.2.2.2.2.2.1, p_25.2.2.2.2.2.2.2.2), w_5.2.2.1, w_5.2.2.2.1, w_5.2.2.2.2.1, w_5.2.2.2.2.2.1, w_5.2.2.2.2.2.2) q2 w2 x1 _ hc_42) [0, 1, 2, 3, 4, 5, 6, 7, 8, 9, 10, 11, 12, 13, 14, 15, 16, 17, 18, 19, 20, 21, 22] rfl rfl (by intro q; cases q) cv_X4_180 rfl ⟨_, rfl, rfl⟩ rfl rfl rfl hl (Nat.le_of_ble_eq_true rfl) ⟨Nat.le_of_ble_eq_true rfl, Nat.le_of_ble_eq_true rfl⟩ ⟨rfl, rfl⟩ ⟨Nat.le_of_ble_eq_true rfl, Nat.le_of_ble_eq_true rfl⟩ dX4_housesThatSlept_42 rfl [some 0, some 1, some 2, some 3, some 4, some 5, some 6, some 7, some 8, some 9, some 10, some 11, some 12, some 13, some 14, some 15, some 16, some 17, some 18, some 19, some 20, some 21, some 22] rfl (ws' := cTW G q p_42.2 ++ cAR G 16 q2 w2) rfl (fun H locs hW => ?_)
        obtain ⟨ht_45, hf_45⟩ := of_ite h
        refine lv_if_eq (tgt := 55) hx hb dX4_housesThatSlept_45 (by decide) (fun c_45 => ?_) (fun c_45 => ?_)
        · have h := ht_45 c_45
          refine lv_iinc (v := (v4_5 + (1 : Int32))) (lv' := [(4, .int (v4_5 + (1 : Int32))), (3, .int v3_5), (0, .ref (q 0)), (1, .ref (q2 0)), (2, .int x1)]) hx hb dX4_housesThatSlept_55 hl (k := 0) rfl rfl (by decide) rfl (fun ls hl => ?_)
          refine lv_goto (tgt := 5) hx hb dX4_housesThatSlept_58 (by decide) ?_
          exact ih0 (v4_5 + (1 : Int32)) v3_5 p_42.2 _ _ _ h hW (lv_sub hl [0, 1, 2, 3, 4] rfl)
        · have h := hf_45 c_45
          refine lv_iload_n hx hb dX4_housesThatSlept_48 rfl (lv_at hl 1 rfl) ?_
          refine lv_iconst (v := (1 : Int32)) hx hb dX4_housesThatSlept_49 (by decide) ?_
          refine lv_iload hx hb dX4_housesThatSlept_50 (lv_at hl 0 rfl) ?_
          refine lv_ishl hx hb dX4_housesThatSlept_52 ?_
          refine lv_ior hx hb dX4_housesThatSlept_53 ?_
          obtain ⟨x_54, e_x_54, h⟩ := of_nm h
          refine x_topi e_x_54 ?_
          refine lv_istore_n (lv' := [(3, .int x_54), (4, .int v4_5), (0, .ref (q 0)), (1, .ref (q2 0)), (2, .int x1)]) hx hb dX4_housesThatSlept_54 rfl hl (by decide) rfl (fun ls hl => ?_)
          refine lv_iinc (v := (v4_5 + (1 : Int32))) (lv' := [(4, .int (v4_5 + (1 : Int32))), (3, .int x_54), (0, .ref (q 0)), (1, .ref (q2 0)), (2, .int x1)]) hx hb dX4_housesThatSlept_55 hl (k := 1) rfl rfl (by decide) rfl (fun ls hl => ?_)
          refine lv_goto (tgt := 5) hx hb dX4_housesThatSlept_58 (by decide) ?_
          exact ih0 (v4_5 + (1 : Int32)) x_54 p_42.2 _ _ _ h hW (lv_sub hl [0, 1, 2, 3, 4] rfl)
  exact L0 200 (0 : Int32) (0 : Int32) w _ _ _ h hW (lv_sub hl [0, 1, 2, 3, 4] rfl)
def f_X4_kindsThatFit_6 (x1 : Int32) (w2 : (Nat → Int32)) (x2 : Int32) : Nat → Int32 → Int32 → TW → Option (Int32 × TW)
  | 0, _, _, _ => none
  | n0 + 1, v5_6, v4_6, w_6 =>
    if (6 : Int32) ≤ v5_6 then
    some (v4_6, w_6)
    else
    Option.bind (f_X1_become w_6.2.1 w_6.1) fun p_21 =>
    if inR x1 8 then
    Option.bind (f_X4_isSo (w_6.1, (p_21.1, (upd p_21.2.1 x1.toNatClampNeg v5_6), p_21.2.2.1, p_21.2.2.2.1, p_21.2.2.2.2.1, p_21.2.2.2.2.2.1, p_21.2.2.2.2.2.2.1, p_21.2.2.2.2.2.2.2.1, p_21.2.2.2.2.2.2.2.2), w_6.2.2.1, w_6.2.2.2.1, w_6.2.2.2.2.1, w_6.2.2.2.2.2.1, w_6.2.2.2.2.2.2) w2 x2) fun p_38 =>
    if p_38.1 = 0 then
    f_X4_kindsThatFit_6 x1 w2 x2 n0 (v5_6 + (1 : Int32)) v4_6 p_38.2
    else
    nm (v4_6 ||| ((1 : Int32) <<< (v5_6 &&& 31))) fun x_51 =>
    f_X4_kindsThatFit_6 x1 w2 x2 n0 (v5_6 + (1 : Int32)) x_51 p_38.2
    else none
def f_X4_kindsThatFit (w : TW) (x1 : Int32) (w2 : (Nat → Int32)) (x2 : Int32) : Option (Int32 × TW) :=
  f_X4_kindsThatFit_6 x1 w2 x2 200 (0 : Int32) (0 : Int32) w
abbrev rmX4_kindsThatFit : Room := { frames := 5, cells := 0, slots := 0, locals := 122 }
set_option maxRecDepth 100000 in
set_option maxHeartbeats 4000000 in
theorem c_X4_kindsThatFit (l : Launch) (G : EnT) (q : Nat → Nat) (w : TW) (x1 : Int32) (q2 : Nat → Nat) (w2 : (Nat → Int32)) (x2 : Int32) (o : Int32 × TW) (h : f_X4_kindsThatFit w x1 w2 x2 = some o) : Mi l yX4_kindsThatFit rmX4_kindsThatFit cX4_kindsThatFit 6 (some .int) G false [.ref (q 0), .int x1, .ref (q2 0), .int x2] (cTW G q w ++ cAR G 16 q2 w2) o.1 (cTW G q o.2 ++ cAR G 16 q2 w2) := by
  refine Mi_of (by decide) (Nat.le_of_ble_eq_true rfl) ?_
  intro p e s m below meth c A0 F hr hW ls hl
  obtain ⟨hx, hb, hml, hown, hts, hK, hNW, hlocks, hA, hSX⟩ := id F
  have hl : lv_has ls 6 [(0, .ref (q 0)), (1, .int x1), (2, .ref (q2 0)), (3, .int x2)] := hl
  have hW : Wd G A0 s (cTW G q w ++ cAR G 16 q2 w2) s.heap [] := hW
  show W p l e rmX4_kindsThatFit s m ([.ref (q 0), .int x1, .ref (q2 0), .int x2] : List Value).toArray below meth c s.heap [] 0 0 (Qi below G (cTW G q o.2 ++ cAR G 16 q2 w2) o.1 A0 ([.ref (q 0), .int x1, .ref (q2 0), .int x2] : List Value).toArray s) (F0 m 0 ls [])
  refine lv_iconst (v := (0 : Int32)) hx hb dX4_kindsThatFit_0 (by decide) ?_
  refine lv_istore (lv' := [(4, .int (0 : Int32)), (0, .ref (q 0)), (1, .int x1), (2, .ref (q2 0)), (3, .int x2)]) hx hb dX4_kindsThatFit_1 hl (by decide) rfl (fun ls hl => ?_)
  refine lv_iconst (v := (0 : Int32)) hx hb dX4_kindsThatFit_3 (by decide) ?_
  refine lv_istore (lv' := [(5, .int (0 : Int32)), (4, .int (0 : Int32)), (0, .ref (q 0)), (1, .int x1), (2, .ref (q2 0)), (3, .int x2)]) hx hb dX4_kindsThatFit_4 hl (by decide) rfl (fun ls hl => ?_)
  have L0 : ∀ (n0 : Nat) (v5_6 : Int32) (v4_6 : Int32) (w_6 : TW) (H : Heap) (locs : List Loc) (ls : Array Slot), f_X4_kindsThatFit_6 x1 w2 x2 n0 v5_6 v4_6 w_6 = some o → Wd G A0 s (cTW G q w_6 ++ cAR G 16 q2 w2) H locs → lv_has ls 6 [(5, .int v5_6), (4, .int v4_6), (0, .ref (q 0)), (1, .int x1), (2, .ref (q2 0)), (3, .int x2)] → W p l e rmX4_kindsThatFit s m ([.ref (q 0), .int x1, .ref (q2 0), .int x2] : List Value).toArray below meth c H locs 0 0 (Qi below G (cTW G q o.2 ++ cAR G 16 q2 w2) o.1 A0 ([.ref (q 0), .int x1, .ref (q2 0), .int x2] : List Value).toArray s) (F0 m 6 ls []) := by
    intro n0
    induction n0 with
    | zero => intro v5_6 v4_6 w_6 H locs ls h; cases (show (none : Option (Int32 × TW)) = some o from h)
    | succ n0 ih0 =>
      intro v5_6 v4_6 w_6 H locs ls h hW hl
      refine lv_iload hx hb dX4_kindsThatFit_6 (lv_at hl 0 rfl) ?_
      refine lv_bipush (v := (6 : Int32)) hx hb dX4_kindsThatFit_8 (by decide) ?_
      obtain ⟨ht_10, hf_10⟩ := of_ite h
      refine lv_icmp_ge (tgt := 59) hx hb dX4_kindsThatFit_10 (by decide) (fun c_10 => ?_) (fun c_10 => ?_)
      · have h := ht_10 c_10
        refine lv_iload hx hb dX4_kindsThatFit_59 (lv_at hl 1 rfl) ?_
        obtain rfl := Option.some.inj h
        exact x_reti F hr hW rfl dX4_kindsThatFit_61
      · have h := hf_10 c_10
        refine lv_aload_n hx hb dX4_kindsThatFit_13 rfl (lv_at hl 2 rfl) ?_
        refine x_get F hW 0 rfl fa_X4_18 rfl dX4_kindsThatFit_14 ?_
        refine lv_aload_n hx hb dX4_kindsThatFit_17 rfl (lv_at hl 2 rfl) ?_
        refine x_get F hW 0 rfl fa_X4_12 rfl dX4_kindsThatFit_18 ?_
        obtain ⟨p_21, hc_21, h⟩ := of_bind h
        refine x_Vv (av := [.ref (q 7), .ref (q 1)]) (As := [.ref (q 1)]) F hW (c_X1_become l G (fun i => q (i + 7)) w_6.2.1 (fun i => q (i + 1)) w_6.1 _ hc_21) [7, 8, 9, 10, 11, 12, 1, 2, 3, 4, 5, 6] rfl rfl (by intro q; cases q) cv_X4_41 rfl ⟨_, rfl, rfl⟩ rfl rfl rfl hl (Nat.le_of_ble_eq_true rfl) ⟨Nat.le_of_ble_eq_true rfl, Nat.le_of_ble_eq_true rfl⟩ ⟨rfl, rfl⟩ ⟨Nat.le_of_ble_eq_true rfl, Nat.le_of_ble_eq_true rfl⟩ dX4_kindsThatFit_21 rfl [none, some 6, some 7, some 8, some 9, some 10, some 11, some 0, some 1, some 2, some 3, some 4, some 5, none, none, none, none, none, none, none, none, none, none] rfl (ws' := cTW G q (w_6.1, p_21, w_6.2.2.1, w_6.2.2.2.1, w_6.2.2.2.2.1, w_6.2.2.2.2.2.1, w_6.2.2.2.2.2.2) ++ cAR G 16 q2 w2) rfl (fun H locs hW => ?_)
        refine lv_aload_n hx hb dX4_kindsThatFit_24 rfl (lv_at hl 2 rfl) ?_
        refine x_get F hW 0 rfl fa_X4_18 rfl dX4_kindsThatFit_25 ?_
        refine x_get F hW 7 rfl fa_X4_184 rfl dX4_kindsThatFit_28 ?_
        refine lv_iload_n hx hb dX4_kindsThatFit_31 rfl (lv_at hl 3 rfl) ?_
        refine lv_iload hx hb dX4_kindsThatFit_32 (lv_at hl 0 rfl) ?_
        obtain ⟨g_34, h⟩ := of_guard h
        refine x_iast F hW 9 rfl g_34 (ws' := cTW G q (w_6.1, (p_21.1, (upd p_21.2.1 x1.toNatClampNeg v5_6), p_21.2.2.1, p_21.2.2.2.1, p_21.2.2.2.2.1, p_21.2.2.2.2.2.1, p_21.2.2.2.2.2.2.1, p_21.2.2.2.2.2.2.2.1, p_21.2.2.2.2.2.2.2.2), w_6.2.2.1, w_6.2.2.2.1, w_6.2.2.2.2.1, w_6.2.2.2.2.2.1, w_6.2.2.2.2.2.2) ++ cAR G 16 q2 w2) rfl dX4_kindsThatFit_34 (fun H locs hW => ?_)
        refine lv_aload_n hx hb dX4_kindsThatFit_35 rfl (lv_at hl 2 rfl) ?_
        refine lv_aload_n hx hb dX4_kindsThatFit_36 rfl (lv_at hl 4 rfl) ?_
        refine lv_iload_n hx hb dX4_kindsThatFit_37 rfl (lv_at hl 5 rfl) ?_
        obtain ⟨p_38, hc_38, h⟩ := of_bind h
        refine x_Vi (av := [.ref (q 0), .ref (q2 0), .int x2]) (As := [.ref (q2 0), .int x2]) F hW (c_X4_isSo l G q (w_6.1, (p_21.1, (upd p_21.2.1 x1.toNatClampNeg v5_6), p_21.2.2.1, p_21.2.2.2.1, p_21.2.2.2.2.1, p_21.2.2.2.2.2.1, p_21.2.2.2.2.2.2.1, p_21.2.2.2.2.2.2.2.1, p_21.2.2.2.2.2.2.2.2), w_6.2.2.1, w_6.2.2.2.1, w_6.2.2.2.2.1, w_6.2.2.2.2.2.1, w_6.2.2.2.2.2.2) q2 w2 x2 _ hc_38) [0, 1, 2, 3, 4, 5, 6, 7, 8, 9, 10, 11, 12, 13, 14, 15, 16, 17, 18, 19, 20, 21, 22] rfl rfl (by intro q; cases q) cv_X4_180 rfl ⟨_, rfl, rfl⟩ rfl rfl rfl hl (Nat.le_of_ble_eq_true rfl) ⟨Nat.le_of_ble_eq_true rfl, Nat.le_of_ble_eq_true rfl⟩ ⟨rfl, rfl⟩ ⟨Nat.le_of_ble_eq_true rfl, Nat.le_of_ble_eq_true rfl⟩ dX4_kindsThatFit_38 rfl [some 0, some 1, some 2, some 3, some 4, some 5, some 6, some 7, some 8, some 9, some 10, some 11, some 12, some 13, some 14, some 15, some 16, some 17, some 18, some 19, some 20, some 21, some 22] rfl (ws' := cTW G q p_38.2 ++ cAR G 16 q2 w2) rfl (fun H locs hW => ?_)
        obtain ⟨ht_41, hf_41⟩ := of_ite h
        refine lv_if_eq (tgt := 53) hx hb dX4_kindsThatFit_41 (by decide) (fun c_41 => ?_) (fun c_41 => ?_)
        · have h := ht_41 c_41
          refine lv_iinc (v := (v5_6 + (1 : Int32))) (lv' := [(5, .int (v5_6 + (1 : Int32))), (4, .int v4_6), (0, .ref (q 0)), (1, .int x1), (2, .ref (q2 0)), (3, .int x2)]) hx hb dX4_kindsThatFit_53 hl (k := 0) rfl rfl (by decide) rfl (fun ls hl => ?_)
          refine lv_goto (tgt := 6) hx hb dX4_kindsThatFit_56 (by decide) ?_
          exact ih0 (v5_6 + (1 : Int32)) v4_6 p_38.2 _ _ _ h hW (lv_sub hl [0, 1, 2, 3, 4, 5] rfl)
        · have h := hf_41 c_41
          refine lv_iload hx hb dX4_kindsThatFit_44 (lv_at hl 1 rfl) ?_
          refine lv_iconst (v := (1 : Int32)) hx hb dX4_kindsThatFit_46 (by decide) ?_
          refine lv_iload hx hb dX4_kindsThatFit_47 (lv_at hl 0 rfl) ?_
          refine lv_ishl hx hb dX4_kindsThatFit_49 ?_
          refine lv_ior hx hb dX4_kindsThatFit_50 ?_
          obtain ⟨x_51, e_x_51, h⟩ := of_nm h
          refine x_topi e_x_51 ?_
          refine lv_istore (lv' := [(4, .int x_51), (5, .int v5_6), (0, .ref (q 0)), (1, .int x1), (2, .ref (q2 0)), (3, .int x2)]) hx hb dX4_kindsThatFit_51 hl (by decide) rfl (fun ls hl => ?_)
          refine lv_iinc (v := (v5_6 + (1 : Int32))) (lv' := [(5, .int (v5_6 + (1 : Int32))), (4, .int x_51), (0, .ref (q 0)), (1, .int x1), (2, .ref (q2 0)), (3, .int x2)]) hx hb dX4_kindsThatFit_53 hl (k := 1) rfl rfl (by decide) rfl (fun ls hl => ?_)
          refine lv_goto (tgt := 6) hx hb dX4_kindsThatFit_56 (by decide) ?_
          exact ih0 (v5_6 + (1 : Int32)) x_51 p_38.2 _ _ _ h hW (lv_sub hl [0, 1, 2, 3, 4, 5] rfl)
  exact L0 200 (0 : Int32) (0 : Int32) w _ _ _ h hW (lv_sub hl [0, 1, 2, 3, 4, 5] rfl)
def f_X4_figuresThatFit_6 (x1 : Int32) (w2 : (Nat → Int32)) (x2 : Int32) : Nat → Int32 → Int32 → TW → Option (Int32 × TW)
  | 0, _, _, _ => none
  | n0 + 1, v5_6, v4_6, w_6 =>
    if (9 : Int32) < v5_6 then
    some (v4_6, w_6)
    else
    Option.bind (f_X1_become w_6.2.1 w_6.1) fun p_21 =>
    if inR x1 8 then
    Option.bind (f_X4_isSo (w_6.1, (p_21.1, p_21.2.1, (upd p_21.2.2.1 x1.toNatClampNeg v5_6), p_21.2.2.2.1, p_21.2.2.2.2.1, p_21.2.2.2.2.2.1, p_21.2.2.2.2.2.2.1, p_21.2.2.2.2.2.2.2.1, p_21.2.2.2.2.2.2.2.2), w_6.2.2.1, w_6.2.2.2.1, w_6.2.2.2.2.1, w_6.2.2.2.2.2.1, w_6.2.2.2.2.2.2) w2 x2) fun p_38 =>
    if p_38.1 = 0 then
    f_X4_figuresThatFit_6 x1 w2 x2 n0 (v5_6 + (1 : Int32)) v4_6 p_38.2
    else
    nm (v4_6 ||| ((1 : Int32) <<< (v5_6 &&& 31))) fun x_51 =>
    f_X4_figuresThatFit_6 x1 w2 x2 n0 (v5_6 + (1 : Int32)) x_51 p_38.2
    else none
def f_X4_figuresThatFit (w : TW) (x1 : Int32) (w2 : (Nat → Int32)) (x2 : Int32) : Option (Int32 × TW) :=
  f_X4_figuresThatFit_6 x1 w2 x2 200 (0 : Int32) (0 : Int32) w
abbrev rmX4_figuresThatFit : Room := { frames := 5, cells := 0, slots := 0, locals := 122 }
set_option maxRecDepth 100000 in
set_option maxHeartbeats 4000000 in
theorem c_X4_figuresThatFit (l : Launch) (G : EnT) (q : Nat → Nat) (w : TW) (x1 : Int32) (q2 : Nat → Nat) (w2 : (Nat → Int32)) (x2 : Int32) (o : Int32 × TW) (h : f_X4_figuresThatFit w x1 w2 x2 = some o) : Mi l yX4_figuresThatFit rmX4_figuresThatFit cX4_figuresThatFit 6 (some .int) G false [.ref (q 0), .int x1, .ref (q2 0), .int x2] (cTW G q w ++ cAR G 16 q2 w2) o.1 (cTW G q o.2 ++ cAR G 16 q2 w2) := by
  refine Mi_of (by decide) (Nat.le_of_ble_eq_true rfl) ?_
  intro p e s m below meth c A0 F hr hW ls hl
  obtain ⟨hx, hb, hml, hown, hts, hK, hNW, hlocks, hA, hSX⟩ := id F
  have hl : lv_has ls 6 [(0, .ref (q 0)), (1, .int x1), (2, .ref (q2 0)), (3, .int x2)] := hl
  have hW : Wd G A0 s (cTW G q w ++ cAR G 16 q2 w2) s.heap [] := hW
  show W p l e rmX4_figuresThatFit s m ([.ref (q 0), .int x1, .ref (q2 0), .int x2] : List Value).toArray below meth c s.heap [] 0 0 (Qi below G (cTW G q o.2 ++ cAR G 16 q2 w2) o.1 A0 ([.ref (q 0), .int x1, .ref (q2 0), .int x2] : List Value).toArray s) (F0 m 0 ls [])
  refine lv_iconst (v := (0 : Int32)) hx hb dX4_figuresThatFit_0 (by decide) ?_
  refine lv_istore (lv' := [(4, .int (0 : Int32)), (0, .ref (q 0)), (1, .int x1), (2, .ref (q2 0)), (3, .int x2)]) hx hb dX4_figuresThatFit_1 hl (by decide) rfl (fun ls hl => ?_)
  refine lv_iconst (v := (0 : Int32)) hx hb dX4_figuresThatFit_3 (by decide) ?_
  refine lv_istore (lv' := [(5, .int (0 : Int32)), (4, .int (0 : Int32)), (0, .ref (q 0)), (1, .int x1), (2, .ref (q2 0)), (3, .int x2)]) hx hb dX4_figuresThatFit_4 hl (by decide) rfl (fun ls hl => ?_)
  have L0 : ∀ (n0 : Nat) (v5_6 : Int32) (v4_6 : Int32) (w_6 : TW) (H : Heap) (locs : List Loc) (ls : Array Slot), f_X4_figuresThatFit_6 x1 w2 x2 n0 v5_6 v4_6 w_6 = some o → Wd G A0 s (cTW G q w_6 ++ cAR G 16 q2 w2) H locs → lv_has ls 6 [(5, .int v5_6), (4, .int v4_6), (0, .ref (q 0)), (1, .int x1), (2, .ref (q2 0)), (3, .int x2)] → W p l e rmX4_figuresThatFit s m ([.ref (q 0), .int x1, .ref (q2 0), .int x2] : List Value).toArray below meth c H locs 0 0 (Qi below G (cTW G q o.2 ++ cAR G 16 q2 w2) o.1 A0 ([.ref (q 0), .int x1, .ref (q2 0), .int x2] : List Value).toArray s) (F0 m 6 ls []) := by
    intro n0
    induction n0 with
    | zero => intro v5_6 v4_6 w_6 H locs ls h; cases (show (none : Option (Int32 × TW)) = some o from h)
    | succ n0 ih0 =>
      intro v5_6 v4_6 w_6 H locs ls h hW hl
      refine lv_iload hx hb dX4_figuresThatFit_6 (lv_at hl 0 rfl) ?_
      refine lv_bipush (v := (9 : Int32)) hx hb dX4_figuresThatFit_8 (by decide) ?_
      obtain ⟨ht_10, hf_10⟩ := of_ite h
      refine lv_icmp_gt (tgt := 59) hx hb dX4_figuresThatFit_10 (by decide) (fun c_10 => ?_) (fun c_10 => ?_)
      · have h := ht_10 c_10
        refine lv_iload hx hb dX4_figuresThatFit_59 (lv_at hl 1 rfl) ?_
        obtain rfl := Option.some.inj h
        exact x_reti F hr hW rfl dX4_figuresThatFit_61
      · have h := hf_10 c_10
        refine lv_aload_n hx hb dX4_figuresThatFit_13 rfl (lv_at hl 2 rfl) ?_
        refine x_get F hW 0 rfl fa_X4_18 rfl dX4_figuresThatFit_14 ?_
        refine lv_aload_n hx hb dX4_figuresThatFit_17 rfl (lv_at hl 2 rfl) ?_
        refine x_get F hW 0 rfl fa_X4_12 rfl dX4_figuresThatFit_18 ?_
        obtain ⟨p_21, hc_21, h⟩ := of_bind h
        refine x_Vv (av := [.ref (q 7), .ref (q 1)]) (As := [.ref (q 1)]) F hW (c_X1_become l G (fun i => q (i + 7)) w_6.2.1 (fun i => q (i + 1)) w_6.1 _ hc_21) [7, 8, 9, 10, 11, 12, 1, 2, 3, 4, 5, 6] rfl rfl (by intro q; cases q) cv_X4_41 rfl ⟨_, rfl, rfl⟩ rfl rfl rfl hl (Nat.le_of_ble_eq_true rfl) ⟨Nat.le_of_ble_eq_true rfl, Nat.le_of_ble_eq_true rfl⟩ ⟨rfl, rfl⟩ ⟨Nat.le_of_ble_eq_true rfl, Nat.le_of_ble_eq_true rfl⟩ dX4_figuresThatFit_21 rfl [none, some 6, some 7, some 8, some 9, some 10, some 11, some 0, some 1, some 2, some 3, some 4, some 5, none, none, none, none, none, none, none, none, none, none] rfl (ws' := cTW G q (w_6.1, p_21, w_6.2.2.1, w_6.2.2.2.1, w_6.2.2.2.2.1, w_6.2.2.2.2.2.1, w_6.2.2.2.2.2.2) ++ cAR G 16 q2 w2) rfl (fun H locs hW => ?_)
        refine lv_aload_n hx hb dX4_figuresThatFit_24 rfl (lv_at hl 2 rfl) ?_
        refine x_get F hW 0 rfl fa_X4_18 rfl dX4_figuresThatFit_25 ?_
        refine x_get F hW 7 rfl fa_X4_187 rfl dX4_figuresThatFit_28 ?_
        refine lv_iload_n hx hb dX4_figuresThatFit_31 rfl (lv_at hl 3 rfl) ?_
        refine lv_iload hx hb dX4_figuresThatFit_32 (lv_at hl 0 rfl) ?_
        obtain ⟨g_34, h⟩ := of_guard h
        refine x_iast F hW 10 rfl g_34 (ws' := cTW G q (w_6.1, (p_21.1, p_21.2.1, (upd p_21.2.2.1 x1.toNatClampNeg v5_6), p_21.2.2.2.1, p_21.2.2.2.2.1, p_21.2.2.2.2.2.1, p_21.2.2.2.2.2.2.1, p_21.2.2.2.2.2.2.2.1, p_21.2.2.2.2.2.2.2.2), w_6.2.2.1, w_6.2.2.2.1, w_6.2.2.2.2.1, w_6.2.2.2.2.2.1, w_6.2.2.2.2.2.2) ++ cAR G 16 q2 w2) rfl dX4_figuresThatFit_34 (fun H locs hW => ?_)
        refine lv_aload_n hx hb dX4_figuresThatFit_35 rfl (lv_at hl 2 rfl) ?_
        refine lv_aload_n hx hb dX4_figuresThatFit_36 rfl (lv_at hl 4 rfl) ?_
        refine lv_iload_n hx hb dX4_figuresThatFit_37 rfl (lv_at hl 5 rfl) ?_
        obtain ⟨p_38, hc_38, h⟩ := of_bind h
        refine x_Vi (av := [.ref (q 0), .ref (q2 0), .int x2]) (As := [.ref (q2 0), .int x2]) F hW (c_X4_isSo l G q (w_6.1, (p_21.1, p_21.2.1, (upd p_21.2.2.1 x1.toNatClampNeg v5_6), p_21.2.2.2.1, p_21.2.2.2.2.1, p_21.2.2.2.2.2.1, p_21.2.2.2.2.2.2.1, p_21.2.2.2.2.2.2.2.1, p_21.2.2.2.2.2.2.2.2), w_6.2.2.1, w_6.2.2.2.1, w_6.2.2.2.2.1, w_6.2.2.2.2.2.1, w_6.2.2.2.2.2.2) q2 w2 x2 _ hc_38) [0, 1, 2, 3, 4, 5, 6, 7, 8, 9, 10, 11, 12, 13, 14, 15, 16, 17, 18, 19, 20, 21, 22] rfl rfl (by intro q; cases q) cv_X4_180 rfl ⟨_, rfl, rfl⟩ rfl rfl rfl hl (Nat.le_of_ble_eq_true rfl) ⟨Nat.le_of_ble_eq_true rfl, Nat.le_of_ble_eq_true rfl⟩ ⟨rfl, rfl⟩ ⟨Nat.le_of_ble_eq_true rfl, Nat.le_of_ble_eq_true rfl⟩ dX4_figuresThatFit_38 rfl [some 0, some 1, some 2, some 3, some 4, some 5, some 6, some 7, some 8, some 9, some 10, some 11, some 12, some 13, some 14, some 15, some 16, some 17, some 18, some 19, some 20, some 21, some 22] rfl (ws' := cTW G q p_38.2 ++ cAR G 16 q2 w2) rfl (fun H locs hW => ?_)
        obtain ⟨ht_41, hf_41⟩ := of_ite h
        refine lv_if_eq (tgt := 53) hx hb dX4_figuresThatFit_41 (by decide) (fun c_41 => ?_) (fun c_41 => ?_)
        · have h := ht_41 c_41
          refine lv_iinc (v := (v5_6 + (1 : Int32))) (lv' := [(5, .int (v5_6 + (1 : Int32))), (4, .int v4_6), (0, .ref (q 0)), (1, .int x1), (2, .ref (q2 0)), (3, .int x2)]) hx hb dX4_figuresThatFit_53 hl (k := 0) rfl rfl (by decide) rfl (fun ls hl => ?_)
          refine lv_goto (tgt := 6) hx hb dX4_figuresThatFit_56 (by decide) ?_
          exact ih0 (v5_6 + (1 : Int32)) v4_6 p_38.2 _ _ _ h hW (lv_sub hl [0, 1, 2, 3, 4, 5] rfl)
        · have h := hf_41 c_41
          refine lv_iload hx hb dX4_figuresThatFit_44 (lv_at hl 1 rfl) ?_
          refine lv_iconst (v := (1 : Int32)) hx hb dX4_figuresThatFit_46 (by decide) ?_
          refine lv_iload hx hb dX4_figuresThatFit_47 (lv_at hl 0 rfl) ?_
          refine lv_ishl hx hb dX4_figuresThatFit_49 ?_
          refine lv_ior hx hb dX4_figuresThatFit_50 ?_
          obtain ⟨x_51, e_x_51, h⟩ := of_nm h
          refine x_topi e_x_51 ?_
          refine lv_istore (lv' := [(4, .int x_51), (5, .int v5_6), (0, .ref (q 0)), (1, .int x1), (2, .ref (q2 0)), (3, .int x2)]) hx hb dX4_figuresThatFit_51 hl (by decide) rfl (fun ls hl => ?_)
          refine lv_iinc (v := (v5_6 + (1 : Int32))) (lv' := [(5, .int (v5_6 + (1 : Int32))), (4, .int x_51), (0, .ref (q 0)), (1, .int x1), (2, .ref (q2 0)), (3, .int x2)]) hx hb dX4_figuresThatFit_53 hl (k := 1) rfl rfl (by decide) rfl (fun ls hl => ?_)
          refine lv_goto (tgt := 6) hx hb dX4_figuresThatFit_56 (by decide) ?_
          exact ih0 (v5_6 + (1 : Int32)) x_51 p_38.2 _ _ _ h hW (lv_sub hl [0, 1, 2, 3, 4, 5] rfl)
  exact L0 200 (0 : Int32) (0 : Int32) w _ _ _ h hW (lv_sub hl [0, 1, 2, 3, 4, 5] rfl)
def f_X4_drawn (x1 : Int32) (x2 : Int32) : Option (Int32) :=
  if x2 ≤ 0 then
    some (0 : Int32)
    else
    if x2 = 0 then none else
    some (remI ((x1 &&& (2147483647 : Int32)) / (256 : Int32)) x2)
abbrev rmX4_drawn : Room := { frames := 0, cells := 0, slots := 0, locals := 0 }
set_option maxRecDepth 100000 in
set_option maxHeartbeats 4000000 in
theorem c_X4_drawn (l : Launch) (G : EnT) (x1 : Int32) (x2 : Int32) (o : Int32) (h : f_X4_drawn x1 x2 = some o) : Mi l yX4_drawn rmX4_drawn cX4_drawn 2 (some .int) G false [.int x1, .int x2] ([]) o ([]) := by
  refine Mi_of (by decide) (Nat.le_of_ble_eq_true rfl) ?_
  intro p e s m below meth c A0 F hr hW ls hl
  obtain ⟨hx, hb, hml, hown, hts, hK, hNW, hlocks, hA, hSX⟩ := id F
  have hl : lv_has ls 2 [(0, .int x1), (1, .int x2)] := hl
  have hW : Wd G A0 s ([]) s.heap [] := hW
  show W p l e rmX4_drawn s m ([.int x1, .int x2] : List Value).toArray below meth c s.heap [] 0 0 (Qi below G ([]) o A0 ([.int x1, .int x2] : List Value).toArray s) (F0 m 0 ls [])
  refine lv_iload_n hx hb dX4_drawn_0 rfl (lv_at hl 1 rfl) ?_
  obtain ⟨ht_1, hf_1⟩ := of_ite h
  refine lv_if_le (tgt := 17) hx hb dX4_drawn_1 (by decide) (fun c_1 => ?_) (fun c_1 => ?_)
  · have h := ht_1 c_1
    refine lv_iconst (v := (0 : Int32)) hx hb dX4_drawn_17 (by decide) ?_
    obtain rfl := Option.some.inj h
    exact x_reti F hr hW rfl dX4_drawn_18
  · have h := hf_1 c_1
    refine lv_iload_n hx hb dX4_drawn_4 rfl (lv_at hl 0 rfl) ?_
    refine lv_ldc (v := (2147483647 : Int32)) hx hb hown (hts _ wd_845) dX4_drawn_5 ?_
    refine lv_iand hx hb dX4_drawn_7 ?_
    refine lv_sipush (v := (256 : Int32)) hx hb dX4_drawn_8 (by decide) ?_
    refine lv_idiv hx hb dX4_drawn_11 (by decide) ?_
    refine lv_iload_n hx hb dX4_drawn_12 rfl (lv_at hl 1 rfl) ?_
    obtain ⟨g_13, h⟩ := of_nguard h
    refine lv_irem hx hb dX4_drawn_13 g_13 ?_
    refine lv_goto (tgt := 18) hx hb dX4_drawn_14 (by decide) ?_
    obtain rfl := Option.some.inj h
    exact x_reti F hr hW rfl dX4_drawn_18
def f_X4_nextSeed (x1 : Int32) : Option (Int32) :=
  some ((x1 * (1664525 : Int32)) + (1013904223 : Int32))
abbrev rmX4_nextSeed : Room := { frames := 0, cells := 0, slots := 0, locals := 0 }
set_option maxRecDepth 100000 in
set_option maxHeartbeats 4000000 in
theorem c_X4_nextSeed (l : Launch) (G : EnT) (x1 : Int32) (o : Int32) (h : f_X4_nextSeed x1 = some o) : Mi l yX4_nextSeed rmX4_nextSeed cX4_nextSeed 1 (some .int) G false [.int x1] ([]) o ([]) := by
  refine Mi_of (by decide) (Nat.le_of_ble_eq_true rfl) ?_
  intro p e s m below meth c A0 F hr hW ls hl
  obtain ⟨hx, hb, hml, hown, hts, hK, hNW, hlocks, hA, hSX⟩ := id F
  have hl : lv_has ls 1 [(0, .int x1)] := hl
  have hW : Wd G A0 s ([]) s.heap [] := hW
  show W p l e rmX4_nextSeed s m ([.int x1] : List Value).toArray below meth c s.heap [] 0 0 (Qi below G ([]) o A0 ([.int x1] : List Value).toArray s) (F0 m 0 ls [])
  refine lv_iload_n hx hb dX4_nextSeed_0 rfl (lv_at hl 0 rfl) ?_
  refine lv_ldc (v := (1664525 : Int32)) hx hb hown (hts _ wd_840) dX4_nextSeed_1 ?_
  refine lv_imul hx hb dX4_nextSeed_3 ?_
  refine lv_ldc (v := (1013904223 : Int32)) hx hb hown (hts _ wd_841) dX4_nextSeed_4 ?_
  refine lv_iadd hx hb dX4_nextSeed_6 ?_
  obtain rfl := Option.some.inj h
  exact x_reti F hr hW rfl dX4_nextSeed_7
def f_X4_nightsByLot_29 (k0 : Int32 → Int32 → Int32 → TW → Option (Int32 × TW)) (x3 : Int32) (v5_9 : Int32) (v6_9 : Int32) : Nat → Int32 → Int32 → TW → Option (Int32 × TW)
  | 0, _, _, _ => none
  | n1 + 1, v7_29, v4_29, w_29 =>
    if w_29.2.1.2.2.2.2.2.1 ≤ v7_29 then
    Option.bind (f_X3_lookOver w_29.2.2.1 w_29.2.1) fun p_102 =>
    Option.bind (f_X1_passNights w_29.2.1 (4 : Int32)) fun p_110 =>
    if x3 = 0 then
    Option.bind (f_X1_allWicks p_110) fun p_133 =>
    nm (v5_9 + p_133) fun x_137 =>
    k0 (v6_9 + (1 : Int32)) x_137 v4_29 (w_29.1, p_110, p_102, w_29.2.2.2.1, w_29.2.2.2.2.1, w_29.2.2.2.2.2.1, w_29.2.2.2.2.2.2)
    else
    Option.bind (f_X4_hangers (w_29.1, p_110, p_102, w_29.2.2.2.1, w_29.2.2.2.2.1, w_29.2.2.2.2.2.1, w_29.2.2.2.2.2.2)) fun p_120 =>
    Option.bind (f_J6_bitCount_0f7a4 p_120) fun p_123 =>
    nm (v5_9 + p_123) fun x_137_2 =>
    k0 (v6_9 + (1 : Int32)) x_137_2 v4_29 (w_29.1, p_110, p_102, w_29.2.2.2.1, w_29.2.2.2.2.1, w_29.2.2.2.2.2.1, w_29.2.2.2.2.2.2)
    else
    Option.bind (f_X4_nextSeed v4_29) fun p_43 =>
    Option.bind (f_X4_drawn p_43 (20 : Int32)) fun p_61 =>
    if inR v7_29 8 then
    Option.bind (f_X4_nextSeed p_43) fun p_67 =>
    Option.bind (f_X4_drawn p_67 (5 : Int32)) fun p_84 =>
    if inR v7_29 8 then
    f_X4_nightsByLot_29 k0 x3 v5_9 v6_9 n1 (v7_29 + (1 : Int32)) p_67 (w_29.1, (w_29.2.1.1, w_29.2.1.2.1, w_29.2.1.2.2.1, (upd w_29.2.1.2.2.2.1 v7_29.toNatClampNeg p_61), (upd w_29.2.1.2.2.2.2.1 v7_29.toNatClampNeg p_84), w_29.2.1.2.2.2.2.2.1, w_29.2.1.2.2.2.2.2.2.1, w_29.2.1.2.2.2.2.2.2.2.1, w_29.2.1.2.2.2.2.2.2.2.2), w_29.2.2.1, w_29.2.2.2.1, w_29.2.2.2.2.1, w_29.2.2.2.2.2.1, w_29.2.2.2.2.2.2)
    else none
    else none
def f_X4_nightsByLot_9 (x1 : Int32) (x3 : Int32) : Nat → Int32 → Int32 → Int32 → TW → Option (Int32 × TW)
  | 0, _, _, _, _ => none
  | n0 + 1, v6_9, v5_9, v4_9, w_9 =>
    if x1 ≤ v6_9 then
    some (v5_9, w_9)
    else
    Option.bind (f_X1_become w_9.2.1 w_9.1) fun p_23 =>
    f_X4_nightsByLot_29 (fun a0 a1 a2 a3 => f_X4_nightsByLot_9 x1 x3 n0 a0 a1 a2 a3) x3 v5_9 v6_9 200 (0 : Int32) v4_9 (w_9.1, p_23, w_9.2.2.1, w_9.2.2.2.1, w_9.2.2.2.2.1, w_9.2.2.2.2.2.1, w_9.2.2.2.2.2.2)
def f_X4_nightsByLot (w : TW) (x1 : Int32) (x2 : Int32) (x3 : Int32) : Option (Int32 × TW) :=
  f_X4_nightsByLot_9 x1 x3 200 (0 : Int32) (0 : Int32) x2 w
abbrev rmX4_nightsByLot : Room := { frames := 4, cells := 0, slots := 0, locals := 99 }
set_option maxRecDepth 100000 in
set_option maxHeartbeats 4000000 in
theorem c_X4_nightsByLot (l : Launch) (G : EnT) (q : Nat → Nat) (w : TW) (x1 : Int32) (x2 : Int32) (x3 : Int32) (o : Int32 × TW) (h : f_X4_nightsByLot w x1 x2 x3 = some o) : Mi l yX4_nightsByLot rmX4_nightsByLot cX4_nightsByLot 8 (some .int) G false [.ref (q 0), .int x1, .int x2, .int x3] (cTW G q w) o.1 (cTW G q o.2) := by
  refine Mi_of (by decide) (Nat.le_of_ble_eq_true rfl) ?_
  intro p e s m below meth c A0 F hr hW ls hl
  obtain ⟨hx, hb, hml, hown, hts, hK, hNW, hlocks, hA, hSX⟩ := id F
  have hl : lv_has ls 8 [(0, .ref (q 0)), (1, .int x1), (2, .int x2), (3, .int x3)] := hl
  have hW : Wd G A0 s (cTW G q w) s.heap [] := hW
  show W p l e rmX4_nightsByLot s m ([.ref (q 0), .int x1, .int x2, .int x3] : List Value).toArray below meth c s.heap [] 0 0 (Qi below G (cTW G q o.2) o.1 A0 ([.ref (q 0), .int x1, .int x2, .int x3] : List Value).toArray s) (F0 m 0 ls [])
  refine lv_iload_n hx hb dX4_nightsByLot_0 rfl (lv_at hl 2 rfl) ?_
  refine lv_istore (lv' := [(4, .int x2), (0, .ref (q 0)), (1, .int x1), (2, .int x2), (3, .int x3)]) hx hb dX4_nightsByLot_1 hl (by decide) rfl (fun ls hl => ?_)
  refine lv_iconst (v := (0 : Int32)) hx hb dX4_nightsByLot_3 (by decide) ?_
  refine lv_istore (lv' := [(5, .int (0 : Int32)), (4, .int x2), (0, .ref (q 0)), (1, .int x1), (2, .int x2), (3, .int x3)]) hx hb dX4_nightsByLot_4 hl (by decide) rfl (fun ls hl => ?_)
  refine lv_iconst (v := (0 : Int32)) hx hb dX4_nightsByLot_6 (by decide) ?_
  refine lv_istore (lv' := [(6, .int (0 : Int32)), (5, .int (0 : Int32)), (4, .int x2), (0, .ref (q 0)), (1, .int x1), (2, .int x2), (3, .int x3)]) hx hb dX4_nightsByLot_7 hl (by decide) rfl (fun ls hl => ?_)
  have L0 : ∀ (n0 : Nat) (v6_9 : Int32) (v5_9 : Int32) (v4_9 : Int32) (w_9 : TW) (H : Heap) (locs : List Loc) (ls : Array Slot), f_X4_nightsByLot_9 x1 x3 n0 v6_9 v5_9 v4_9 w_9 = some o → Wd G A0 s (cTW G q w_9) H locs → lv_has ls 8 [(6, .int v6_9), (5, .int v5_9), (4, .int v4_9), (0, .ref (q 0)), (1, .int x1), (3, .int x3)] → W p l e rmX4_nightsByLot s m ([.ref (q 0), .int x1, .int x2, .int x3] : List Value).toArray below meth c H locs 0 0 (Qi below G (cTW G q o.2) o.1 A0 ([.ref (q 0), .int x1, .int x2, .int x3] : List Value).toArray s) (F0 m 9 ls []) := by
    intro n0
    induction n0 with
    | zero => intro v6_9 v5_9 v4_9 w_9 H locs ls h; cases (show (none : Option (Int32 × TW)) = some o from h)
    | succ n0 ih0 =>
      intro v6_9 v5_9 v4_9 w_9 H locs ls h hW hl
      refine lv_iload hx hb dX4_nightsByLot_9 (lv_at hl 0 rfl) ?_
      refine lv_iload_n hx hb dX4_nightsByLot_11 rfl (lv_at hl 4 rfl) ?_
      obtain ⟨ht_12, hf_12⟩ := of_ite h
      refine lv_icmp_ge (tgt := 145) hx hb dX4_nightsByLot_12 (by decide) (fun c_12 => ?_) (fun c_12 => ?_)
      · have h := ht_12 c_12
        refine lv_iload hx hb dX4_nightsByLot_145 (lv_at hl 1 rfl) ?_
        obtain rfl := Option.some.inj h
        exact x_reti F hr hW rfl dX4_nightsByLot_147
      · have h := hf_12 c_12
        refine lv_aload_n hx hb dX4_nightsByLot_15 rfl (lv_at hl 3 rfl) ?_
        refine x_get F hW 0 rfl fa_X4_18 rfl dX4_nightsByLot_16 ?_
        refine lv_aload_n hx hb dX4_nightsByLot_19 rfl (lv_at hl 3 rfl) ?_
        refine x_get F hW 0 rfl fa_X4_12 rfl dX4_nightsByLot_20 ?_
        obtain ⟨p_23, hc_23, h⟩ := of_bind h
        refine x_Vv (av := [.ref (q 7), .ref (q 1)]) (As := [.ref (q 1)]) F hW (c_X1_become l G (fun i => q (i + 7)) w_9.2.1 (fun i => q (i + 1)) w_9.1 _ hc_23) [7, 8, 9, 10, 11, 12, 1, 2, 3, 4, 5, 6] rfl rfl (by intro q; cases q) cv_X4_41 rfl ⟨_, rfl, rfl⟩ rfl rfl rfl hl (Nat.le_of_ble_eq_true rfl) ⟨Nat.le_of_ble_eq_true rfl, Nat.le_of_ble_eq_true rfl⟩ ⟨rfl, rfl⟩ ⟨Nat.le_of_ble_eq_true rfl, Nat.le_of_ble_eq_true rfl⟩ dX4_nightsByLot_23 rfl [none, some 6, some 7, some 8, some 9, some 10, some 11, some 0, some 1, some 2, some 3, some 4, some 5, none, none, none, none, none, none, none, none, none] rfl (ws' := cTW G q (w_9.1, p_23, w_9.2.2.1, w_9.2.2.2.1, w_9.2.2.2.2.1, w_9.2.2.2.2.2.1, w_9.2.2.2.2.2.2)) rfl (fun H locs hW => ?_)
        refine lv_iconst (v := (0 : Int32)) hx hb dX4_nightsByLot_26 (by decide) ?_
        refine lv_istore (lv' := [(7, .int (0 : Int32)), (6, .int v6_9), (5, .int v5_9), (4, .int v4_9), (0, .ref (q 0)), (1, .int x1), (3, .int x3)]) hx hb dX4_nightsByLot_27 hl (by decide) rfl (fun ls hl => ?_)
        have L1 : ∀ (n1 : Nat) (v7_29 : Int32) (v4_29 : Int32) (w_29 : TW) (H : Heap) (locs : List Loc) (ls : Array Slot), f_X4_nightsByLot_29 (fun a0 a1 a2 a3 => f_X4_nightsByLot_9 x1 x3 n0 a0 a1 a2 a3) x3 v5_9 v6_9 n1 v7_29 v4_29 w_29 = some o → Wd G A0 s (cTW G q w_29) H locs → lv_has ls 8 [(7, .int v7_29), (6, .int v6_9), (5, .int v5_9), (4, .int v4_29), (0, .ref (q 0)), (1, .int x1), (3, .int x3)] → W p l e rmX4_nightsByLot s m ([.ref (q 0), .int x1, .int x2, .int x3] : List Value).toArray below meth c H locs 0 0 (Qi below G (cTW G q o.2) o.1 A0 ([.ref (q 0), .int x1, .int x2, .int x3] : List Value).toArray s) (F0 m 29 ls []) := by
          intro n1
          induction n1 with
          | zero => intro v7_29 v4_29 w_29 H locs ls h; cases (show (none : Option (Int32 × TW)) = some o from h)
          | succ n1 ih1 =>
            intro v7_29 v4_29 w_29 H locs ls h hW hl
            refine lv_iload hx hb dX4_nightsByLot_29 (lv_at hl 0 rfl) ?_
            refine lv_aload_n hx hb dX4_nightsByLot_31 rfl (lv_at hl 4 rfl) ?_
            refine x_get F hW 0 rfl fa_X4_18 rfl dX4_nightsByLot_32 ?_
            refine x_get F hW 7 rfl fa_X4_114 rfl dX4_nightsByLot_35 ?_
            obtain ⟨ht_38, hf_38⟩ := of_ite h
            refine lv_icmp_ge (tgt := 94) hx hb dX4_nightsByLot_38 (by decide) (fun c_38 => ?_) (fun c_38 => ?_)
            · have h := ht_38 c_38
              refine lv_aload_n hx hb dX4_nightsByLot_94 rfl (lv_at hl 4 rfl) ?_
              refine x_get F hW 0 rfl fa_X4_24 rfl dX4_nightsByLot_95 ?_
              refine lv_aload_n hx hb dX4_nightsByLot_98 rfl (lv_at hl 4 rfl) ?_
              refine x_get F hW 0 rfl fa_X4_18 rfl dX4_nightsByLot_99 ?_
              obtain ⟨p_102, hc_102, h⟩ := of_bind h
              refine x_Vv (av := [.ref (q 13), .ref (q 7)]) (As := [.ref (q 7)]) F hW (c_X3_lookOver l G (fun i => q (i + 13)) w_29.2.2.1 (fun i => q (i + 7)) w_29.2.1 _ hc_102) [13, 14, 15, 7, 8, 9, 10, 11, 12] rfl rfl (by intro q; cases q) cv_X4_131 rfl ⟨_, rfl, rfl⟩ rfl rfl rfl hl (Nat.le_of_ble_eq_true rfl) ⟨Nat.le_of_ble_eq_true rfl, Nat.le_of_ble_eq_true rfl⟩ ⟨rfl, rfl⟩ ⟨Nat.le_of_ble_eq_true rfl, Nat.le_of_ble_eq_true rfl⟩ dX4_nightsByLot_102 rfl [none, none, none, none, none, none, none, some 3, some 4, some 5, some 6, some 7, some 8, some 0, some 1, some 2, none, none, none, none, none, none] rfl (ws' := cTW G q (w_29.1, w_29.2.1, p_102, w_29.2.2.2.1, w_29.2.2.2.2.1, w_29.2.2.2.2.2.1, w_29.2.2.2.2.2.2)) rfl (fun H locs hW => ?_)
              refine lv_aload_n hx hb dX4_nightsByLot_105 rfl (lv_at hl 4 rfl) ?_
              refine x_get F hW 0 rfl fa_X4_18 rfl dX4_nightsByLot_106 ?_
              refine lv_iconst (v := (4 : Int32)) hx hb dX4_nightsByLot_109 (by decide) ?_
              obtain ⟨p_110, hc_110, h⟩ := of_bind h
              refine x_Vv (av := [.ref (q 7), .int (4 : Int32)]) (As := [.int (4 : Int32)]) F hW (c_X1_passNights l G (fun i => q (i + 7)) w_29.2.1 (4 : Int32) _ hc_110) [7, 8, 9, 10, 11, 12] rfl rfl (by intro q; cases q) cv_X4_67 rfl ⟨_, rfl, rfl⟩ rfl rfl rfl hl (Nat.le_of_ble_eq_true rfl) ⟨Nat.le_of_ble_eq_true rfl, Nat.le_of_ble_eq_true rfl⟩ ⟨rfl, rfl⟩ ⟨Nat.le_of_ble_eq_true rfl, Nat.le_of_ble_eq_true rfl⟩ dX4_nightsByLot_110 rfl [none, none, none, none, none, none, none, some 0, some 1, some 2, some 3, some 4, some 5, none, none, none, none, none, none, none, none, none] rfl (ws' := cTW G q (w_29.1, p_110, p_102, w_29.2.2.2.1, w_29.2.2.2.2.1, w_29.2.2.2.2.2.1, w_29.2.2.2.2.2.2)) rfl (fun H locs hW => ?_)
              refine lv_iload hx hb dX4_nightsByLot_113 (lv_at hl 2 rfl) ?_
              refine lv_iload_n hx hb dX4_nightsByLot_115 rfl (lv_at hl 6 rfl) ?_
              obtain ⟨ht_116, hf_116⟩ := of_ite h
              refine lv_if_eq (tgt := 129) hx hb dX4_nightsByLot_116 (by decide) (fun c_116 => ?_) (fun c_116 => ?_)
              · have h := ht_116 c_116
                refine lv_aload_n hx hb dX4_nightsByLot_129 rfl (lv_at hl 4 rfl) ?_
                refine x_get F hW 0 rfl fa_X4_18 rfl dX4_nightsByLot_130 ?_
                obtain ⟨p_133, hc_133, h⟩ := of_bind h
                refine x_Vi (av := [.ref (q 7)]) (As := []) F hW (c_X1_allWicks l G (fun i => q (i + 7)) p_110 _ hc_133) [7, 8, 9, 10, 11, 12] rfl rfl (by intro q; cases q) cv_X4_158 rfl ⟨_, rfl, rfl⟩ rfl rfl rfl hl (Nat.le_of_ble_eq_true rfl) ⟨Nat.le_of_ble_eq_true rfl, Nat.le_of_ble_eq_true rfl⟩ ⟨rfl, rfl⟩ ⟨Nat.le_of_ble_eq_true rfl, Nat.le_of_ble_eq_true rfl⟩ dX4_nightsByLot_133 rfl [none, none, none, none, none, none, none, some 0, some 1, some 2, some 3, some 4, some 5, none, none, none, none, none, none, none, none, none] rfl (ws' := cTW G q (w_29.1, p_110, p_102, w_29.2.2.2.1, w_29.2.2.2.2.1, w_29.2.2.2.2.2.1, w_29.2.2.2.2.2.2)) rfl (fun H locs hW => ?_)
                refine lv_iadd hx hb dX4_nightsByLot_136 ?_
                obtain ⟨x_137, e_x_137, h⟩ := of_nm h
                refine x_topi e_x_137 ?_
                refine lv_istore (lv' := [(5, .int x_137), (7, .int v7_29), (6, .int v6_9), (4, .int v4_29), (0, .ref (q 0)), (1, .int x1), (3, .int x3)]) hx hb dX4_nightsByLot_137 hl (by decide) rfl (fun ls hl => ?_)
                refine lv_iinc (v := (v6_9 + (1 : Int32))) (lv' := [(6, .int (v6_9 + (1 : Int32))), (5, .int x_137), (7, .int v7_29), (4, .int v4_29), (0, .ref (q 0)), (1, .int x1), (3, .int x3)]) hx hb dX4_nightsByLot_139 hl (k := 2) rfl rfl (by decide) rfl (fun ls hl => ?_)
                refine lv_goto (tgt := 9) hx hb dX4_nightsByLot_142 (by decide) ?_
                exact ih0 (v6_9 + (1 : Int32)) x_137 v4_29 (w_29.1, p_110, p_102, w_29.2.2.2.1, w_29.2.2.2.2.1, w_29.2.2.2.2.2.1, w_29.2.2.2.2.2.2) _ _ _ h hW (lv_sub hl [0, 1, 3, 4, 5, 6] rfl)
              · have h := hf_116 c_116
                refine lv_aload_n hx hb dX4_nightsByLot_119 rfl (lv_at hl 4 rfl) ?_
                obtain ⟨p_120, hc_120, h⟩ := of_bind h
                refine x_Vi (av := [.ref (q 0)]) (As := []) F hW (c_X4_hangers l G q (w_29.1, p_110, p_102, w_29.2.2.2.1, w_29.2.2.2.2.1, w_29.2.2.2.2.2.1, w_29.2.2.2.2.2.2) _ hc_120) [0, 1, 2, 3, 4, 5, 6, 7, 8, 9, 10, 11, 12, 13, 14, 15, 16, 17, 18, 19, 20, 21] rfl rfl (by intro q; cases q) cv_X4_74 rfl ⟨_, rfl, rfl⟩ rfl rfl rfl hl (Nat.le_of_ble_eq_true rfl) ⟨Nat.le_of_ble_eq_true rfl, Nat.le_of_ble_eq_true rfl⟩ ⟨rfl, rfl⟩ ⟨Nat.le_of_ble_eq_true rfl, Nat.le_of_ble_eq_true rfl⟩ dX4_nightsByLot_120 rfl [some 0, some 1, some 2, some 3, some 4, some 5, some 6, some 7, some 8, some 9, some 10, some 11, some 12, some 13, some 14, some 15, some 16, some 17, some 18, some 19, some 20, some 21] rfl (ws' := cTW G q (w_29.1, p_110, p_102, w_29.2.2.2.1, w_29.2.2.2.2.1, w_29.2.2.2.2.2.1, w_29.2.2.2.2.2.2)) rfl (fun H locs hW => ?_)
                obtain ⟨p_123, hc_123, h⟩ := of_bind h
                refine x_Si (av := [.int p_120]) F hW (c_J6_bitCount_0f7a4 l G p_120 _ hc_123) [] rfl rfl (by intro q; cases q) cs_X4_59 rfl rfl hl (Nat.le_of_ble_eq_true rfl) ⟨Nat.le_of_ble_eq_true rfl, Nat.le_of_ble_eq_true rfl⟩ ⟨rfl, rfl⟩ ⟨Nat.le_of_ble_eq_true rfl, Nat.le_of_ble_eq_true rfl⟩ dX4_nightsByLot_123 rfl [none, none, none, none, none, none, none, none, none, none, none, none, none, none, none, none, none, none, none, none, none, none] rfl (ws' := cTW G q (w_29.1, p_110, p_102, w_29.2.2.2.1, w_29.2.2.2.2.1, w_29.2.2.2.2.2.1, w_29.2.2.2.2.2.2)) rfl (fun H locs hW => ?_)
                refine lv_goto (tgt := 136) hx hb dX4_nightsByLot_126 (by decide) ?_
                refine lv_iadd hx hb dX4_nightsByLot_136 ?_
                obtain ⟨x_137_2, e_x_137_2, h⟩ := of_nm h
                refine x_topi e_x_137_2 ?_
                refine lv_istore (lv' := [(5, .int x_137_2), (7, .int v7_29), (6, .int v6_9), (4, .int v4_29), (0, .ref (q 0)), (1, .int x1), (3, .int x3)]) hx hb dX4_nightsByLot_137 hl (by decide) rfl (fun ls hl => ?_)
                refine lv_iinc (v := (v6_9 + (1 : Int32))) (lv' := [(6, .int (v6_9 + (1 : Int32))), (5, .int x_137_2), (7, .int v7_29), (4, .int v4_29), (0, .ref (q 0)), (1, .int x1), (3, .int x3)]) hx hb dX4_nightsByLot_139 hl (k := 2) rfl rfl (by decide) rfl (fun ls hl => ?_)
                refine lv_goto (tgt := 9) hx hb dX4_nightsByLot_142 (by decide) ?_
                exact ih0 (v6_9 + (1 : Int32)) x_137_2 v4_29 (w_29.1, p_110, p_102, w_29.2.2.2.1, w_29.2.2.2.2.1, w_29.2.2.2.2.2.1, w_29.2.2.2.2.2.2) _ _ _ h hW (lv_sub hl [0, 1, 3, 4, 5, 6] rfl)
            · have h := hf_38 c_38
              refine lv_iload hx hb dX4_nightsByLot_41 (lv_at hl 3 rfl) ?_
              obtain ⟨p_43, hc_43, h⟩ := of_bind h
              refine x_Si (av := [.int v4_29]) F hW (c_X4_nextSeed l G v4_29 _ hc_43) [] rfl rfl (by intro q; cases q) cs_X4_190 rfl rfl hl (Nat.le_of_ble_eq_true rfl) ⟨Nat.le_of_ble_eq_true rfl, Nat.le_of_ble_eq_true rfl⟩ ⟨rfl, rfl⟩ ⟨Nat.le_of_ble_eq_true rfl, Nat.le_of_ble_eq_true rfl⟩ dX4_nightsByLot_43 rfl [none, none, none, none, none, none, none, none, none, none, none, none, none, none, none, none, none, none, none, none, none, none] rfl (ws' := cTW G q w_29) rfl (fun H locs hW => ?_)
              refine lv_istore (lv' := [(4, .int p_43), (7, .int v7_29), (6, .int v6_9), (5, .int v5_9), (0, .ref (q 0)), (1, .int x1), (3, .int x3)]) hx hb dX4_nightsByLot_46 hl (by decide) rfl (fun ls hl => ?_)
              refine lv_aload_n hx hb dX4_nightsByLot_48 rfl (lv_at hl 4 rfl) ?_
              refine x_get F hW 0 rfl fa_X4_18 rfl dX4_nightsByLot_49 ?_
              refine x_get F hW 7 rfl fa_X4_97 rfl dX4_nightsByLot_52 ?_
              refine lv_iload hx hb dX4_nightsByLot_55 (lv_at hl 1 rfl) ?_
              refine lv_iload hx hb dX4_nightsByLot_57 (lv_at hl 0 rfl) ?_
              refine lv_bipush (v := (20 : Int32)) hx hb dX4_nightsByLot_59 (by decide) ?_
              obtain ⟨p_61, hc_61, h⟩ := of_bind h
              refine x_Si (av := [.int p_43, .int (20 : Int32)]) F hW (c_X4_drawn l G p_43 (20 : Int32) _ hc_61) [] rfl rfl (by intro q; cases q) cs_X4_193 rfl rfl hl (Nat.le_of_ble_eq_true rfl) ⟨Nat.le_of_ble_eq_true rfl, Nat.le_of_ble_eq_true rfl⟩ ⟨rfl, rfl⟩ ⟨Nat.le_of_ble_eq_true rfl, Nat.le_of_ble_eq_true rfl⟩ dX4_nightsByLot_61 rfl [none, none, none, none, none, none, none, none, none, none, none, none, none, none, none, none, none, none, none, none, none, none] rfl (ws' := cTW G q w_29) rfl (fun H locs hW => ?_)
              obtain ⟨g_64, h⟩ := of_guard h
              refine x_iast F hW 11 rfl g_64 (ws' := cTW G q (w_29.1, (w_29.2.1.1, w_29.2.1.2.1, w_29.2.1.2.2.1, (upd w_29.2.1.2.2.2.1 v7_29.toNatClampNeg p_61), w_29.2.1.2.2.2.2.1, w_29.2.1.2.2.2.2.2.1, w_29.2.1.2.2.2.2.2.2.1, w_29.2.1.2.2.2.2.2.2.2.1, w_29.2.1.2.2.2.2.2.2.2.2), w_29.2.2.1, w_29.2.2.2.1, w_29.2.2.2.2.1, w_29.2.2.2.2.2.1, w_29.2.2.2.2.2.2)) rfl dX4_nightsByLot_64 (fun H locs hW => ?_)
              refine lv_iload hx hb dX4_nightsByLot_65 (lv_at hl 0 rfl) ?_
              obtain ⟨p_67, hc_67, h⟩ := of_bind h
              refine x_Si (av := [.int p_43]) F hW (c_X4_nextSeed l G p_43 _ hc_67) [] rfl rfl (by intro q; cases q) cs_X4_190 rfl rfl hl (Nat.le_of_ble_eq_true rfl) ⟨Nat.le_of_ble_eq_true rfl, Nat.le_of_ble_eq_true rfl⟩ ⟨rfl, rfl⟩ ⟨Nat.le_of_ble_eq_true rfl, Nat.le_of_ble_eq_true rfl⟩ dX4_nightsByLot_67 rfl [none, none, none, none, none, none, none, none, none, none, none, none, none, none, none, none, none, none, none, none, none, none] rfl (ws' := cTW G q (w_29.1, (w_29.2.1.1, w_29.2.1.2.1, w_29.2.1.2.2.1, (upd w_29.2.1.2.2.2.1 v7_29.toNatClampNeg p_61), w_29.2.1.2.2.2.2.1, w_29.2.1.2.2.2.2.2.1, w_29.2.1.2.2.2.2.2.2.1, w_29.2.1.2.2.2.2.2.2.2.1, w_29.2.1.2.2.2.2.2.2.2.2), w_29.2.2.1, w_29.2.2.2.1, w_29.2.2.2.2.1, w_29.2.2.2.2.2.1, w_29.2.2.2.2.2.2)) rfl (fun H locs hW => ?_)
              refine lv_istore (lv' := [(4, .int p_67), (7, .int v7_29), (6, .int v6_9), (5, .int v5_9), (0, .ref (q 0)), (1, .int x1), (3, .int x3)]) hx hb dX4_nightsByLot_70 hl (by decide) rfl (fun ls hl => ?_)
              refine lv_aload_n hx hb dX4_nightsByLot_72 rfl (lv_at hl 4 rfl) ?_
              refine x_get F hW 0 rfl fa_X4_18 rfl dX4_nightsByLot_73 ?_
              refine x_get F hW 7 rfl fa_X4_77 rfl dX4_nightsByLot_76 ?_
              refine lv_iload hx hb dX4_nightsByLot_79 (lv_at hl 1 rfl) ?_
              refine lv_iload hx hb dX4_nightsByLot_81 (lv_at hl 0 rfl) ?_
              refine lv_iconst (v := (5 : Int32)) hx hb dX4_nightsByLot_83 (by decide) ?_
              obtain ⟨p_84, hc_84, h⟩ := of_bind h
              refine x_Si (av := [.int p_67, .int (5 : Int32)]) F hW (c_X4_drawn l G p_67 (5 : Int32) _ hc_84) [] rfl rfl (by intro q; cases q) cs_X4_193 rfl rfl hl (Nat.le_of_ble_eq_true rfl) ⟨Nat.le_of_ble_eq_true rfl, Nat.le_of_ble_eq_true rfl⟩ ⟨rfl, rfl⟩ ⟨Nat.le_of_ble_eq_true rfl, Nat.le_of_ble_eq_true rfl⟩ dX4_nightsByLot_84 rfl [none, none, none, none, none, none, none, none, none, none, none, none, none, none, none, none, none, none, none, none, none, none] rfl (ws' := cTW G q (w_29.1, (w_29.2.1.1, w_29.2.1.2.1, w_29.2.1.2.2.1, (upd w_29.2.1.2.2.2.1 v7_29.toNatClampNeg p_61), w_29.2.1.2.2.2.2.1, w_29.2.1.2.2.2.2.2.1, w_29.2.1.2.2.2.2.2.2.1, w_29.2.1.2.2.2.2.2.2.2.1, w_29.2.1.2.2.2.2.2.2.2.2), w_29.2.2.1, w_29.2.2.2.1, w_29.2.2.2.2.1, w_29.2.2.2.2.2.1, w_29.2.2.2.2.2.2)) rfl (fun H locs hW => ?_)
              obtain ⟨g_87, h⟩ := of_guard h
              refine x_iast F hW 12 rfl g_87 (ws' := cTW G q (w_29.1, (w_29.2.1.1, w_29.2.1.2.1, w_29.2.1.2.2.1, (upd w_29.2.1.2.2.2.1 v7_29.toNatClampNeg p_61), (upd w_29.2.1.2.2.2.2.1 v7_29.toNatClampNeg p_84), w_29.2.1.2.2.2.2.2.1, w_29.2.1.2.2.2.2.2.2.1, w_29.2.1.2.2.2.2.2.2.2.1, w_29.2.1.2.2.2.2.2.2.2.2), w_29.2.2.1, w_29.2.2.2.1, w_29.2.2.2.2.1, w_29.2.2.2.2.2.1, w_29.2.2.2.2.2.2)) rfl dX4_nightsByLot_87 (fun H locs hW => ?_)
              refine lv_iinc (v := (v7_29 + (1 : Int32))) (lv' := [(7, .int (v7_29 + (1 : Int32))), (4, .int p_67), (6, .int v6_9), (5, .int v5_9), (0, .ref (q 0)), (1, .int x1), (3, .int x3)]) hx hb dX4_nightsByLot_88 hl (k := 1) rfl rfl (by decide) rfl (fun ls hl => ?_)
              refine lv_goto (tgt := 29) hx hb dX4_nightsByLot_91 (by decide) ?_
              exact ih1 (v7_29 + (1 : Int32)) p_67 (w_29.1, (w_29.2.1.1, w_29.2.1.2.1, w_29.2.1.2.2.1, (upd w_29.2.1.2.2.2.1 v7_29.toNatClampNeg p_61), (upd w_29.2.1.2.2.2.2.1 v7_29.toNatClampNeg p_84), w_29.2.1.2.2.2.2.2.1, w_29.2.1.2.2.2.2.2.2.1, w_29.2.1.2.2.2.2.2.2.2.1, w_29.2.1.2.2.2.2.2.2.2.2), w_29.2.2.1, w_29.2.2.2.1, w_29.2.2.2.2.1, w_29.2.2.2.2.2.1, w_29.2.2.2.2.2.2) _ _ _ h hW (lv_sub hl [0, 2, 3, 1, 4, 5, 6] rfl)
        exact L1 200 (0 : Int32) v4_9 (w_9.1, p_23, w_9.2.2.1, w_9.2.2.2.1, w_9.2.2.2.2.1, w_9.2.2.2.2.2.1, w_9.2.2.2.2.2.2) _ _ _ h hW (lv_sub hl [0, 1, 2, 3, 4, 5, 6] rfl)
  exact L0 200 (0 : Int32) (0 : Int32) x2 w _ _ _ h hW (lv_sub hl [0, 1, 2, 3, 4, 6] rfl)
def f_X5_refuse (w : EW) (x1 : Int32) : Option (Int32 × EW) :=
  if (-x1) ≤ 0 then
    some (x1, w)
    else
    if (6 : Int32) < (-x1) then
    some (x1, w)
    else
    if inR (-x1) 7 then
    if inR (-x1) 7 then
    some (x1, (w.1, w.2.1, w.2.2.1, w.2.2.2.1, w.2.2.2.2.1, (upd w.2.2.2.2.2.1 (-x1).toNatClampNeg ((w.2.2.2.2.2.1 (-x1).toNatClampNeg) + (1 : Int32))), w.2.2.2.2.2.2.1, w.2.2.2.2.2.2.2))
    else none
    else none
abbrev rmX5_refuse : Room := { frames := 0, cells := 0, slots := 0, locals := 0 }
set_option maxRecDepth 100000 in
set_option maxHeartbeats 4000000 in
theorem c_X5_refuse (l : Launch) (G : EnT) (q : Nat → Nat) (w : EW) (x1 : Int32) (o : Int32 × EW) (h : f_X5_refuse w x1 = some o) : Mi l yX5_refuse rmX5_refuse cX5_refuse 2 (some .int) G false [.ref (q 0), .int x1] (cEW G q w) o.1 (cEW G q o.2) := by
  refine Mi_of (by decide) (Nat.le_of_ble_eq_true rfl) ?_
  intro p e s m below meth c A0 F hr hW ls hl
  obtain ⟨hx, hb, hml, hown, hts, hK, hNW, hlocks, hA, hSX⟩ := id F
  have hl : lv_has ls 2 [(0, .ref (q 0)), (1, .int x1)] := hl
  have hW : Wd G A0 s (cEW G q w) s.heap [] := hW
  show W p l e rmX5_refuse s m ([.ref (q 0), .int x1] : List Value).toArray below meth c s.heap [] 0 0 (Qi below G (cEW G q o.2) o.1 A0 ([.ref (q 0), .int x1] : List Value).toArray s) (F0 m 0 ls [])
  refine lv_iload_n hx hb dX5_refuse_0 rfl (lv_at hl 1 rfl) ?_
  refine lv_ineg hx hb dX5_refuse_1 ?_
  obtain ⟨ht_2, hf_2⟩ := of_ite h
  refine lv_if_le (tgt := 23) hx hb dX5_refuse_2 (by decide) (fun c_2 => ?_) (fun c_2 => ?_)
  · have h := ht_2 c_2
    refine lv_iload_n hx hb dX5_refuse_23 rfl (lv_at hl 1 rfl) ?_
    obtain rfl := Option.some.inj h
    exact x_reti F hr hW rfl dX5_refuse_24
  · have h := hf_2 c_2
    refine lv_iload_n hx hb dX5_refuse_5 rfl (lv_at hl 1 rfl) ?_
    refine lv_ineg hx hb dX5_refuse_6 ?_
    refine lv_bipush (v := (6 : Int32)) hx hb dX5_refuse_7 (by decide) ?_
    obtain ⟨ht_9, hf_9⟩ := of_ite h
    refine lv_icmp_gt (tgt := 23) hx hb dX5_refuse_9 (by decide) (fun c_9 => ?_) (fun c_9 => ?_)
    · have h := ht_9 c_9
      refine lv_iload_n hx hb dX5_refuse_23 rfl (lv_at hl 1 rfl) ?_
      obtain rfl := Option.some.inj h
      exact x_reti F hr hW rfl dX5_refuse_24
    · have h := hf_9 c_9
      refine lv_aload_n hx hb dX5_refuse_12 rfl (lv_at hl 0 rfl) ?_
      refine x_get F hW 0 rfl fa_X5_41 rfl dX5_refuse_13 ?_
      refine lv_iload_n hx hb dX5_refuse_16 rfl (lv_at hl 1 rfl) ?_
      refine lv_ineg hx hb dX5_refuse_17 ?_
      refine lv_dup2_11 hx hb dX5_refuse_18 rfl rfl ?_
      obtain ⟨g_19, h⟩ := of_guard h
      refine x_iald F hW 38 rfl g_19 dX5_refuse_19 ?_
      refine lv_iconst (v := (1 : Int32)) hx hb dX5_refuse_20 (by decide) ?_
      refine lv_iadd hx hb dX5_refuse_21 ?_
      obtain ⟨g_22, h⟩ := of_guard h
      refine x_iast F hW 38 rfl g_22 (ws' := cEW G q (w.1, w.2.1, w.2.2.1, w.2.2.2.1, w.2.2.2.2.1, (upd w.2.2.2.2.2.1 (-x1).toNatClampNeg ((w.2.2.2.2.2.1 (-x1).toNatClampNeg) + (1 : Int32))), w.2.2.2.2.2.2.1, w.2.2.2.2.2.2.2)) rfl dX5_refuse_22 (fun H locs hW => ?_)
      refine lv_iload_n hx hb dX5_refuse_23 rfl (lv_at hl 1 rfl) ?_
      obtain rfl := Option.some.inj h
      exact x_reti F hr hW rfl dX5_refuse_24
def f_X5_letter (w : EW) (x1 : Int32) : Option (Int32 × EW) :=
  if 0 ≤ x1 then
    if (255 : Int32) < x1 then
    Option.bind (f_X5_refuse w (-6 : Int32)) fun p_31 =>
    some (p_31.1, p_31.2)
    else
    Option.bind (f_X2_isFull w.2.2.2.1) fun p_22 =>
    if p_22 = 0 then
    Option.bind (f_X2_add w.2.2.2.1 x1) fun p_40 =>
    some (p_40.1, (w.1, w.2.1, w.2.2.1, p_40.2, w.2.2.2.2.1, w.2.2.2.2.2.1, w.2.2.2.2.2.2.1, w.2.2.2.2.2.2.2))
    else
    Option.bind (f_X5_refuse w (-6 : Int32)) fun p_31_2 =>
    some (p_31_2.1, p_31_2.2)
    else
    Option.bind (f_X5_refuse w (-4 : Int32)) fun p_7 =>
    some (p_7.1, p_7.2)
abbrev rmX5_letter : Room := { frames := 2, cells := 0, slots := 0, locals := 41 }
set_option maxRecDepth 100000 in
set_option maxHeartbeats 4000000 in
theorem c_X5_letter (l : Launch) (G : EnT) (q : Nat → Nat) (w : EW) (x1 : Int32) (o : Int32 × EW) (h : f_X5_letter w x1 = some o) : Mi l yX5_letter rmX5_letter cX5_letter 2 (some .int) G false [.ref (q 0), .int x1] (cEW G q w) o.1 (cEW G q o.2) := by
  refine Mi_of (by decide) (Nat.le_of_ble_eq_true rfl) ?_
  intro p e s m below meth c A0 F hr hW ls hl
  obtain ⟨hx, hb, hml, hown, hts, hK, hNW, hlocks, hA, hSX⟩ := id F
  have hl : lv_has ls 2 [(0, .ref (q 0)), (1, .int x1)] := hl
  have hW : Wd G A0 s (cEW G q w) s.heap [] := hW
  show W p l e rmX5_letter s m ([.ref (q 0), .int x1] : List Value).toArray below meth c s.heap [] 0 0 (Qi below G (cEW G q o.2) o.1 A0 ([.ref (q 0), .int x1] : List Value).toArray s) (F0 m 0 ls [])
  refine lv_iload_n hx hb dX5_letter_0 rfl (lv_at hl 1 rfl) ?_
  obtain ⟨ht_1, hf_1⟩ := of_ite h
  refine lv_if_ge (tgt := 11) hx hb dX5_letter_1 (by decide) (fun c_1 => ?_) (fun c_1 => ?_)
  · have h := ht_1 c_1
    refine lv_iload_n hx hb dX5_letter_11 rfl (lv_at hl 1 rfl) ?_
    refine lv_sipush (v := (255 : Int32)) hx hb dX5_letter_12 (by decide) ?_
    obtain ⟨ht_15, hf_15⟩ := of_ite h
    refine lv_icmp_gt (tgt := 28) hx hb dX5_letter_15 (by decide) (fun c_15 => ?_) (fun c_15 => ?_)
    · have h := ht_15 c_15
      refine lv_aload_n hx hb dX5_letter_28 rfl (lv_at hl 0 rfl) ?_
      refine lv_bipush (v := (-6 : Int32)) hx hb dX5_letter_29 (by decide) ?_
      obtain ⟨p_31, hc_31, h⟩ := of_bind h
      refine x_Vi (av := [.ref (q 0), .int (-6 : Int32)]) (As := [.int (-6 : Int32)]) F hW (c_X5_refuse l G q w (-6 : Int32) _ hc_31) [0, 1, 2, 3, 4, 5, 6, 7, 8, 9, 10, 11, 12, 13, 14, 15, 16, 17, 18, 19, 20, 21, 22, 23, 24, 25, 26, 27, 28, 29, 30, 31, 32, 33, 34, 35, 36, 37, 38] rfl rfl (by intro q; cases q) cv_X5_44 rfl ⟨_, rfl, rfl⟩ rfl rfl rfl hl (Nat.le_of_ble_eq_true rfl) ⟨Nat.le_of_ble_eq_true rfl, Nat.le_of_ble_eq_true rfl⟩ ⟨rfl, rfl⟩ ⟨Nat.le_of_ble_eq_true rfl, Nat.le_of_ble_eq_true rfl⟩ dX5_letter_31 rfl [some 0, some 1, some 2, some 3, some 4, some 5, some 6, some 7, some 8, some 9, some 10, some 11, some 12, some 13, some 14, some 15, some 16, some 17, some 18, some 19, some 20, some 21, some 22, some 23, some 24, some 25, some 26, some 27, some 28, some 29, some 30, some 31, some 32, some 33, some 34, some 35, some 36, some 37, some 38] rfl (ws' := cEW G q p_31.2) rfl (fun H locs hW => ?_)
      obtain rfl := Option.some.inj h
      exact x_reti F hr hW rfl dX5_letter_34
    · have h := hf_15 c_15
      refine lv_aload_n hx hb dX5_letter_18 rfl (lv_at hl 0 rfl) ?_
      refine x_get F hW 0 rfl fa_X5_33 rfl dX5_letter_19 ?_
      obtain ⟨p_22, hc_22, h⟩ := of_bind h
      refine x_Vi (av := [.ref (q 35)]) (As := []) F hW (c_X2_isFull l G (fun i => q (i + 35)) w.2.2.2.1 _ hc_22) [35, 36] rfl rfl (by intro q; cases q) cv_X5_48 rfl ⟨_, rfl, rfl⟩ rfl rfl rfl hl (Nat.le_of_ble_eq_true rfl) ⟨Nat.le_of_ble_eq_true rfl, Nat.le_of_ble_eq_true rfl⟩ ⟨rfl, rfl⟩ ⟨Nat.le_of_ble_eq_true rfl, Nat.le_of_ble_eq_true rfl⟩ dX5_letter_22 rfl [none, none, none, none, none, none, none, none, none, none, none, none, none, none, none, none, none, none, none, none, none, none, none, none, none, none, none, none, none, none, none, none, none, none, none, some 0, some 1, none, none] rfl (ws' := cEW G q w) rfl (fun H locs hW => ?_)
      obtain ⟨ht_25, hf_25⟩ := of_ite h
      refine lv_if_eq (tgt := 35) hx hb dX5_letter_25 (by decide) (fun c_25 => ?_) (fun c_25 => ?_)
      · have h := ht_25 c_25
        refine lv_aload_n hx hb dX5_letter_35 rfl (lv_at hl 0 rfl) ?_
        refine x_get F hW 0 rfl fa_X5_33 rfl dX5_letter_36 ?_
        refine lv_iload_n hx hb dX5_letter_39 rfl (lv_at hl 1 rfl) ?_
        obtain ⟨p_40, hc_40, h⟩ := of_bind h
        refine x_Vi (av := [.ref (q 35), .int x1]) (As := [.int x1]) F hW (c_X2_add l G (fun i => q (i + 35)) w.2.2.2.1 x1 _ hc_40) [35, 36] rfl rfl (by intro q; cases q) cv_X5_52 rfl ⟨_, rfl, rfl⟩ rfl rfl rfl hl (Nat.le_of_ble_eq_true rfl) ⟨Nat.le_of_ble_eq_true rfl, Nat.le_of_ble_eq_true rfl⟩ ⟨rfl, rfl⟩ ⟨Nat.le_of_ble_eq_true rfl, Nat.le_of_ble_eq_true rfl⟩ dX5_letter_40 rfl [none, none, none, none, none, none, none, none, none, none, none, none, none, none, none, none, none, none, none, none, none, none, none, none, none, none, none, none, none, none, none, none, none, none, none, some 0, some 1, none, none] rfl (ws' := cEW G q (w.1, w.2.1, w.2.2.1, p_40.2, w.2.2.2.2.1, w.2.2.2.2.2.1, w.2.2.2.2.2.2.1, w.2.2.2.2.2.2.2)) rfl (fun H locs hW => ?_)
        obtain rfl := Option.some.inj h
        exact x_reti F hr hW rfl dX5_letter_43
      · have h := hf_25 c_25
        refine lv_aload_n hx hb dX5_letter_28 rfl (lv_at hl 0 rfl) ?_
        refine lv_bipush (v := (-6 : Int32)) hx hb dX5_letter_29 (by decide) ?_
        obtain ⟨p_31_2, hc_31, h⟩ := of_bind h
        refine x_Vi (av := [.ref (q 0), .int (-6 : Int32)]) (As := [.int (-6 : Int32)]) F hW (c_X5_refuse l G q w (-6 : Int32) _ hc_31) [0, 1, 2, 3, 4, 5, 6, 7, 8, 9, 10, 11, 12, 13, 14, 15, 16, 17, 18, 19, 20, 21, 22, 23, 24, 25, 26, 27, 28, 29, 30, 31, 32, 33, 34, 35, 36, 37, 38] rfl rfl (by intro q; cases q) cv_X5_44 rfl ⟨_, rfl, rfl⟩ rfl rfl rfl hl (Nat.le_of_ble_eq_true rfl) ⟨Nat.le_of_ble_eq_true rfl, Nat.le_of_ble_eq_true rfl⟩ ⟨rfl, rfl⟩ ⟨Nat.le_of_ble_eq_true rfl, Nat.le_of_ble_eq_true rfl⟩ dX5_letter_31 rfl [some 0, some 1, some 2, some 3, some 4, some 5, some 6, some 7, some 8, some 9, some 10, some 11, some 12, some 13, some 14, some 15, some 16, some 17, some 18, some 19, some 20, some 21, some 22, some 23, some 24, some 25, some 26, some 27, some 28, some 29, some 30, some 31, some 32, some 33, some 34, some 35, some 36, some 37, some 38] rfl (ws' := cEW G q p_31_2.2) rfl (fun H locs hW => ?_)
        obtain rfl := Option.some.inj h
        exact x_reti F hr hW rfl dX5_letter_34
  · have h := hf_1 c_1
    refine lv_aload_n hx hb dX5_letter_4 rfl (lv_at hl 0 rfl) ?_
    refine lv_bipush (v := (-4 : Int32)) hx hb dX5_letter_5 (by decide) ?_
    obtain ⟨p_7, hc_7, h⟩ := of_bind h
    refine x_Vi (av := [.ref (q 0), .int (-4 : Int32)]) (As := [.int (-4 : Int32)]) F hW (c_X5_refuse l G q w (-4 : Int32) _ hc_7) [0, 1, 2, 3, 4, 5, 6, 7, 8, 9, 10, 11, 12, 13, 14, 15, 16, 17, 18, 19, 20, 21, 22, 23, 24, 25, 26, 27, 28, 29, 30, 31, 32, 33, 34, 35, 36, 37, 38] rfl rfl (by intro q; cases q) cv_X5_44 rfl ⟨_, rfl, rfl⟩ rfl rfl rfl hl (Nat.le_of_ble_eq_true rfl) ⟨Nat.le_of_ble_eq_true rfl, Nat.le_of_ble_eq_true rfl⟩ ⟨rfl, rfl⟩ ⟨Nat.le_of_ble_eq_true rfl, Nat.le_of_ble_eq_true rfl⟩ dX5_letter_7 rfl [some 0, some 1, some 2, some 3, some 4, some 5, some 6, some 7, some 8, some 9, some 10, some 11, some 12, some 13, some 14, some 15, some 16, some 17, some 18, some 19, some 20, some 21, some 22, some 23, some 24, some 25, some 26, some 27, some 28, some 29, some 30, some 31, some 32, some 33, some 34, some 35, some 36, some 37, some 38] rfl (ws' := cEW G q p_7.2) rfl (fun H locs hW => ?_)
    obtain rfl := Option.some.inj h
    exact x_reti F hr hW rfl dX5_letter_10
def f_X5_land_38 (v1_38 : Int32) (t0_38 : Int32) (w_38 : EW) : Option (Int32 × EW) :=
  nm w_38.2.2.2.1.2.2 fun x_46 =>
    Option.bind (f_X2_forget w_38.2.2.2.1) fun p_51 =>
    if v1_38 < 0 then
    if t0_38 < 0 then
    Option.bind (f_X1_become w_38.1.1 w_38.2.1) fun p_82 =>
    some (x_46, ((p_82, w_38.1.2.1, w_38.1.2.2.1, w_38.1.2.2.2.1, w_38.1.2.2.2.2.1, w_38.1.2.2.2.2.2.1, w_38.1.2.2.2.2.2.2), w_38.2.1, w_38.2.2.1, p_51, w_38.2.2.2.2.1, w_38.2.2.2.2.2.1, w_38.2.2.2.2.2.2.1, w_38.2.2.2.2.2.2.2))
    else
    some (((-2000 : Int32) - t0_38), (w_38.1, w_38.2.1, w_38.2.2.1, p_51, w_38.2.2.2.2.1, w_38.2.2.2.2.2.1, w_38.2.2.2.2.2.2.1, w_38.2.2.2.2.2.2.2))
    else
    some (((-1000 : Int32) - v1_38), (w_38.1, w_38.2.1, w_38.2.2.1, p_51, w_38.2.2.2.2.1, w_38.2.2.2.2.2.1, w_38.2.2.2.2.2.2.1, w_38.2.2.2.2.2.2.2))
def f_X5_land (w : EW) : Option (Int32 × EW) :=
  Option.bind (f_X2_brokenPlace w.2.2.2.1) fun p_4 =>
    Option.bind (f_X1_become w.2.1 w.1.1) fun p_16 =>
    if 0 ≤ p_4 then
    f_X5_land_38 p_4 (-1 : Int32) (w.1, p_16, w.2.2.1, w.2.2.2.1, w.2.2.2.2.1, w.2.2.2.2.2.1, w.2.2.2.2.2.2.1, w.2.2.2.2.2.2.2)
    else
    Option.bind (f_X2_refusedPlace w.2.2.2.1 p_16) fun p_31 =>
    f_X5_land_38 p_4 p_31.1 (w.1, p_31.2.2, w.2.2.1, p_31.2.1, w.2.2.2.2.1, w.2.2.2.2.2.1, w.2.2.2.2.2.2.1, w.2.2.2.2.2.2.2)
abbrev rmX5_land : Room := { frames := 7, cells := 0, slots := 0, locals := 156 }
set_option maxRecDepth 100000 in
set_option maxHeartbeats 4000000 in
theorem c_X5_land (l : Launch) (G : EnT) (q : Nat → Nat) (w : EW) (o : Int32 × EW) (h : f_X5_land w = some o) : Mi l yX5_land rmX5_land cX5_land 4 (some .int) G true [.ref (q 0)] (cEW G q w) o.1 (cEW G q o.2) := by
  refine Mi_of (by decide) (Nat.le_of_ble_eq_true rfl) ?_
  intro p e s m below meth c A0 F hr hW ls hl
  obtain ⟨hx, hb, hml, hown, hts, hK, hNW, hlocks, hA, hSX⟩ := id F
  have hl : lv_has ls 4 [(0, .ref (q 0))] := hl
  have hW : Wd G A0 s (cEW G q w) s.heap [] := hW
  show W p l e rmX5_land s m ([.ref (q 0)] : List Value).toArray below meth c s.heap [] 0 0 (Qi below G (cEW G q o.2) o.1 A0 ([.ref (q 0)] : List Value).toArray s) (F0 m 0 ls [])
  have J0 : ∀ (v1_38 : Int32) (t0_38 : Int32) (w_38 : EW) (H : Heap) (locs : List Loc) (ls : Array Slot), f_X5_land_38 v1_38 t0_38 w_38 = some o → Wd G A0 s (cEW G q w_38) H locs → lv_has ls 4 [(1, .int v1_38), (0, .ref (q 0))] → W p l e rmX5_land s m ([.ref (q 0)] : List Value).toArray below meth c H locs 0 0 (Qi below G (cEW G q o.2) o.1 A0 ([.ref (q 0)] : List Value).toArray s) (F0 m 38 ls [.int t0_38]) := by
    intro v1_38 t0_38 w_38 H locs ls h hW hl
    refine lv_istore_n (lv' := [(2, .int t0_38), (1, .int v1_38), (0, .ref (q 0))]) hx hb dX5_land_38 rfl hl (by decide) rfl (fun ls hl => ?_)
    refine lv_aload_n hx hb dX5_land_39 rfl (lv_at hl 2 rfl) ?_
    refine x_get F hW 0 rfl fa_X5_33 rfl dX5_land_40 ?_
    refine x_get F hW 35 rfl fa_X5_67 rfl dX5_land_43 ?_
    obtain ⟨x_46, e_x_46, h⟩ := of_nm h
    refine x_topi e_x_46 ?_
    refine lv_istore_n (lv' := [(3, .int x_46), (2, .int t0_38), (1, .int v1_38), (0, .ref (q 0))]) hx hb dX5_land_46 rfl hl (by decide) rfl (fun ls hl => ?_)
    refine lv_aload_n hx hb dX5_land_47 rfl (lv_at hl 3 rfl) ?_
    refine x_get F hW 0 rfl fa_X5_33 rfl dX5_land_48 ?_
    obtain ⟨p_51, hc_51, h⟩ := of_bind h
    refine x_Vv (av := [.ref (q 35)]) (As := []) F hW (c_X2_forget l G (fun i => q (i + 35)) w_38.2.2.2.1 _ hc_51) [35, 36] rfl rfl (by intro q; cases q) cv_X5_71 rfl ⟨_, rfl, rfl⟩ rfl rfl rfl hl (Nat.le_of_ble_eq_true rfl) ⟨Nat.le_of_ble_eq_true rfl, Nat.le_of_ble_eq_true rfl⟩ ⟨rfl, rfl⟩ ⟨Nat.le_of_ble_eq_true rfl, Nat.le_of_ble_eq_true rfl⟩ dX5_land_51 rfl [none, none, none, none, none, none, none, none, none, none, none, none, none, none, none, none, none, none, none, none, none, none, none, none, none, none, none, none, none, none, none, none, none, none, none, some 0, some 1, none, none] rfl (ws' := cEW G q (w_38.1, w_38.2.1, w_38.2.2.1, p_51, w_38.2.2.2.2.1, w_38.2.2.2.2.2.1, w_38.2.2.2.2.2.2.1, w_38.2.2.2.2.2.2.2)) rfl (fun H locs hW => ?_)
    refine lv_iload_n hx hb dX5_land_54 rfl (lv_at hl 2 rfl) ?_
    obtain ⟨ht_55, hf_55⟩ := of_ite h
    refine lv_if_lt (tgt := 64) hx hb dX5_land_55 (by decide) (fun c_55 => ?_) (fun c_55 => ?_)
    · have h := ht_55 c_55
      refine lv_iload_n hx hb dX5_land_64 rfl (lv_at hl 1 rfl) ?_
      obtain ⟨ht_65, hf_65⟩ := of_ite h
      refine lv_if_lt (tgt := 74) hx hb dX5_land_65 (by decide) (fun c_65 => ?_) (fun c_65 => ?_)
      · have h := ht_65 c_65
        refine lv_aload_n hx hb dX5_land_74 rfl (lv_at hl 3 rfl) ?_
        refine x_get F hW 0 rfl fa_X5_20 rfl dX5_land_75 ?_
        refine lv_aload_n hx hb dX5_land_78 rfl (lv_at hl 3 rfl) ?_
        refine x_get F hW 0 rfl fa_X5_24 rfl dX5_land_79 ?_
        obtain ⟨p_82, hc_82, h⟩ := of_bind h
        refine x_Vv (av := [.ref (q 2), .ref (q 23)]) (As := [.ref (q 23)]) F hW (c_X1_become l G (fun i => q (i + 2)) w_38.1.1 (fun i => q (i + 23)) w_38.2.1 _ hc_82) [2, 3, 4, 5, 6, 7, 23, 24, 25, 26, 27, 28] rfl rfl (by intro q; cases q) cv_X5_59 rfl ⟨_, rfl, rfl⟩ rfl rfl rfl hl (Nat.le_of_ble_eq_true rfl) ⟨Nat.le_of_ble_eq_true rfl, Nat.le_of_ble_eq_true rfl⟩ ⟨rfl, rfl⟩ ⟨Nat.le_of_ble_eq_true rfl, Nat.le_of_ble_eq_true rfl⟩ dX5_land_82 rfl [none, none, some 0, some 1, some 2, some 3, some 4, some 5, none, none, none, none, none, none, none, none, none, none, none, none, none, none, none, some 6, some 7, some 8, some 9, some 10, some 11, none, none, none, none, none, none, none, none, none, none] rfl (ws' := cEW G q ((p_82, w_38.1.2.1, w_38.1.2.2.1, w_38.1.2.2.2.1, w_38.1.2.2.2.2.1, w_38.1.2.2.2.2.2.1, w_38.1.2.2.2.2.2.2), w_38.2.1, w_38.2.2.1, p_51, w_38.2.2.2.2.1, w_38.2.2.2.2.2.1, w_38.2.2.2.2.2.2.1, w_38.2.2.2.2.2.2.2)) rfl (fun H locs hW => ?_)
        refine lv_iload_n hx hb dX5_land_85 rfl (lv_at hl 0 rfl) ?_
        obtain rfl := Option.some.inj h
        exact x_reti F hr hW rfl dX5_land_86
      · have h := hf_65 c_65
        refine lv_sipush (v := (-2000 : Int32)) hx hb dX5_land_68 (by decide) ?_
        refine lv_iload_n hx hb dX5_land_71 rfl (lv_at hl 1 rfl) ?_
        refine lv_isub hx hb dX5_land_72 ?_
        obtain rfl := Option.some.inj h
        exact x_reti F hr hW rfl dX5_land_73
    · have h := hf_55 c_55
      refine lv_sipush (v := (-1000 : Int32)) hx hb dX5_land_58 (by decide) ?_
      refine lv_iload_n hx hb dX5_land_61 rfl (lv_at hl 2 rfl) ?_
      refine lv_isub hx hb dX5_land_62 ?_
      obtain rfl := Option.some.inj h
      exact x_reti F hr hW rfl dX5_land_63
  refine lv_aload_n hx hb dX5_land_0 rfl (lv_at hl 0 rfl) ?_
  refine x_get F hW 0 rfl fa_X5_33 rfl dX5_land_1 ?_
  obtain ⟨p_4, hc_4, h⟩ := of_bind h
  refine x_Vi (av := [.ref (q 35)]) (As := []) F hW (c_X2_brokenPlace l G (fun i => q (i + 35)) w.2.2.2.1 _ hc_4) [35, 36] rfl rfl (by intro q; exact q) cv_X5_55 rfl ⟨_, rfl, rfl⟩ rfl rfl rfl hl (Nat.le_of_ble_eq_true rfl) ⟨Nat.le_of_ble_eq_true rfl, Nat.le_of_ble_eq_true rfl⟩ ⟨rfl, rfl⟩ ⟨Nat.le_of_ble_eq_true rfl, Nat.le_of_ble_eq_true rfl⟩ dX5_land_4 rfl [none, none, none, none, none, none, none, none, none, none, none, none, none, none, none, none, none, none, none, none, none, none, none, none, none, none, none, none, none, none, none, none, none, none, none, some 0, some 1, none, none] rfl (ws' := cEW G q w) rfl (fun H locs hW => ?_)
  refine lv_istore_n (lv' := [(1, .int p_4), (0, .ref (q 0))]) hx hb dX5_land_7 rfl hl (by decide) rfl (fun ls hl => ?_)
  refine lv_aload_n hx hb dX5_land_8 rfl (lv_at hl 1 rfl) ?_
  refine x_get F hW 0 rfl fa_X5_24 rfl dX5_land_9 ?_
  refine lv_aload_n hx hb dX5_land_12 rfl (lv_at hl 1 rfl) ?_
  refine x_get F hW 0 rfl fa_X5_20 rfl dX5_land_13 ?_
  obtain ⟨p_16, hc_16, h⟩ := of_bind h
  refine x_Vv (av := [.ref (q 23), .ref (q 2)]) (As := [.ref (q 2)]) F hW (c_X1_become l G (fun i => q (i + 23)) w.2.1 (fun i => q (i + 2)) w.1.1 _ hc_16) [23, 24, 25, 26, 27, 28, 2, 3, 4, 5, 6, 7] rfl rfl (by intro q; cases q) cv_X5_59 rfl ⟨_, rfl, rfl⟩ rfl rfl rfl hl (Nat.le_of_ble_eq_true rfl) ⟨Nat.le_of_ble_eq_true rfl, Nat.le_of_ble_eq_true rfl⟩ ⟨rfl, rfl⟩ ⟨Nat.le_of_ble_eq_true rfl, Nat.le_of_ble_eq_true rfl⟩ dX5_land_16 rfl [none, none, some 6, some 7, some 8, some 9, some 10, some 11, none, none, none, none, none, none, none, none, none, none, none, none, none, none, none, some 0, some 1, some 2, some 3, some 4, some 5, none, none, none, none, none, none, none, none, none, none] rfl (ws' := cEW G q (w.1, p_16, w.2.2.1, w.2.2.2.1, w.2.2.2.2.1, w.2.2.2.2.2.1, w.2.2.2.2.2.2.1, w.2.2.2.2.2.2.2)) rfl (fun H locs hW => ?_)
  refine lv_iload_n hx hb dX5_land_19 rfl (lv_at hl 0 rfl) ?_
  obtain ⟨ht_20, hf_20⟩ := of_ite h
  refine lv_if_ge (tgt := 37) hx hb dX5_land_20 (by decide) (fun c_20 => ?_) (fun c_20 => ?_)
  · have h := ht_20 c_20
    refine lv_iconst (v := (-1 : Int32)) hx hb dX5_land_37 (by decide) ?_
    exact J0 p_4 (-1 : Int32) (w.1, p_16, w.2.2.1, w.2.2.2.1, w.2.2.2.2.1, w.2.2.2.2.2.1, w.2.2.2.2.2.2.1, w.2.2.2.2.2.2.2) _ _ _ h hW (lv_sub hl [0, 1] rfl)
  · have h := hf_20 c_20
    refine lv_aload_n hx hb dX5_land_23 rfl (lv_at hl 1 rfl) ?_
    refine x_get F hW 0 rfl fa_X5_33 rfl dX5_land_24 ?_
    refine lv_aload_n hx hb dX5_land_27 rfl (lv_at hl 1 rfl) ?_
    refine x_get F hW 0 rfl fa_X5_24 rfl dX5_land_28 ?_
    obtain ⟨p_31, hc_31, h⟩ := of_bind h
    refine x_Vi (av := [.ref (q 35), .ref (q 23)]) (As := [.ref (q 23)]) F hW (c_X2_refusedPlace l G (fun i => q (i + 35)) w.2.2.2.1 (fun i => q (i + 23)) p_16 _ hc_31) [35, 36, 23, 24, 25, 26, 27, 28] rfl rfl (by intro q; exact q) cv_X5_63 rfl ⟨_, rfl, rfl⟩ rfl rfl rfl hl (Nat.le_of_ble_eq_true rfl) ⟨Nat.le_of_ble_eq_true rfl, Nat.le_of_ble_eq_true rfl⟩ ⟨rfl, rfl⟩ ⟨Nat.le_of_ble_eq_true rfl, Nat.le_of_ble_eq_true rfl⟩ dX5_land_31 rfl [none, none, none, none, none, none, none, none, none, none, none, none, none, none, none, none, none, none, none, none, none, none, none, some 2, some 3, some 4, some 5, some 6, some 7, none, none, none, none, none, none, some 0, some 1, none, none] rfl (ws' := cEW G q (w.1, p_31.2.2, w.2.2.1, p_31.2.1, w.2.2.2.2.1, w.2.2.2.2.2.1, w.2.2.2.2.2.2.1, w.2.2.2.2.2.2.2)) rfl (fun H locs hW => ?_)
    refine lv_goto (tgt := 38) hx hb dX5_land_34 (by decide) ?_
    exact J0 p_4 p_31.1 (w.1, p_31.2.2, w.2.2.1, p_31.2.1, w.2.2.2.2.1, w.2.2.2.2.2.1, w.2.2.2.2.2.2.1, w.2.2.2.2.2.2.2) _ _ _ h hW (lv_sub hl [0, 1] rfl)
