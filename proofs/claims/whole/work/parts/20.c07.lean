def f_X4_nightsByLot_29 (k0 : Int32 → Int32 → Int32 → TW → Option (Int32 × TW)) (x3 : Int32) (v5_9 : Int32) (v6_9 : Int32) : Nat → Int32 → Int32 → TW → Option (Int32 × TW)
  | 0, _, _, _ => none
  | n1 + 1, v7_29, v4_29, w_29 =>
    if w_29.2.1.2.2.2.2.2.1 ≤ v7_29 then
    Option.bind (f_X3_lookOver w_29.2.2.1 w_29.2.1) fun p_102 =>
    Option.bind (f_X1_passNights w_29.2.1 (4 : Int32)) fun p_110 =>
    if x3 = 0 then
    Option.bind (f_X1_allWicks p_110) fun p_133 =>
    nm (v5_9 + p_133) fun x_137 =>
    k0 (v6_9 + (1 : Int32)) x_137 v4_29 (w_29.1, p_110, p_102, w_29.2.2.2.1, w_29.2.2.2.2.1, w_29.2.2.2.2.2.1, w_29.2.2.2.2.2.2)
    else
    Option.bind (f_X4_hangers (w_29.1, p_110, p_102, w_29.2.2.2.1, w_29.2.2.2.2.1, w_29.2.2.2.2.2.1, w_29.2.2.2.2.2.2)) fun p_120 =>
    Option.bind (f_J6_bitCount_0f7a4 p_120) fun p_123 =>
    nm (v5_9 + p_123) fun x_137_2 =>
    k0 (v6_9 + (1 : Int32)) x_137_2 v4_29 (w_29.1, p_110, p_102, w_29.2.2.2.1, w_29.2.2.2.2.1, w_29.2.2.2.2.2.1, w_29.2.2.2.2.2.2)
    else
    Option.bind (f_X4_nextSeed v4_29) fun p_43 =>
    Option.bind (f_X4_drawn p_43 (20 : Int32)) fun p_61 =>
    if inR v7_29 8 then
    Option.bind (f_X4_nextSeed p_43) fun p_67 =>
    Option.bind (f_X4_drawn p_67 (5 : Int32)) fun p_84 =>
    if inR v7_29 8 then
    f_X4_nightsByLot_29 k0 x3 v5_9 v6_9 n1 (v7_29 + (1 : Int32)) p_67 (w_29.1, (w_29.2.1.1, w_29.2.1.2.1, w_29.2.1.2.2.1, (upd w_29.2.1.2.2.2.1 v7_29.toNatClampNeg p_61), (upd w_29.2.1.2.2.2.2.1 v7_29.toNatClampNeg p_84), w_29.2.1.2.2.2.2.2.1, w_29.2.1.2.2.2.2.2.2.1, w_29.2.1.2.2.2.2.2.2.2.1, w_29.2.1.2.2.2.2.2.2.2.2), w_29.2.2.1, w_29.2.2.2.1, w_29.2.2.2.2.1, w_29.2.2.2.2.2.1, w_29.2.2.2.2.2.2)
    else none
    else none
def f_X4_nightsByLot_9 (x1 : Int32) (x3 : Int32) : Nat → Int32 → Int32 → Int32 → TW → Option (Int32 × TW)
  | 0, _, _, _, _ => none
  | n0 + 1, v6_9, v5_9, v4_9, w_9 =>
    if x1 ≤ v6_9 then
    some (v5_9, w_9)
    else
    Option.bind (f_X1_become w_9.2.1 w_9.1) fun p_23 =>
    f_X4_nightsByLot_29 (fun a0 a1 a2 a3 => f_X4_nightsByLot_9 x1 x3 n0 a0 a1 a2 a3) x3 v5_9 v6_9 200 (0 : Int32) v4_9 (w_9.1, p_23, w_9.2.2.1, w_9.2.2.2.1, w_9.2.2.2.2.1, w_9.2.2.2.2.2.1, w_9.2.2.2.2.2.2)
def f_X4_nightsByLot (w : TW) (x1 : Int32) (x2 : Int32) (x3 : Int32) : Option (Int32 × TW) :=
  f_X4_nightsByLot_9 x1 x3 200 (0 : Int32) (0 : Int32) x2 w
abbrev rmX4_nightsByLot : Room := { frames := 4, cells := 0, slots := 0, locals := 99 }
set_option maxRecDepth 100000 in
set_option maxHeartbeats 4000000 in
theorem c_X4_nightsByLot (l : Launch) (G : EnT) (q : Nat → Nat) (w : TW) (x1 : Int32) (x2 : Int32) (x3 : Int32) (o : Int32 × TW) (h : f_X4_nightsByLot w x1 x2 x3 = some o) : Mi l yX4_nightsByLot rmX4_nightsByLot cX4_nightsByLot 8 (some .int) G false [.ref (q 0), .int x1, .int x2, .int x3] (cTW G q w) o.1 (cTW G q o.2) := by
  refine Mi_of (by decide) (Nat.le_of_ble_eq_true rfl) ?_
  intro p e s m below meth c A0 F hr hW ls hl
  obtain ⟨hx, hb, hml, hown, hts, hK, hNW, hlocks, hA, hSX⟩ := id F
  have hl : lv_has ls 8 [(0, .ref (q 0)), (1, .int x1), (2, .int x2), (3, .int x3)] := hl
  have hW : Wd G A0 s (cTW G q w) s.heap [] := hW
  show W p l e rmX4_nightsByLot s m ([.ref (q 0), .int x1, .int x2, .int x3] : List Value).toArray below meth c s.heap [] 0 0 (Qi below G (cTW G q o.2) o.1 A0 ([.ref (q 0), .int x1, .int x2, .int x3] : List Value).toArray s) (F0 m 0 ls [])
  refine lv_iload_n hx hb dX4_nightsByLot_0 rfl (lv_at hl 2 rfl) ?_
  refine lv_istore (lv' := [(4, .int x2), (0, .ref (q 0)), (1, .int x1), (2, .int x2), (3, .int x3)]) hx hb dX4_nightsByLot_1 hl (by decide) rfl (fun ls hl => ?_)
  refine lv_iconst (v := (0 : Int32)) hx hb dX4_nightsByLot_3 (by decide) ?_
  refine lv_istore (lv' := [(5, .int (0 : Int32)), (4, .int x2), (0, .ref (q 0)), (1, .int x1), (2, .int x2), (3, .int x3)]) hx hb dX4_nightsByLot_4 hl (by decide) rfl (fun ls hl => ?_)
  refine lv_iconst (v := (0 : Int32)) hx hb dX4_nightsByLot_6 (by decide) ?_
  refine lv_istore (lv' := [(6, .int (0 : Int32)), (5, .int (0 : Int32)), (4, .int x2), (0, .ref (q 0)), (1, .int x1), (2, .int x2), (3, .int x3)]) hx hb dX4_nightsByLot_7 hl (by decide) rfl (fun ls hl => ?_)
  have L0 : ∀ (n0 : Nat) (v6_9 : Int32) (v5_9 : Int32) (v4_9 : Int32) (w_9 : TW) (H : Heap) (locs : List Loc) (ls : Array Slot), f_X4_nightsByLot_9 x1 x3 n0 v6_9 v5_9 v4_9 w_9 = some o → Wd G A0 s (cTW G q w_9) H locs → lv_has ls 8 [(6, .int v6_9), (5, .int v5_9), (4, .int v4_9), (0, .ref (q 0)), (1, .int x1), (3, .int x3)] → W p l e rmX4_nightsByLot s m ([.ref (q 0), .int x1, .int x2, .int x3] : List Value).toArray below meth c H locs 0 0 (Qi below G (cTW G q o.2) o.1 A0 ([.ref (q 0), .int x1, .int x2, .int x3] : List Value).toArray s) (F0 m 9 ls []) := by
    intro n0
    induction n0 with
    | zero => intro v6_9 v5_9 v4_9 w_9 H locs ls h; cases (show (none : Option (Int32 × TW)) = some o from h)
    | succ n0 ih0 =>
      intro v6_9 v5_9 v4_9 w_9 H locs ls h hW hl
      refine lv_iload hx hb dX4_nightsByLot_9 (lv_at hl 0 rfl) ?_
      refine lv_iload_n hx hb dX4_nightsByLot_11 rfl (lv_at hl 4 rfl) ?_
      obtain ⟨ht_12, hf_12⟩ := of_ite h
      refine lv_icmp_ge (tgt := 145) hx hb dX4_nightsByLot_12 (by decide) (fun c_12 => ?_) (fun c_12 => ?_)
      · have h := ht_12 c_12
        refine lv_iload hx hb dX4_nightsByLot_145 (lv_at hl 1 rfl) ?_
        obtain rfl := Option.some.inj h
        exact x_reti F hr hW rfl dX4_nightsByLot_147
      · have h := hf_12 c_12
        refine lv_aload_n hx hb dX4_nightsByLot_15 rfl (lv_at hl 3 rfl) ?_
        refine x_get F hW 0 rfl fa_X4_18 rfl dX4_nightsByLot_16 ?_
        refine lv_aload_n hx hb dX4_nightsByLot_19 rfl (lv_at hl 3 rfl) ?_
        refine x_get F hW 0 rfl fa_X4_12 rfl dX4_nightsByLot_20 ?_
        obtain ⟨p_23, hc_23, h⟩ := of_bind h
        refine x_Vv (av := [.ref (q 7), .ref (q 1)]) (As := [.ref (q 1)]) F hW (c_X1_become l G (fun i => q (i + 7)) w_9.2.1 (fun i => q (i + 1)) w_9.1 _ hc_23) [7, 8, 9, 10, 11, 12, 1, 2, 3, 4, 5, 6] rfl rfl (by intro q; cases q) cv_X4_41 rfl ⟨_, rfl, rfl⟩ rfl rfl rfl hl (Nat.le_of_ble_eq_true rfl) ⟨Nat.le_of_ble_eq_true rfl, Nat.le_of_ble_eq_true rfl⟩ ⟨rfl, rfl⟩ ⟨Nat.le_of_ble_eq_true rfl, Nat.le_of_ble_eq_true rfl⟩ dX4_nightsByLot_23 rfl [none, some 6, some 7, some 8, some 9, some 10, some 11, some 0, some 1, some 2, some 3, some 4, some 5, none, none, none, none, none, none, none, none, none] rfl (ws' := cTW G q (w_9.1, p_23, w_9.2.2.1, w_9.2.2.2.1, w_9.2.2.2.2.1, w_9.2.2.2.2.2.1, w_9.2.2.2.2.2.2)) rfl (fun H locs hW => ?_)
        refine lv_iconst (v := (0 : Int32)) hx hb dX4_nightsByLot_26 (by decide) ?_
        refine lv_istore (lv' := [(7, .int (0 : Int32)), (6, .int v6_9), (5, .int v5_9), (4, .int v4_9), (0, .ref (q 0)), (1, .int x1), (3, .int x3)]) hx hb dX4_nightsByLot_27 hl (by decide) rfl (fun ls hl => ?_)
        have L1 : ∀ (n1 : Nat) (v7_29 : Int32) (v4_29 : Int32) (w_29 : TW) (H : Heap) (locs : List Loc) (ls : Array Slot), f_X4_nightsByLot_29 (fun a0 a1 a2 a3 => f_X4_nightsByLot_9 x1 x3 n0 a0 a1 a2 a3) x3 v5_9 v6_9 n1 v7_29 v4_29 w_29 = some o → Wd G A0 s (cTW G q w_29) H locs → lv_has ls 8 [(7, .int v7_29), (6, .int v6_9), (5, .int v5_9), (4, .int v4_29), (0, .ref (q 0)), (1, .int x1), (3, .int x3)] → W p l e rmX4_nightsByLot s m ([.ref (q 0), .int x1, .int x2, .int x3] : List Value).toArray below meth c H locs 0 0 (Qi below G (cTW G q o.2) o.1 A0 ([.ref (q 0), .int x1, .int x2, .int x3] : List Value).toArray s) (F0 m 29 ls []) := by
          intro n1
          induction n1 with
          | zero => intro v7_29 v4_29 w_29 H locs ls h; cases (show (none : Option (Int32 × TW)) = some o from h)
          | succ n1 ih1 =>
            intro v7_29 v4_29 w_29 H locs ls h hW hl
            refine lv_iload hx hb dX4_nightsByLot_29 (lv_at hl 0 rfl) ?_
            refine lv_aload_n hx hb dX4_nightsByLot_31 rfl (lv_at hl 4 rfl) ?_
            refine x_get F hW 0 rfl fa_X4_18 rfl dX4_nightsByLot_32 ?_
            refine x_get F hW 7 rfl fa_X4_114 rfl dX4_nightsByLot_35 ?_
            obtain ⟨ht_38, hf_38⟩ := of_ite h
            refine lv_icmp_ge (tgt := 94) hx hb dX4_nightsByLot_38 (by decide) (fun c_38 => ?_) (fun c_38 => ?_)
            · have h := ht_38 c_38
              refine lv_aload_n hx hb dX4_nightsByLot_94 rfl (lv_at hl 4 rfl) ?_
              refine x_get F hW 0 rfl fa_X4_24 rfl dX4_nightsByLot_95 ?_
              refine lv_aload_n hx hb dX4_nightsByLot_98 rfl (lv_at hl 4 rfl) ?_
              refine x_get F hW 0 rfl fa_X4_18 rfl dX4_nightsByLot_99 ?_
              obtain ⟨p_102, hc_102, h⟩ := of_bind h
              refine x_Vv (av := [.ref (q 13), .ref (q 7)]) (As := [.ref (q 7)]) F hW (c_X3_lookOver l G (fun i => q (i + 13)) w_29.2.2.1 (fun i => q (i + 7)) w_29.2.1 _ hc_102) [13, 14, 15, 7, 8, 9, 10, 11, 12] rfl rfl (by intro q; cases q) cv_X4_131 rfl ⟨_, rfl, rfl⟩ rfl rfl rfl hl (Nat.le_of_ble_eq_true rfl) ⟨Nat.le_of_ble_eq_true rfl, Nat.le_of_ble_eq_true rfl⟩ ⟨rfl, rfl⟩ ⟨Nat.le_of_ble_eq_true rfl, Nat.le_of_ble_eq_true rfl⟩ dX4_nightsByLot_102 rfl [none, none, none, none, none, none, none, some 3, some 4, some 5, some 6, some 7, some 8, some 0, some 1, some 2, none, none, none, none, none, none] rfl (ws' := cTW G q (w_29.1, w_29.2.1, p_102, w_29.2.2.2.1, w_29.2.2.2.2.1, w_29.2.2.2.2.2.1, w_29.2.2.2.2.2.2)) rfl (fun H locs hW => ?_)
              refine lv_aload_n hx hb dX4_nightsByLot_105 rfl (lv_at hl 4 rfl) ?_
              refine x_get F hW 0 rfl fa_X4_18 rfl dX4_nightsByLot_106 ?_
              refine lv_iconst (v := (4 : Int32)) hx hb dX4_nightsByLot_109 (by decide) ?_
              obtain ⟨p_110, hc_110, h⟩ := of_bind h
              refine x_Vv (av := [.ref (q 7), .int (4 : Int32)]) (As := [.int (4 : Int32)]) F hW (c_X1_passNights l G (fun i => q (i + 7)) w_29.2.1 (4 : Int32) _ hc_110) [7, 8, 9, 10, 11, 12] rfl rfl (by intro q; cases q) cv_X4_67 rfl ⟨_, rfl, rfl⟩ rfl rfl rfl hl (Nat.le_of_ble_eq_true rfl) ⟨Nat.le_of_ble_eq_true rfl, Nat.le_of_ble_eq_true rfl⟩ ⟨rfl, rfl⟩ ⟨Nat.le_of_ble_eq_true rfl, Nat.le_of_ble_eq_true rfl⟩ dX4_nightsByLot_110 rfl [none, none, none, none, none, none, none, some 0, some 1, some 2, some 3, some 4, some 5, none, none, none, none, none, none, none, none, none] rfl (ws' := cTW G q (w_29.1, p_110, p_102, w_29.2.2.2.1, w_29.2.2.2.2.1, w_29.2.2.2.2.2.1, w_29.2.2.2.2.2.2)) rfl (fun H locs hW => ?_)
              refine lv_iload hx hb dX4_nightsByLot_113 (lv_at hl 2 rfl) ?_
              refine lv_iload_n hx hb dX4_nightsByLot_115 rfl (lv_at hl 6 rfl) ?_
              obtain ⟨ht_116, hf_116⟩ := of_ite h
              refine lv_if_eq (tgt := 129) hx hb dX4_nightsByLot_116 (by decide) (fun c_116 => ?_) (fun c_116 => ?_)
              · have h := ht_116 c_116
                refine lv_aload_n hx hb dX4_nightsByLot_129 rfl (lv_at hl 4 rfl) ?_
                refine x_get F hW 0 rfl fa_X4_18 rfl dX4_nightsByLot_130 ?_
                obtain ⟨p_133, hc_133, h⟩ := of_bind h
                refine x_Vi (av := [.ref (q 7)]) (As := []) F hW (c_X1_allWicks l G (fun i => q (i + 7)) p_110 _ hc_133) [7, 8, 9, 10, 11, 12] rfl rfl (by intro q; cases q) cv_X4_158 rfl ⟨_, rfl, rfl⟩ rfl rfl rfl hl (Nat.le_of_ble_eq_true rfl) ⟨Nat.le_of_ble_eq_true rfl, Nat.le_of_ble_eq_true rfl⟩ ⟨rfl, rfl⟩ ⟨Nat.le_of_ble_eq_true rfl, Nat.le_of_ble_eq_true rfl⟩ dX4_nightsByLot_133 rfl [none, none, none, none, none, none, none, some 0, some 1, some 2, some 3, some 4, some 5, none, none, none, none, none, none, none, none, none] rfl (ws' := cTW G q (w_29.1, p_110, p_102, w_29.2.2.2.1, w_29.2.2.2.2.1, w_29.2.2.2.2.2.1, w_29.2.2.2.2.2.2)) rfl (fun H locs hW => ?_)
                refine lv_iadd hx hb dX4_nightsByLot_136 ?_
                obtain ⟨x_137, e_x_137, h⟩ := of_nm h
                refine x_topi e_x_137 ?_
                refine lv_istore (lv' := [(5, .int x_137), (7, .int v7_29), (6, .int v6_9), (4, .int v4_29), (0, .ref (q 0)), (1, .int x1), (3, .int x3)]) hx hb dX4_nightsByLot_137 hl (by decide) rfl (fun ls hl => ?_)
                refine lv_iinc (v := (v6_9 + (1 : Int32))) (lv' := [(6, .int (v6_9 + (1 : Int32))), (5, .int x_137), (7, .int v7_29), (4, .int v4_29), (0, .ref (q 0)), (1, .int x1), (3, .int x3)]) hx hb dX4_nightsByLot_139 hl (k := 2) rfl rfl (by decide) rfl (fun ls hl => ?_)
                refine lv_goto (tgt := 9) hx hb dX4_nightsByLot_142 (by decide) ?_
                exact ih0 (v6_9 + (1 : Int32)) x_137 v4_29 (w_29.1, p_110, p_102, w_29.2.2.2.1, w_29.2.2.2.2.1, w_29.2.2.2.2.2.1, w_29.2.2.2.2.2.2) _ _ _ h hW (lv_sub hl [0, 1, 3, 4, 5, 6] rfl)
              · have h := hf_116 c_116
                refine lv_aload_n hx hb dX4_nightsByLot_119 rfl (lv_at hl 4 rfl) ?_
                obtain ⟨p_120, hc_120, h⟩ := of_bind h
                refine x_Vi (av := [.ref (q 0)]) (As := []) F hW (c_X4_hangers l G q (w_29.1, p_110, p_102, w_29.2.2.2.1, w_29.2.2.2.2.1, w_29.2.2.2.2.2.1, w_29.2.2.2.2.2.2) _ hc_120) [0, 1, 2, 3, 4, 5, 6, 7, 8, 9, 10, 11, 12, 13, 14, 15, 16, 17, 18, 19, 20, 21] rfl rfl (by intro q; cases q) cv_X4_74 rfl ⟨_, rfl, rfl⟩ rfl rfl rfl hl (Nat.le_of_ble_eq_true rfl) ⟨Nat.le_of_ble_eq_true rfl, Nat.le_of_ble_eq_true rfl⟩ ⟨rfl, rfl⟩ ⟨Nat.le_of_ble_eq_true rfl, Nat.le_of_ble_eq_true rfl⟩ dX4_nightsByLot_120 rfl [some 0, some 1, some 2, some 3, some 4, some 5, some 6, some 7, some 8, some 9, some 10, some 11, some 12, some 13, some 14, some 15, some 16, some 17, some 18, some 19, some 20, some 21] rfl (ws' := cTW G q (w_29.1, p_110, p_102, w_29.2.2.2.1, w_29.2.2.2.2.1, w_29.2.2.2.2.2.1, w_29.2.2.2.2.2.2)) rfl (fun H locs hW => ?_)
                obtain ⟨p_123, hc_123, h⟩ := of_bind h
                refine x_Si (av := [.int p_120]) F hW (c_J6_bitCount_0f7a4 l G p_120 _ hc_123) [] rfl rfl (by intro q; cases q) cs_X4_59 rfl rfl hl (Nat.le_of_ble_eq_true rfl) ⟨Nat.le_of_ble_eq_true rfl, Nat.le_of_ble_eq_true rfl⟩ ⟨rfl, rfl⟩ ⟨Nat.le_of_ble_eq_true rfl, Nat.le_of_ble_eq_true rfl⟩ dX4_nightsByLot_123 rfl [none, none, none, none, none, none, none, none, none, none, none, none, none, none, none, none, none, none, none, none, none, none] rfl (ws' := cTW G q (w_29.1, p_110, p_102, w_29.2.2.2.1, w_29.2.2.2.2.1, w_29.2.2.2.2.2.1, w_29.2.2.2.2.2.2)) rfl (fun H locs hW => ?_)
                refine lv_goto (tgt := 136) hx hb dX4_nightsByLot_126 (by decide) ?_
                refine lv_iadd hx hb dX4_nightsByLot_136 ?_
                obtain ⟨x_137_2, e_x_137_2, h⟩ := of_nm h
                refine x_topi e_x_137_2 ?_
                refine lv_istore (lv' := [(5, .int x_137_2), (7, .int v7_29), (6, .int v6_9), (4, .int v4_29), (0, .ref (q 0)), (1, .int x1), (3, .int x3)]) hx hb dX4_nightsByLot_137 hl (by decide) rfl (fun ls hl => ?_)
                refine lv_iinc (v := (v6_9 + (1 : Int32))) (lv' := [(6, .int (v6_9 + (1 : Int32))), (5, .int x_137_2), (7, .int v7_29), (4, .int v4_29), (0, .ref (q 0)), (1, .int x1), (3, .int x3)]) hx hb dX4_nightsByLot_139 hl (k := 2) rfl rfl (by decide) rfl (fun ls hl => ?_)
                refine lv_goto (tgt := 9) hx hb dX4_nightsByLot_142 (by decide) ?_
                exact ih0 (v6_9 + (1 : Int32)) x_137_2 v4_29 (w_29.1, p_110, p_102, w_29.2.2.2.1, w_29.2.2.2.2.1, w_29.2.2.2.2.2.1, w_29.2.2.2.2.2.2) _ _ _ h hW (lv_sub hl [0, 1, 3, 4, 5, 6] rfl)
            · have h := hf_38 c_38
              refine lv_iload hx hb dX4_nightsByLot_41 (lv_at hl 3 rfl) ?_
              obtain ⟨p_43, hc_43, h⟩ := of_bind h
              refine x_Si (av := [.int v4_29]) F hW (c_X4_nextSeed l G v4_29 _ hc_43) [] rfl rfl (by intro q; cases q) cs_X4_190 rfl rfl hl (Nat.le_of_ble_eq_true rfl) ⟨Nat.le_of_ble_eq_true rfl, Nat.le_of_ble_eq_true rfl⟩ ⟨rfl, rfl⟩ ⟨Nat.le_of_ble_eq_true rfl, Nat.le_of_ble_eq_true rfl⟩ dX4_nightsByLot_43 rfl [none, none, none, none, none, none, none, none, none, none, none, none, none, none, none, none, none, none, none, none, none, none] rfl (ws' := cTW G q w_29) rfl (fun H locs hW => ?_)
              refine lv_istore (lv' := [(4, .int p_43), (7, .int v7_29), (6, .int v6_9), (5, .int v5_9), (0, .ref (q 0)), (1, .int x1), (3, .int x3)]) hx hb dX4_nightsByLot_46 hl (by decide) rfl (fun ls hl => ?_)
              refine lv_aload_n hx hb dX4_nightsByLot_48 rfl (lv_at hl 4 rfl) ?_
              refine x_get F hW 0 rfl fa_X4_18 rfl dX4_nightsByLot_49 ?_
              refine x_get F hW 7 rfl fa_X4_97 rfl dX4_nightsByLot_52 ?_
              refine lv_iload hx hb dX4_nightsByLot_55 (lv_at hl 1 rfl) ?_
              refine lv_iload hx hb dX4_nightsByLot_57 (lv_at hl 0 rfl) ?_
              refine lv_bipush (v := (20 : Int32)) hx hb dX4_nightsByLot_59 (by decide) ?_
              obtain ⟨p_61, hc_61, h⟩ := of_bind h
              refine x_Si (av := [.int p_43, .int (20 : Int32)]) F hW (c_X4_drawn l G p_43 (20 : Int32) _ hc_61) [] rfl rfl (by intro q; cases q) cs_X4_193 rfl rfl hl (Nat.le_of_ble_eq_true rfl) ⟨Nat.le_of_ble_eq_true rfl, Nat.le_of_ble_eq_true rfl⟩ ⟨rfl, rfl⟩ ⟨Nat.le_of_ble_eq_true rfl, Nat.le_of_ble_eq_true rfl⟩ dX4_nightsByLot_61 rfl [none, none, none, none, none, none, none, none, none, none, none, none, none, none, none, none, none, none, none, none, none, none] rfl (ws' := cTW G q w_29) rfl (fun H locs hW => ?_)
              obtain ⟨g_64, h⟩ := of_guard h
              refine x_iast F hW 11 rfl g_64 (ws' := cTW G q (w_29.1, (w_29.2.1.1, w_29.2.1.2.1, w_29.2.1.2.2.1, (upd w_29.2.1.2.2.2.1 v7_29.toNatClampNeg p_61), w_29.2.1.2.2.2.2.1, w_29.2.1.2.2.2.2.2.1, w_29.2.1.2.2.2.2.2.2.1, w_29.2.1.2.2.2.2.2.2.2.1, w_29.2.1.2.2.2.2.2.2.2.2), w_29.2.2.1, w_29.2.2.2.1, w_29.2.2.2.2.1, w_29.2.2.2.2.2.1, w_29.2.2.2.2.2.2)) rfl dX4_nightsByLot_64 (fun H locs hW => ?_)
              refine lv_iload hx hb dX4_nightsByLot_65 (lv_at hl 0 rfl) ?_
              obtain ⟨p_67, hc_67, h⟩ := of_bind h
              refine x_Si (av := [.int p_43]) F hW (c_X4_nextSeed l G p_43 _ hc_67) [] rfl rfl (by intro q; cases q) cs_X4_190 rfl rfl hl (Nat.le_of_ble_eq_true rfl) ⟨Nat.le_of_ble_eq_true rfl, Nat.le_of_ble_eq_true rfl⟩ ⟨rfl, rfl⟩ ⟨Nat.le_of_ble_eq_true rfl, Nat.le_of_ble_eq_true rfl⟩ dX4_nightsByLot_67 rfl [none, none, none, none, none, none, none, none, none, none, none, none, none, none, none, none, none, none, none, none, none, none] rfl (ws' := cTW G q (w_29.1, (w_29.2.1.1, w_29.2.1.2.1, w_29.2.1.2.2.1, (upd w_29.2.1.2.2.2.1 v7_29.toNatClampNeg p_61), w_29.2.1.2.2.2.2.1, w_29.2.1.2.2.2.2.2.1, w_29.2.1.2.2.2.2.2.2.1, w_29.2.1.2.2.2.2.2.2.2.1, w_29.2.1.2.2.2.2.2.2.2.2), w_29.2.2.1, w_29.2.2.2.1, w_29.2.2.2.2.1, w_29.2.2.2.2.2.1, w_29.2.2.2.2.2.2)) rfl (fun H locs hW => ?_)
              refine lv_istore (lv' := [(4, .int p_67), (7, .int v7_29), (6, .int v6_9), (5, .int v5_9), (0, .ref (q 0)), (1, .int x1), (3, .int x3)]) hx hb dX4_nightsByLot_70 hl (by decide) rfl (fun ls hl => ?_)
              refine lv_aload_n hx hb dX4_nightsByLot_72 rfl (lv_at hl 4 rfl) ?_
              refine x_get F hW 0 rfl fa_X4_18 rfl dX4_nightsByLot_73 ?_
              refine x_get F hW 7 rfl fa_X4_77 rfl dX4_nightsByLot_76 ?_
              refine lv_iload hx hb dX4_nightsByLot_79 (lv_at hl 1 rfl) ?_
              refine lv_iload hx hb dX4_nightsByLot_81 (lv_at hl 0 rfl) ?_
              refine lv_iconst (v := (5 : Int32)) hx hb dX4_nightsByLot_83 (by decide) ?_
              obtain ⟨p_84, hc_84, h⟩ := of_bind h
              refine x_Si (av := [.int p_67, .int (5 : Int32)]) F hW (c_X4_drawn l G p_67 (5 : Int32) _ hc_84) [] rfl rfl (by intro q; cases q) cs_X4_193 rfl rfl hl (Nat.le_of_ble_eq_true rfl) ⟨Nat.le_of_ble_eq_true rfl, Nat.le_of_ble_eq_true rfl⟩ ⟨rfl, rfl⟩ ⟨Nat.le_of_ble_eq_true rfl, Nat.le_of_ble_eq_true rfl⟩ dX4_nightsByLot_84 rfl [none, none, none, none, none, none, none, none, none, none, none, none, none, none, none, none, none, none, none, none, none, none] rfl (ws' := cTW G q (w_29.1, (w_29.2.1.1, w_29.2.1.2.1, w_29.2.1.2.2.1, (upd w_29.2.1.2.2.2.1 v7_29.toNatClampNeg p_61), w_29.2.1.2.2.2.2.1, w_29.2.1.2.2.2.2.2.1, w_29.2.1.2.2.2.2.2.2.1, w_29.2.1.2.2.2.2.2.2.2.1, w_29.2.1.2.2.2.2.2.2.2.2), w_29.2.2.1, w_29.2.2.2.1, w_29.2.2.2.2.1, w_29.2.2.2.2.2.1, w_29.2.2.2.2.2.2)) rfl (fun H locs hW => ?_)
              obtain ⟨g_87, h⟩ := of_guard h
              refine x_iast F hW 12 rfl g_87 (ws' := cTW G q (w_29.1, (w_29.2.1.1, w_29.2.1.2.1, w_29.2.1.2.2.1, (upd w_29.2.1.2.2.2.1 v7_29.toNatClampNeg p_61), (upd w_29.2.1.2.2.2.2.1 v7_29.toNatClampNeg p_84), w_29.2.1.2.2.2.2.2.1, w_29.2.1.2.2.2.2.2.2.1, w_29.2.1.2.2.2.2.2.2.2.1, w_29.2.1.2.2.2.2.2.2.2.2), w_29.2.2.1, w_29.2.2.2.1, w_29.2.2.2.2.1, w_29.2.2.2.2.2.1, w_29.2.2.2.2.2.2)) rfl dX4_nightsByLot_87 (fun H locs hW => ?_)
              refine lv_iinc (v := (v7_29 + (1 : Int32))) (lv' := [(7, .int (v7_29 + (1 : Int32))), (4, .int p_67), (6, .int v6_9), (5, .int v5_9), (0, .ref (q 0)), (1, .int x1), (3, .int x3)]) hx hb dX4_nightsByLot_88 hl (k := 1) rfl rfl (by decide) rfl (fun ls hl => ?_)
              refine lv_goto (tgt := 29) hx hb dX4_nightsByLot_91 (by decide) ?_
              exact ih1 (v7_29 + (1 : Int32)) p_67 (w_29.1, (w_29.2.1.1, w_29.2.1.2.1, w_29.2.1.2.2.1, (upd w_29.2.1.2.2.2.1 v7_29.toNatClampNeg p_61), (upd w_29.2.1.2.2.2.2.1 v7_29.toNatClampNeg p_84), w_29.2.1.2.2.2.2.2.1, w_29.2.1.2.2.2.2.2.2.1, w_29.2.1.2.2.2.2.2.2.2.1, w_29.2.1.2.2.2.2.2.2.2.2), w_29.2.2.1, w_29.2.2.2.1, w_29.2.2.2.2.1, w_29.2.2.2.2.2.1, w_29.2.2.2.2.2.2) _ _ _ h hW (lv_sub hl [0, 2, 3, 1, 4, 5, 6] rfl)
        exact L1 200 (0 : Int32) v4_9 (w_9.1, p_23, w_9.2.2.1, w_9.2.2.2.1, w_9.2.2.2.2.1, w_9.2.2.2.2.2.1, w_9.2.2.2.2.2.2) _ _ _ h hW (lv_sub hl [0, 1, 2, 3, 4, 5, 6] rfl)
  exact L0 200 (0 : Int32) (0 : Int32) x2 w _ _ _ h hW (lv_sub hl [0, 1, 2, 3, 4, 6] rfl)
def f_X5_refuse (w : EW) (x1 : Int32) : Option (Int32 × EW) :=
  if (-x1) ≤ 0 then
    some (x1, w)
    else
    if (6 : Int32) < (-x1) then
    some (x1, w)
    else
    if inR (-x1) 7 then
    if inR (-x1) 7 then
    some (x1, (w.1, w.2.1, w.2.2.1, w.2.2.2.1, w.2.2.2.2.1, (upd w.2.2.2.2.2.1 (-x1).toNatClampNeg ((w.2.2.2.2.2.1 (-x1).toNatClampNeg) + (1 : Int32))), w.2.2.2.2.2.2.1, w.2.2.2.2.2.2.2))
    else none
    else none
abbrev rmX5_refuse : Room := { frames := 0, cells := 0, slots := 0, locals := 0 }
set_option maxRecDepth 100000 in
set_option maxHeartbeats 4000000 in
theorem c_X5_refuse (l : Launch) (G : EnT) (q : Nat → Nat) (w : EW) (x1 : Int32) (o : Int32 × EW) (h : f_X5_refuse w x1 = some o) : Mi l yX5_refuse rmX5_refuse cX5_refuse 2 (some .int) G false [.ref (q 0), .int x1] (cEW G q w) o.1 (cEW G q o.2) := by
  refine Mi_of (by decide) (Nat.le_of_ble_eq_true rfl) ?_
  intro p e s m below meth c A0 F hr hW ls hl
  obtain ⟨hx, hb, hml, hown, hts, hK, hNW, hlocks, hA, hSX⟩ := id F
  have hl : lv_has ls 2 [(0, .ref (q 0)), (1, .int x1)] := hl
  have hW : Wd G A0 s (cEW G q w) s.heap [] := hW
  show W p l e rmX5_refuse s m ([.ref (q 0), .int x1] : List Value).toArray below meth c s.heap [] 0 0 (Qi below G (cEW G q o.2) o.1 A0 ([.ref (q 0), .int x1] : List Value).toArray s) (F0 m 0 ls [])
  refine lv_iload_n hx hb dX5_refuse_0 rfl (lv_at hl 1 rfl) ?_
  refine lv_ineg hx hb dX5_refuse_1 ?_
  obtain ⟨ht_2, hf_2⟩ := of_ite h
  refine lv_if_le (tgt := 23) hx hb dX5_refuse_2 (by decide) (fun c_2 => ?_) (fun c_2 => ?_)
  · have h := ht_2 c_2
    refine lv_iload_n hx hb dX5_refuse_23 rfl (lv_at hl 1 rfl) ?_
    obtain rfl := Option.some.inj h
    exact x_reti F hr hW rfl dX5_refuse_24
  · have h := hf_2 c_2
    refine lv_iload_n hx hb dX5_refuse_5 rfl (lv_at hl 1 rfl) ?_
    refine lv_ineg hx hb dX5_refuse_6 ?_
    refine lv_bipush (v := (6 : Int32)) hx hb dX5_refuse_7 (by decide) ?_
    obtain ⟨ht_9, hf_9⟩ := of_ite h
    refine lv_icmp_gt (tgt := 23) hx hb dX5_refuse_9 (by decide) (fun c_9 => ?_) (fun c_9 => ?_)
    · have h := ht_9 c_9
      refine lv_iload_n hx hb dX5_refuse_23 rfl (lv_at hl 1 rfl) ?_
      obtain rfl := Option.some.inj h
      exact x_reti F hr hW rfl dX5_refuse_24
    · have h := hf_9 c_9
      refine lv_aload_n hx hb dX5_refuse_12 rfl (lv_at hl 0 rfl) ?_
      refine x_get F hW 0 rfl fa_X5_41 rfl dX5_refuse_13 ?_
      refine lv_iload_n hx hb dX5_refuse_16 rfl (lv_at hl 1 rfl) ?_
      refine lv_ineg hx hb dX5_refuse_17 ?_
      refine lv_dup2_11 hx hb dX5_refuse_18 rfl rfl ?_
      obtain ⟨g_19, h⟩ := of_guard h
      refine x_iald F hW 38 rfl g_19 dX5_refuse_19 ?_
      refine lv_iconst (v := (1 : Int32)) hx hb dX5_refuse_20 (by decide) ?_
      refine lv_iadd hx hb dX5_refuse_21 ?_
      obtain ⟨g_22, h⟩ := of_guard h
      refine x_iast F hW 38 rfl g_22 (ws' := cEW G q (w.1, w.2.1, w.2.2.1, w.2.2.2.1, w.2.2.2.2.1, (upd w.2.2.2.2.2.1 (-x1).toNatClampNeg ((w.2.2.2.2.2.1 (-x1).toNatClampNeg) + (1 : Int32))), w.2.2.2.2.2.2.1, w.2.2.2.2.2.2.2)) rfl dX5_refuse_22 (fun H locs hW => ?_)
      refine lv_iload_n hx hb dX5_refuse_23 rfl (lv_at hl 1 rfl) ?_
      obtain rfl := Option.some.inj h
      exact x_reti F hr hW rfl dX5_refuse_24
def f_X5_letter (w : EW) (x1 : Int32) : Option (Int32 × EW) :=
  if 0 ≤ x1 then
    if (255 : Int32) < x1 then
    Option.bind (f_X5_refuse w (-6 : Int32)) fun p_31 =>
    some (p_31.1, p_31.2)
    else
    Option.bind (f_X2_isFull w.2.2.2.1) fun p_22 =>
    if p_22 = 0 then
    Option.bind (f_X2_add w.2.2.2.1 x1) fun p_40 =>
    some (p_40.1, (w.1, w.2.1, w.2.2.1, p_40.2, w.2.2.2.2.1, w.2.2.2.2.2.1, w.2.2.2.2.2.2.1, w.2.2.2.2.2.2.2))
    else
    Option.bind (f_X5_refuse w (-6 : Int32)) fun p_31_2 =>
    some (p_31_2.1, p_31_2.2)
    else
    Option.bind (f_X5_refuse w (-4 : Int32)) fun p_7 =>
    some (p_7.1, p_7.2)
abbrev rmX5_letter : Room := { frames := 2, cells := 0, slots := 0, locals := 41 }
set_option maxRecDepth 100000 in
set_option maxHeartbeats 4000000 in
theorem c_X5_letter (l : Launch) (G : EnT) (q : Nat → Nat) (w : EW) (x1 : Int32) (o : Int32 × EW) (h : f_X5_letter w x1 = some o) : Mi l yX5_letter rmX5_letter cX5_letter 2 (some .int) G false [.ref (q 0), .int x1] (cEW G q w) o.1 (cEW G q o.2) := by
  refine Mi_of (by decide) (Nat.le_of_ble_eq_true rfl) ?_
  intro p e s m below meth c A0 F hr hW ls hl
  obtain ⟨hx, hb, hml, hown, hts, hK, hNW, hlocks, hA, hSX⟩ := id F
  have hl : lv_has ls 2 [(0, .ref (q 0)), (1, .int x1)] := hl
  have hW : Wd G A0 s (cEW G q w) s.heap [] := hW
  show W p l e rmX5_letter s m ([.ref (q 0), .int x1] : List Value).toArray below meth c s.heap [] 0 0 (Qi below G (cEW G q o.2) o.1 A0 ([.ref (q 0), .int x1] : List Value).toArray s) (F0 m 0 ls [])
  refine lv_iload_n hx hb dX5_letter_0 rfl (lv_at hl 1 rfl) ?_
  obtain ⟨ht_1, hf_1⟩ := of_ite h
  refine lv_if_ge (tgt := 11) hx hb dX5_letter_1 (by decide) (fun c_1 => ?_) (fun c_1 => ?_)
  · have h := ht_1 c_1
    refine lv_iload_n hx hb dX5_letter_11 rfl (lv_at hl 1 rfl) ?_
    refine lv_sipush (v := (255 : Int32)) hx hb dX5_letter_12 (by decide) ?_
    obtain ⟨ht_15, hf_15⟩ := of_ite h
    refine lv_icmp_gt (tgt := 28) hx hb dX5_letter_15 (by decide) (fun c_15 => ?_) (fun c_15 => ?_)
    · have h := ht_15 c_15
      refine lv_aload_n hx hb dX5_letter_28 rfl (lv_at hl 0 rfl) ?_
      refine lv_bipush (v := (-6 : Int32)) hx hb dX5_letter_29 (by decide) ?_
      obtain ⟨p_31, hc_31, h⟩ := of_bind h
      refine x_Vi (av := [.ref (q 0), .int (-6 : Int32)]) (As := [.int (-6 : Int32)]) F hW (c_X5_refuse l G q w (-6 : Int32) _ hc_31) [0, 1, 2, 3, 4, 5, 6, 7, 8, 9, 10, 11, 12, 13, 14, 15, 16, 17, 18, 19, 20, 21, 22, 23, 24, 25, 26, 27, 28, 29, 30, 31, 32, 33, 34, 35, 36, 37, 38] rfl rfl (by intro q; cases q) cv_X5_44 rfl ⟨_, rfl, rfl⟩ rfl rfl rfl hl (Nat.le_of_ble_eq_true rfl) ⟨Nat.le_of_ble_eq_true rfl, Nat.le_of_ble_eq_true rfl⟩ ⟨rfl, rfl⟩ ⟨Nat.le_of_ble_eq_true rfl, Nat.le_of_ble_eq_true rfl⟩ dX5_letter_31 rfl [some 0, some 1, some 2, some 3, some 4, some 5, some 6, some 7, some 8, some 9, some 10, some 11, some 12, some 13, some 14, some 15, some 16, some 17, some 18, some 19, some 20, some 21, some 22, some 23, some 24, some 25, some 26, some 27, some 28, some 29, some 30, some 31, some 32, some 33, some 34, some 35, some 36, some 37, some 38] rfl (ws' := cEW G q p_31.2) rfl (fun H locs hW => ?_)
      obtain rfl := Option.some.inj h
      exact x_reti F hr hW rfl dX5_letter_34
    · have h := hf_15 c_15
      refine lv_aload_n hx hb dX5_letter_18 rfl (lv_at hl 0 rfl) ?_
      refine x_get F hW 0 rfl fa_X5_33 rfl dX5_letter_19 ?_
      obtain ⟨p_22, hc_22, h⟩ := of_bind h
      refine x_Vi (av := [.ref (q 35)]) (As := []) F hW (c_X2_isFull l G (fun i => q (i + 35)) w.2.2.2.1 _ hc_22) [35, 36] rfl rfl (by intro q; cases q) cv_X5_48 rfl ⟨_, rfl, rfl⟩ rfl rfl rfl hl (Nat.le_of_ble_eq_true rfl) ⟨Nat.le_of_ble_eq_true rfl, Nat.le_of_ble_eq_true rfl⟩ ⟨rfl, rfl⟩ ⟨Nat.le_of_ble_eq_true rfl, Nat.le_of_ble_eq_true rfl⟩ dX5_letter_22 rfl [none, none, none, none, none, none, none, none, none, none, none, none, none, none, none, none, none, none, none, none, none, none, none, none, none, none, none, none, none, none, none, none, none, none, none, some 0, some 1, none, none] rfl (ws' := cEW G q w) rfl (fun H locs hW => ?_)
      obtain ⟨ht_25, hf_25⟩ := of_ite h
      refine lv_if_eq (tgt := 35) hx hb dX5_letter_25 (by decide) (fun c_25 => ?_) (fun c_25 => ?_)
      · have h := ht_25 c_25
        refine lv_aload_n hx hb dX5_letter_35 rfl (lv_at hl 0 rfl) ?_
        refine x_get F hW 0 rfl fa_X5_33 rfl dX5_letter_36 ?_
        refine lv_iload_n hx hb dX5_letter_39 rfl (lv_at hl 1 rfl) ?_
        obtain ⟨p_40, hc_40, h⟩ := of_bind h
        refine x_Vi (av := [.ref (q 35), .int x1]) (As := [.int x1]) F hW (c_X2_add l G (fun i => q (i + 35)) w.2.2.2.1 x1 _ hc_40) [35, 36] rfl rfl (by intro q; cases q) cv_X5_52 rfl ⟨_, rfl, rfl⟩ rfl rfl rfl hl (Nat.le_of_ble_eq_true rfl) ⟨Nat.le_of_ble_eq_true rfl, Nat.le_of_ble_eq_true rfl⟩ ⟨rfl, rfl⟩ ⟨Nat.le_of_ble_eq_true rfl, Nat.le_of_ble_eq_true rfl⟩ dX5_letter_40 rfl [none, none, none, none, none, none, none, none, none, none, none, none, none, none, none, none, none, none, none, none, none, none, none, none, none, none, none, none, none, none, none, none, none, none, none, some 0, some 1, none, none] rfl (ws' := cEW G q (w.1, w.2.1, w.2.2.1, p_40.2, w.2.2.2.2.1, w.2.2.2.2.2.1, w.2.2.2.2.2.2.1, w.2.2.2.2.2.2.2)) rfl (fun H locs hW => ?_)
        obtain rfl := Option.some.inj h
        exact x_reti F hr hW rfl dX5_letter_43
      · have h := hf_25 c_25
        refine lv_aload_n hx hb dX5_letter_28 rfl (lv_at hl 0 rfl) ?_
        refine lv_bipush (v := (-6 : Int32)) hx hb dX5_letter_29 (by decide) ?_
        obtain ⟨p_31_2, hc_31, h⟩ := of_bind h
        refine x_Vi (av := [.ref (q 0), .int (-6 : Int32)]) (As := [.int (-6 : Int32)]) F hW (c_X5_refuse l G q w (-6 : Int32) _ hc_31) [0, 1, 2, 3, 4, 5, 6, 7, 8, 9, 10, 11, 12, 13, 14, 15, 16, 17, 18, 19, 20, 21, 22, 23, 24, 25, 26, 27, 28, 29, 30, 31, 32, 33, 34, 35, 36, 37, 38] rfl rfl (by intro q; cases q) cv_X5_44 rfl ⟨_, rfl, rfl⟩ rfl rfl rfl hl (Nat.le_of_ble_eq_true rfl) ⟨Nat.le_of_ble_eq_true rfl, Nat.le_of_ble_eq_true rfl⟩ ⟨rfl, rfl⟩ ⟨Nat.le_of_ble_eq_true rfl, Nat.le_of_ble_eq_true rfl⟩ dX5_letter_31 rfl [some 0, some 1, some 2, some 3, some 4, some 5, some 6, some 7, some 8, some 9, some 10, some 11, some 12, some 13, some 14, some 15, some 16, some 17, some 18, some 19, some 20, some 21, some 22, some 23, some 24, some 25, some 26, some 27, some 28, some 29, some 30, some 31, some 32, some 33, some 34, some 35, some 36, some 37, some 38] rfl (ws' := cEW G q p_31_2.2) rfl (fun H locs hW => ?_)
        obtain rfl := Option.some.inj h
        exact x_reti F hr hW rfl dX5_letter_34
  · have h := hf_1 c_1
    refine lv_aload_n hx hb dX5_letter_4 rfl (lv_at hl 0 rfl) ?_
    refine lv_bipush (v := (-4 : Int32)) hx hb dX5_letter_5 (by decide) ?_
    obtain ⟨p_7, hc_7, h⟩ := of_bind h
    refine x_Vi (av := [.ref (q 0), .int (-4 : Int32)]) (As := [.int (-4 : Int32)]) F hW (c_X5_refuse l G q w (-4 : Int32) _ hc_7) [0, 1, 2, 3, 4, 5, 6, 7, 8, 9, 10, 11, 12, 13, 14, 15, 16, 17, 18, 19, 20, 21, 22, 23, 24, 25, 26, 27, 28, 29, 30, 31, 32, 33, 34, 35, 36, 37, 38] rfl rfl (by intro q; cases q) cv_X5_44 rfl ⟨_, rfl, rfl⟩ rfl rfl rfl hl (Nat.le_of_ble_eq_true rfl) ⟨Nat.le_of_ble_eq_true rfl, Nat.le_of_ble_eq_true rfl⟩ ⟨rfl, rfl⟩ ⟨Nat.le_of_ble_eq_true rfl, Nat.le_of_ble_eq_true rfl⟩ dX5_letter_7 rfl [some 0, some 1, some 2, some 3, some 4, some 5, some 6, some 7, some 8, some 9, some 10, some 11, some 12, some 13, some 14, some 15, some 16, some 17, some 18, some 19, some 20, some 21, some 22, some 23, some 24, some 25, some 26, some 27, some 28, some 29, some 30, some 31, some 32, some 33, some 34, some 35, some 36, some 37, some 38] rfl (ws' := cEW G q p_7.2) rfl (fun H locs hW => ?_)
    obtain rfl := Option.some.inj h
    exact x_reti F hr hW rfl dX5_letter_10
def f_X5_land_38 (v1_38 : Int32) (t0_38 : Int32) (w_38 : EW) : Option (Int32 × EW) :=
  nm w_38.2.2.2.1.2.2 fun x_46 =>
    Option.bind (f_X2_forget w_38.2.2.2.1) fun p_51 =>
    if v1_38 < 0 then
    if t0_38 < 0 then
    Option.bind (f_X1_become w_38.1.1 w_38.2.1) fun p_82 =>
    some (x_46, ((p_82, w_38.1.2.1, w_38.1.2.2.1, w_38.1.2.2.2.1, w_38.1.2.2.2.2.1, w_38.1.2.2.2.2.2.1, w_38.1.2.2.2.2.2.2), w_38.2.1, w_38.2.2.1, p_51, w_38.2.2.2.2.1, w_38.2.2.2.2.2.1, w_38.2.2.2.2.2.2.1, w_38.2.2.2.2.2.2.2))
    else
    some (((-2000 : Int32) - t0_38), (w_38.1, w_38.2.1, w_38.2.2.1, p_51, w_38.2.2.2.2.1, w_38.2.2.2.2.2.1, w_38.2.2.2.2.2.2.1, w_38.2.2.2.2.2.2.2))
    else
    some (((-1000 : Int32) - v1_38), (w_38.1, w_38.2.1, w_38.2.2.1, p_51, w_38.2.2.2.2.1, w_38.2.2.2.2.2.1, w_38.2.2.2.2.2.2.1, w_38.2.2.2.2.2.2.2))
def f_X5_land (w : EW) : Option (Int32 × EW) :=
  Option.bind (f_X2_brokenPlace w.2.2.2.1) fun p_4 =>
    Option.bind (f_X1_become w.2.1 w.1.1) fun p_16 =>
    if 0 ≤ p_4 then
    f_X5_land_38 p_4 (-1 : Int32) (w.1, p_16, w.2.2.1, w.2.2.2.1, w.2.2.2.2.1, w.2.2.2.2.2.1, w.2.2.2.2.2.2.1, w.2.2.2.2.2.2.2)
    else
    Option.bind (f_X2_refusedPlace w.2.2.2.1 p_16) fun p_31 =>
    f_X5_land_38 p_4 p_31.1 (w.1, p_31.2.2, w.2.2.1, p_31.2.1, w.2.2.2.2.1, w.2.2.2.2.2.1, w.2.2.2.2.2.2.1, w.2.2.2.2.2.2.2)
abbrev rmX5_land : Room := { frames := 7, cells := 0, slots := 0, locals := 156 }
set_option maxRecDepth 100000 in
set_option maxHeartbeats 4000000 in
theorem c_X5_land (l : Launch) (G : EnT) (q : Nat → Nat) (w : EW) (o : Int32 × EW) (h : f_X5_land w = some o) : Mi l yX5_land rmX5_land cX5_land 4 (some .int) G true [.ref (q 0)] (cEW G q w) o.1 (cEW G q o.2) := by
  refine Mi_of (by decide) (Nat.le_of_ble_eq_true rfl) ?_
  intro p e s m below meth c A0 F hr hW ls hl
  obtain ⟨hx, hb, hml, hown, hts, hK, hNW, hlocks, hA, hSX⟩ := id F
  have hl : lv_has ls 4 [(0, .ref (q 0))] := hl
  have hW : Wd G A0 s (cEW G q w) s.heap [] := hW
  show W p l e rmX5_land s m ([.ref (q 0)] : List Value).toArray below meth c s.heap [] 0 0 (Qi below G (cEW G q o.2) o.1 A0 ([.ref (q 0)] : List Value).toArray s) (F0 m 0 ls [])
  have J0 : ∀ (v1_38 : Int32) (t0_38 : Int32) (w_38 : EW) (H : Heap) (locs : List Loc) (ls : Array Slot), f_X5_land_38 v1_38 t0_38 w_38 = some o → Wd G A0 s (cEW G q w_38) H locs → lv_has ls 4 [(1, .int v1_38), (0, .ref (q 0))] → W p l e rmX5_land s m ([.ref (q 0)] : List Value).toArray below meth c H locs 0 0 (Qi below G (cEW G q o.2) o.1 A0 ([.ref (q 0)] : List Value).toArray s) (F0 m 38 ls [.int t0_38]) := by
    intro v1_38 t0_38 w_38 H locs ls h hW hl
    refine lv_istore_n (lv' := [(2, .int t0_38), (1, .int v1_38), (0, .ref (q 0))]) hx hb dX5_land_38 rfl hl (by decide) rfl (fun ls hl => ?_)
    refine lv_aload_n hx hb dX5_land_39 rfl (lv_at hl 2 rfl) ?_
    refine x_get F hW 0 rfl fa_X5_33 rfl dX5_land_40 ?_
    refine x_get F hW 35 rfl fa_X5_67 rfl dX5_land_43 ?_
    obtain ⟨x_46, e_x_46, h⟩ := of_nm h
    refine x_topi e_x_46 ?_
    refine lv_istore_n (lv' := [(3, .int x_46), (2, .int t0_38), (1, .int v1_38), (0, .ref (q 0))]) hx hb dX5_land_46 rfl hl (by decide) rfl (fun ls hl => ?_)
    refine lv_aload_n hx hb dX5_land_47 rfl (lv_at hl 3 rfl) ?_
    refine x_get F hW 0 rfl fa_X5_33 rfl dX5_land_48 ?_
    obtain ⟨p_51, hc_51, h⟩ := of_bind h
    refine x_Vv (av := [.ref (q 35)]) (As := []) F hW (c_X2_forget l G (fun i => q (i + 35)) w_38.2.2.2.1 _ hc_51) [35, 36] rfl rfl (by intro q; cases q) cv_X5_71 rfl ⟨_, rfl, rfl⟩ rfl rfl rfl hl (Nat.le_of_ble_eq_true rfl) ⟨Nat.le_of_ble_eq_true rfl, Nat.le_of_ble_eq_true rfl⟩ ⟨rfl, rfl⟩ ⟨Nat.le_of_ble_eq_true rfl, Nat.le_of_ble_eq_true rfl⟩ dX5_land_51 rfl [none, none, none, none, none, none, none, none, none, none, none, none, none, none, none, none, none, none, none, none, none, none, none, none, none, none, none, none, none, none, none, none, none, none, none, some 0, some 1, none, none] rfl (ws' := cEW G q (w_38.1, w_38.2.1, w_38.2.2.1, p_51, w_38.2.2.2.2.1, w_38.2.2.2.2.2.1, w_38.2.2.2.2.2.2.1, w_38.2.2.2.2.2.2.2)) rfl (fun H locs hW => ?_)
    refine lv_iload_n hx hb dX5_land_54 rfl (lv_at hl 2 rfl) ?_
    obtain ⟨ht_55, hf_55⟩ := of_ite h
    refine lv_if_lt (tgt := 64) hx hb dX5_land_55 (by decide) (fun c_55 => ?_) (fun c_55 => ?_)
    · have h := ht_55 c_55
      refine lv_iload_n hx hb dX5_land_64 rfl (lv_at hl 1 rfl) ?_
      obtain ⟨ht_65, hf_65⟩ := of_ite h
      refine lv_if_lt (tgt := 74) hx hb dX5_land_65 (by decide) (fun c_65 => ?_) (fun c_65 => ?_)
      · have h := ht_65 c_65
        refine lv_aload_n hx hb dX5_land_74 rfl (lv_at hl 3 rfl) ?_
        refine x_get F hW 0 rfl fa_X5_20 rfl dX5_land_75 ?_
        refine lv_aload_n hx hb dX5_land_78 rfl (lv_at hl 3 rfl) ?_
        refine x_get F hW 0 rfl fa_X5_24 rfl dX5_land_79 ?_
        obtain ⟨p_82, hc_82, h⟩ := of_bind h
        refine x_Vv (av := [.ref (q 2), .ref (q 23)]) (As := [.ref (q 23)]) F hW (c_X1_become l G (fun i => q (i + 2)) w_38.1.1 (fun i => q (i + 23)) w_38.2.1 _ hc_82) [2, 3, 4, 5, 6, 7, 23, 24, 25, 26, 27, 28] rfl rfl (by intro q; cases q) cv_X5_59 rfl ⟨_, rfl, rfl⟩ rfl rfl rfl hl (Nat.le_of_ble_eq_true rfl) ⟨Nat.le_of_ble_eq_true rfl, Nat.le_of_ble_eq_true rfl⟩ ⟨rfl, rfl⟩ ⟨Nat.le_of_ble_eq_true rfl, Nat.le_of_ble_eq_true rfl⟩ dX5_land_82 rfl [none, none, some 0, some 1, some 2, some 3, some 4, some 5, none, none, none, none, none, none, none, none, none, none, none, none, none, none, none, some 6, some 7, some 8, some 9, some 10, some 11, none, none, none, none, none, none, none, none, none, none] rfl (ws' := cEW G q ((p_82, w_38.1.2.1, w_38.1.2.2.1, w_38.1.2.2.2.1, w_38.1.2.2.2.2.1, w_38.1.2.2.2.2.2.1, w_38.1.2.2.2.2.2.2), w_38.2.1, w_38.2.2.1, p_51, w_38.2.2.2.2.1, w_38.2.2.2.2.2.1, w_38.2.2.2.2.2.2.1, w_38.2.2.2.2.2.2.2)) rfl (fun H locs hW => ?_)
        refine lv_iload_n hx hb dX5_land_85 rfl (lv_at hl 0 rfl) ?_
        obtain rfl := Option.some.inj h
        exact x_reti F hr hW rfl dX5_land_86
      · have h := hf_65 c_65
        refine lv_sipush (v := (-2000 : Int32)) hx hb dX5_land_68 (by decide) ?_
        refine lv_iload_n hx hb dX5_land_71 rfl (lv_at hl 1 rfl) ?_
        refine lv_isub hx hb dX5_land_72 ?_
        obtain rfl := Option.some.inj h
        exact x_reti F hr hW rfl dX5_land_73
    · have h := hf_55 c_55
      refine lv_sipush (v := (-1000 : Int32)) hx hb dX5_land_58 (by decide) ?_
      refine lv_iload_n hx hb dX5_land_61 rfl (lv_at hl 2 rfl) ?_
      refine lv_isub hx hb dX5_land_62 ?_
      obtain rfl := Option.some.inj h
      exact x_reti F hr hW rfl dX5_land_63
  refine lv_aload_n hx hb dX5_land_0 rfl (lv_at hl 0 rfl) ?_
  refine x_get F hW 0 rfl fa_X5_33 rfl dX5_land_1 ?_
  obtain ⟨p_4, hc_4, h⟩ := of_bind h
  refine x_Vi (av := [.ref (q 35)]) (As := []) F hW (c_X2_brokenPlace l G (fun i => q (i + 35)) w.2.2.2.1 _ hc_4) [35, 36] rfl rfl (by intro q; exact q) cv_X5_55 rfl ⟨_, rfl, rfl⟩ rfl rfl rfl hl (Nat.le_of_ble_eq_true rfl) ⟨Nat.le_of_ble_eq_true rfl, Nat.le_of_ble_eq_true rfl⟩ ⟨rfl, rfl⟩ ⟨Nat.le_of_ble_eq_true rfl, Nat.le_of_ble_eq_true rfl⟩ dX5_land_4 rfl [none, none, none, none, none, none, none, none, none, none, none, none, none, none, none, none, none, none, none, none, none, none, none, none, none, none, none, none, none, none, none, none, none, none, none, some 0, some 1, none, none] rfl (ws' := cEW G q w) rfl (fun H locs hW => ?_)
  refine lv_istore_n (lv' := [(1, .int p_4), (0, .ref (q 0))]) hx hb dX5_land_7 rfl hl (by decide) rfl (fun ls hl => ?_)
  refine lv_aload_n hx hb dX5_land_8 rfl (lv_at hl 1 rfl) ?_
  refine x_get F hW 0 rfl fa_X5_24 rfl dX5_land_9 ?_
  refine lv_aload_n hx hb dX5_land_12 rfl (lv_at hl 1 rfl) ?_
  refine x_get F hW 0 rfl fa_X5_20 rfl dX5_land_13 ?_
  obtain ⟨p_16, hc_16, h⟩ := of_bind h
  refine x_Vv (av := [.ref (q 23), .ref (q 2)]) (As := [.ref (q 2)]) F hW (c_X1_become l G (fun i => q (i + 23)) w.2.1 (fun i => q (i + 2)) w.1.1 _ hc_16) [23, 24, 25, 26, 27, 28, 2, 3, 4, 5, 6, 7] rfl rfl (by intro q; cases q) cv_X5_59 rfl ⟨_, rfl, rfl⟩ rfl rfl rfl hl (Nat.le_of_ble_eq_true rfl) ⟨Nat.le_of_ble_eq_true rfl, Nat.le_of_ble_eq_true rfl⟩ ⟨rfl, rfl⟩ ⟨Nat.le_of_ble_eq_true rfl, Nat.le_of_ble_eq_true rfl⟩ dX5_land_16 rfl [none, none, some 6, some 7, some 8, some 9, some 10, some 11, none, none, none, none, none, none, none, none, none, none, none, none, none, none, none, some 0, some 1, some 2, some 3, some 4, some 5, none, none, none, none, none, none, none, none, none, none] rfl (ws' := cEW G q (w.1, p_16, w.2.2.1, w.2.2.2.1, w.2.2.2.2.1, w.2.2.2.2.2.1, w.2.2.2.2.2.2.1, w.2.2.2.2.2.2.2)) rfl (fun H locs hW => ?_)
  refine lv_iload_n hx hb dX5_land_19 rfl (lv_at hl 0 rfl) ?_
  obtain ⟨ht_20, hf_20⟩ := of_ite h
  refine lv_if_ge (tgt := 37) hx hb dX5_land_20 (by decide) (fun c_20 => ?_) (fun c_20 => ?_)
  · have h := ht_20 c_20
    refine lv_iconst (v := (-1 : Int32)) hx hb dX5_land_37 (by decide) ?_
    exact J0 p_4 (-1 : Int32) (w.1, p_16, w.2.2.1, w.2.2.2.1, w.2.2.2.2.1, w.2.2.2.2.2.1, w.2.2.2.2.2.2.1, w.2.2.2.2.2.2.2) _ _ _ h hW (lv_sub hl [0, 1] rfl)
  · have h := hf_20 c_20
    refine lv_aload_n hx hb dX5_land_23 rfl (lv_at hl 1 rfl) ?_
    refine x_get F hW 0 rfl fa_X5_33 rfl dX5_land_24 ?_
    refine lv_aload_n hx hb dX5_land_27 rfl (lv_at hl 1 rfl) ?_
    refine x_get F hW 0 rfl fa_X5_24 rfl dX5_land_28 ?_
    obtain ⟨p_31, hc_31, h⟩ := of_bind h
    refine x_Vi (av := [.ref (q 35), .ref (q 23)]) (As := [.ref (q 23)]) F hW (c_X2_refusedPlace l G (fun i => q (i + 35)) w.2.2.2.1 (fun i => q (i + 23)) p_16 _ hc_31) [35, 36, 23, 24, 25, 26, 27, 28] rfl rfl (by intro q; exact q) cv_X5_63 rfl ⟨_, rfl, rfl⟩ rfl rfl rfl hl (Nat.le_of_ble_eq_true rfl) ⟨Nat.le_of_ble_eq_true rfl, Nat.le_of_ble_eq_true rfl⟩ ⟨rfl, rfl⟩ ⟨Nat.le_of_ble_eq_true rfl, Nat.le_of_ble_eq_true rfl⟩ dX5_land_31 rfl [none, none, none, none, none, none, none, none, none, none, none, none, none, none, none, none, none, none, none, none, none, none, none, some 2, some 3, some 4, some 5, some 6, some 7, none, none, none, none, none, none, some 0, some 1, none, none] rfl (ws' := cEW G q (w.1, p_31.2.2, w.2.2.1, p_31.2.1, w.2.2.2.2.1, w.2.2.2.2.2.1, w.2.2.2.2.2.2.1, w.2.2.2.2.2.2.2)) rfl (fun H locs hW => ?_)
    refine lv_goto (tgt := 38) hx hb dX5_land_34 (by decide) ?_
    exact J0 p_4 p_31.1 (w.1, p_31.2.2, w.2.2.1, p_31.2.1, w.2.2.2.2.1, w.2.2.2.2.2.1, w.2.2.2.2.2.2.1, w.2.2.2.2.2.2.2) _ _ _ h hW (lv_sub hl [0, 1] rfl)
def f_X5_house (w : EW) (x1 : Int32) (x2 : Int32) : Option (Int32 × EW) :=
  Option.bind (f_X1_isHouse w.1.1 x1) fun p_5 =>
    if p_5 = 0 then
    Option.bind (f_X5_refuse w (-1 : Int32)) fun p_13 =>
    some (p_13.1, p_13.2)
    else
    if x2 = (0 : Int32) then
    if inR x1 8 then
    some ((w.1.1.2.1 x1.toNatClampNeg), w)
    else none
    else
    if x2 = (1 : Int32) then
    if inR x1 8 then
    some ((w.1.1.2.2.1 x1.toNatClampNeg), w)
    else none
    else
    if x2 = (2 : Int32) then
    if inR x1 8 then
    some ((w.1.1.2.2.2.1 x1.toNatClampNeg), w)
    else none
    else
    if x2 = (3 : Int32) then
    if inR x1 8 then
    some ((w.1.1.2.2.2.2.1 x1.toNatClampNeg), w)
    else none
    else
    if x2 = (4 : Int32) then
    Option.bind (f_X1_isCalled w.1.1 x1) fun p_109 =>
    if p_109 = 0 then
    some ((0 : Int32), w)
    else
    some ((1 : Int32), w)
    else
    if x2 = (5 : Int32) then
    Option.bind (f_X1_isLit w.1.1 x1) fun p_126 =>
    if p_126 = 0 then
    some ((0 : Int32), w)
    else
    some ((1 : Int32), w)
    else
    if x2 = (6 : Int32) then
    Option.bind (f_X1_eyeOf w.1.1 x1) fun p_143 =>
    some (p_143, w)
    else
    if x2 = (7 : Int32) then
    Option.bind (f_X1_burnsOf w.1.1 x1) fun p_152 =>
    some (p_152, w)
    else
    Option.bind (f_X5_refuse w (-2 : Int32)) fun p_159 =>
    some (p_159.1, p_159.2)
abbrev rmX5_house : Room := { frames := 2, cells := 0, slots := 0, locals := 44 }
set_option maxRecDepth 100000 in
set_option maxHeartbeats 4000000 in
theorem c_X5_house (l : Launch) (G : EnT) (q : Nat → Nat) (w : EW) (x1 : Int32) (x2 : Int32) (o : Int32 × EW) (h : f_X5_house w x1 x2 = some o) : Mi l yX5_house rmX5_house cX5_house 3 (some .int) G false [.ref (q 0), .int x1, .int x2] (cEW G q w) o.1 (cEW G q o.2) := by
  refine Mi_of (by decide) (Nat.le_of_ble_eq_true rfl) ?_
  intro p e s m below meth c A0 F hr hW ls hl
  obtain ⟨hx, hb, hml, hown, hts, hK, hNW, hlocks, hA, hSX⟩ := id F
  have hl : lv_has ls 3 [(0, .ref (q 0)), (1, .int x1), (2, .int x2)] := hl
  have hW : Wd G A0 s (cEW G q w) s.heap [] := hW
  show W p l e rmX5_house s m ([.ref (q 0), .int x1, .int x2] : List Value).toArray below meth c s.heap [] 0 0 (Qi below G (cEW G q o.2) o.1 A0 ([.ref (q 0), .int x1, .int x2] : List Value).toArray s) (F0 m 0 ls [])
  refine lv_aload_n hx hb dX5_house_0 rfl (lv_at hl 0 rfl) ?_
  refine x_get F hW 0 rfl fa_X5_20 rfl dX5_house_1 ?_
  refine lv_iload_n hx hb dX5_house_4 rfl (lv_at hl 1 rfl) ?_
  obtain ⟨p_5, hc_5, h⟩ := of_bind h
  refine x_Vi (av := [.ref (q 2), .int x1]) (As := [.int x1]) F hW (c_X1_isHouse l G (fun i => q (i + 2)) w.1.1 x1 _ hc_5) [2, 3, 4, 5, 6, 7] rfl rfl (by intro q; cases q) cv_X5_74 rfl ⟨_, rfl, rfl⟩ rfl rfl rfl hl (Nat.le_of_ble_eq_true rfl) ⟨Nat.le_of_ble_eq_true rfl, Nat.le_of_ble_eq_true rfl⟩ ⟨rfl, rfl⟩ ⟨Nat.le_of_ble_eq_true rfl, Nat.le_of_ble_eq_true rfl⟩ dX5_house_5 rfl [none, none, some 0, some 1, some 2, some 3, some 4, some 5, none, none, none, none, none, none, none, none, none, none, none, none, none, none, none, none, none, none, none, none, none, none, none, none, none, none, none, none, none, none, none] rfl (ws' := cEW G q w) rfl (fun H locs hW => ?_)
  obtain ⟨ht_8, hf_8⟩ := of_ite h
  refine lv_if_ne (tgt := 17) hx hb dX5_house_8 (by decide) (fun c_8 => ?_) (fun c_8 => ?_)
  · have h := hf_8 c_8
    refine lv_iload_n hx hb dX5_house_17 rfl (lv_at hl 2 rfl) ?_
    obtain ⟨ht_18_0, h⟩ := of_ite h
    by_cases c_18_0 : x2 = (0 : Int32)
    · have h := ht_18_0 c_18_0
      refine x_tableIn c_18_0 hx hb dX5_house_18 (by decide) (by decide) (off := (46)) rfl (tgt := 64) (by decide) ?_
      refine lv_aload_n hx hb dX5_house_64 rfl (lv_at hl 0 rfl) ?_
      refine x_get F hW 0 rfl fa_X5_20 rfl dX5_house_65 ?_
      refine x_get F hW 2 rfl fa_X5_78 rfl dX5_house_68 ?_
      refine lv_iload_n hx hb dX5_house_71 rfl (lv_at hl 1 rfl) ?_
      obtain ⟨g_72, h⟩ := of_guard h
      refine x_iald F hW 4 rfl g_72 dX5_house_72 ?_
      obtain rfl := Option.some.inj h
      exact x_reti F hr hW rfl dX5_house_73
    have h := h c_18_0
    obtain ⟨ht_18_1, h⟩ := of_ite h
    by_cases c_18_1 : x2 = (1 : Int32)
    · have h := ht_18_1 c_18_1
      refine x_tableIn c_18_1 hx hb dX5_house_18 (by decide) (by decide) (off := (56)) rfl (tgt := 74) (by decide) ?_
      refine lv_aload_n hx hb dX5_house_74 rfl (lv_at hl 0 rfl) ?_
      refine x_get F hW 0 rfl fa_X5_20 rfl dX5_house_75 ?_
      refine x_get F hW 2 rfl fa_X5_81 rfl dX5_house_78 ?_
      refine lv_iload_n hx hb dX5_house_81 rfl (lv_at hl 1 rfl) ?_
      obtain ⟨g_82, h⟩ := of_guard h
      refine x_iald F hW 5 rfl g_82 dX5_house_82 ?_
      obtain rfl := Option.some.inj h
      exact x_reti F hr hW rfl dX5_house_83
    have h := h c_18_1
    obtain ⟨ht_18_2, h⟩ := of_ite h
    by_cases c_18_2 : x2 = (2 : Int32)
    · have h := ht_18_2 c_18_2
      refine x_tableIn c_18_2 hx hb dX5_house_18 (by decide) (by decide) (off := (66)) rfl (tgt := 84) (by decide) ?_
      refine lv_aload_n hx hb dX5_house_84 rfl (lv_at hl 0 rfl) ?_
      refine x_get F hW 0 rfl fa_X5_20 rfl dX5_house_85 ?_
      refine x_get F hW 2 rfl fa_X5_84 rfl dX5_house_88 ?_
      refine lv_iload_n hx hb dX5_house_91 rfl (lv_at hl 1 rfl) ?_
      obtain ⟨g_92, h⟩ := of_guard h
      refine x_iald F hW 6 rfl g_92 dX5_house_92 ?_
      obtain rfl := Option.some.inj h
      exact x_reti F hr hW rfl dX5_house_93
    have h := h c_18_2
    obtain ⟨ht_18_3, h⟩ := of_ite h
    by_cases c_18_3 : x2 = (3 : Int32)
    · have h := ht_18_3 c_18_3
      refine x_tableIn c_18_3 hx hb dX5_house_18 (by decide) (by decide) (off := (76)) rfl (tgt := 94) (by decide) ?_
      refine lv_aload_n hx hb dX5_house_94 rfl (lv_at hl 0 rfl) ?_
      refine x_get F hW 0 rfl fa_X5_20 rfl dX5_house_95 ?_
      refine x_get F hW 2 rfl fa_X5_87 rfl dX5_house_98 ?_
      refine lv_iload_n hx hb dX5_house_101 rfl (lv_at hl 1 rfl) ?_
      obtain ⟨g_102, h⟩ := of_guard h
      refine x_iald F hW 7 rfl g_102 dX5_house_102 ?_
      obtain rfl := Option.some.inj h
      exact x_reti F hr hW rfl dX5_house_103
    have h := h c_18_3
    obtain ⟨ht_18_4, h⟩ := of_ite h
    by_cases c_18_4 : x2 = (4 : Int32)
    · have h := ht_18_4 c_18_4
      refine x_tableIn c_18_4 hx hb dX5_house_18 (by decide) (by decide) (off := (86)) rfl (tgt := 104) (by decide) ?_
      refine lv_aload_n hx hb dX5_house_104 rfl (lv_at hl 0 rfl) ?_
      refine x_get F hW 0 rfl fa_X5_20 rfl dX5_house_105 ?_
      refine lv_iload_n hx hb dX5_house_108 rfl (lv_at hl 1 rfl) ?_
      obtain ⟨p_109, hc_109, h⟩ := of_bind h
      refine x_Vi (av := [.ref (q 2), .int x1]) (As := [.int x1]) F hW (c_X1_isCalled l G (fun i => q (i + 2)) w.1.1 x1 _ hc_109) [2, 3, 4, 5, 6, 7] rfl rfl (by intro q; cases q) cv_X5_90 rfl ⟨_, rfl, rfl⟩ rfl rfl rfl hl (Nat.le_of_ble_eq_true rfl) ⟨Nat.le_of_ble_eq_true rfl, Nat.le_of_ble_eq_true rfl⟩ ⟨rfl, rfl⟩ ⟨Nat.le_of_ble_eq_true rfl, Nat.le_of_ble_eq_true rfl⟩ dX5_house_109 rfl [none, none, some 0, some 1, some 2, some 3, some 4, some 5, none, none, none, none, none, none, none, none, none, none, none, none, none, none, none, none, none, none, none, none, none, none, none, none, none, none, none, none, none, none, none] rfl (ws' := cEW G q w) rfl (fun H locs hW => ?_)
      obtain ⟨ht_112, hf_112⟩ := of_ite h
      refine lv_if_eq (tgt := 119) hx hb dX5_house_112 (by decide) (fun c_112 => ?_) (fun c_112 => ?_)
      · have h := ht_112 c_112
        refine lv_iconst (v := (0 : Int32)) hx hb dX5_house_119 (by decide) ?_
        obtain rfl := Option.some.inj h
        exact x_reti F hr hW rfl dX5_house_120
      · have h := hf_112 c_112
        refine lv_iconst (v := (1 : Int32)) hx hb dX5_house_115 (by decide) ?_
        refine lv_goto (tgt := 120) hx hb dX5_house_116 (by decide) ?_
        obtain rfl := Option.some.inj h
        exact x_reti F hr hW rfl dX5_house_120
    have h := h c_18_4
    obtain ⟨ht_18_5, h⟩ := of_ite h
    by_cases c_18_5 : x2 = (5 : Int32)
    · have h := ht_18_5 c_18_5
      refine x_tableIn c_18_5 hx hb dX5_house_18 (by decide) (by decide) (off := (103)) rfl (tgt := 121) (by decide) ?_
      refine lv_aload_n hx hb dX5_house_121 rfl (lv_at hl 0 rfl) ?_
      refine x_get F hW 0 rfl fa_X5_20 rfl dX5_house_122 ?_
      refine lv_iload_n hx hb dX5_house_125 rfl (lv_at hl 1 rfl) ?_
      obtain ⟨p_126, hc_126, h⟩ := of_bind h
      refine x_Vi (av := [.ref (q 2), .int x1]) (As := [.int x1]) F hW (c_X1_isLit l G (fun i => q (i + 2)) w.1.1 x1 _ hc_126) [2, 3, 4, 5, 6, 7] rfl rfl (by intro q; cases q) cv_X5_93 rfl ⟨_, rfl, rfl⟩ rfl rfl rfl hl (Nat.le_of_ble_eq_true rfl) ⟨Nat.le_of_ble_eq_true rfl, Nat.le_of_ble_eq_true rfl⟩ ⟨rfl, rfl⟩ ⟨Nat.le_of_ble_eq_true rfl, Nat.le_of_ble_eq_true rfl⟩ dX5_house_126 rfl [none, none, some 0, some 1, some 2, some 3, some 4, some 5, none, none, none, none, none, none, none, none, none, none, none, none, none, none, none, none, none, none, none, none, none, none, none, none, none, none, none, none, none, none, none] rfl (ws' := cEW G q w) rfl (fun H locs hW => ?_)
      obtain ⟨ht_129, hf_129⟩ := of_ite h
      refine lv_if_eq (tgt := 136) hx hb dX5_house_129 (by decide) (fun c_129 => ?_) (fun c_129 => ?_)
      · have h := ht_129 c_129
        refine lv_iconst (v := (0 : Int32)) hx hb dX5_house_136 (by decide) ?_
        obtain rfl := Option.some.inj h
        exact x_reti F hr hW rfl dX5_house_137
      · have h := hf_129 c_129
        refine lv_iconst (v := (1 : Int32)) hx hb dX5_house_132 (by decide) ?_
        refine lv_goto (tgt := 137) hx hb dX5_house_133 (by decide) ?_
        obtain rfl := Option.some.inj h
        exact x_reti F hr hW rfl dX5_house_137
    have h := h c_18_5
    obtain ⟨ht_18_6, h⟩ := of_ite h
    by_cases c_18_6 : x2 = (6 : Int32)
    · have h := ht_18_6 c_18_6
      refine x_tableIn c_18_6 hx hb dX5_house_18 (by decide) (by decide) (off := (120)) rfl (tgt := 138) (by decide) ?_
      refine lv_aload_n hx hb dX5_house_138 rfl (lv_at hl 0 rfl) ?_
      refine x_get F hW 0 rfl fa_X5_20 rfl dX5_house_139 ?_
      refine lv_iload_n hx hb dX5_house_142 rfl (lv_at hl 1 rfl) ?_
      obtain ⟨p_143, hc_143, h⟩ := of_bind h
      refine x_Vi (av := [.ref (q 2), .int x1]) (As := [.int x1]) F hW (c_X1_eyeOf l G (fun i => q (i + 2)) w.1.1 x1 _ hc_143) [2, 3, 4, 5, 6, 7] rfl rfl (by intro q; cases q) cv_X5_96 rfl ⟨_, rfl, rfl⟩ rfl rfl rfl hl (Nat.le_of_ble_eq_true rfl) ⟨Nat.le_of_ble_eq_true rfl, Nat.le_of_ble_eq_true rfl⟩ ⟨rfl, rfl⟩ ⟨Nat.le_of_ble_eq_true rfl, Nat.le_of_ble_eq_true rfl⟩ dX5_house_143 rfl [none, none, some 0, some 1, some 2, some 3, some 4, some 5, none, none, none, none, none, none, none, none, none, none, none, none, none, none, none, none, none, none, none, none, none, none, none, none, none, none, none, none, none, none, none] rfl (ws' := cEW G q w) rfl (fun H locs hW => ?_)
      obtain rfl := Option.some.inj h
      exact x_reti F hr hW rfl dX5_house_146
    have h := h c_18_6
    obtain ⟨ht_18_7, h⟩ := of_ite h
    by_cases c_18_7 : x2 = (7 : Int32)
    · have h := ht_18_7 c_18_7
      refine x_tableIn c_18_7 hx hb dX5_house_18 (by decide) (by decide) (off := (129)) rfl (tgt := 147) (by decide) ?_
      refine lv_aload_n hx hb dX5_house_147 rfl (lv_at hl 0 rfl) ?_
      refine x_get F hW 0 rfl fa_X5_20 rfl dX5_house_148 ?_
      refine lv_iload_n hx hb dX5_house_151 rfl (lv_at hl 1 rfl) ?_
      obtain ⟨p_152, hc_152, h⟩ := of_bind h
      refine x_Vi (av := [.ref (q 2), .int x1]) (As := [.int x1]) F hW (c_X1_burnsOf l G (fun i => q (i + 2)) w.1.1 x1 _ hc_152) [2, 3, 4, 5, 6, 7] rfl rfl (by intro q; cases q) cv_X5_99 rfl ⟨_, rfl, rfl⟩ rfl rfl rfl hl (Nat.le_of_ble_eq_true rfl) ⟨Nat.le_of_ble_eq_true rfl, Nat.le_of_ble_eq_true rfl⟩ ⟨rfl, rfl⟩ ⟨Nat.le_of_ble_eq_true rfl, Nat.le_of_ble_eq_true rfl⟩ dX5_house_152 rfl [none, none, some 0, some 1, some 2, some 3, some 4, some 5, none, none, none, none, none, none, none, none, none, none, none, none, none, none, none, none, none, none, none, none, none, none, none, none, none, none, none, none, none, none, none] rfl (ws' := cEW G q w) rfl (fun H locs hW => ?_)
      obtain rfl := Option.some.inj h
      exact x_reti F hr hW rfl dX5_house_155
    have h := h c_18_7
    refine lv_tableOut hx hb dX5_house_18 (by have z0 := x_ne c_18_0 (z := 0) (by decide); have z1 := x_ne c_18_1 (z := 1) (by decide); have z2 := x_ne c_18_2 (z := 2) (by decide); have z3 := x_ne c_18_3 (z := 3) (by decide); have z4 := x_ne c_18_4 (z := 4) (by decide); have z5 := x_ne c_18_5 (z := 5) (by decide); have z6 := x_ne c_18_6 (z := 6) (by decide); have z7 := x_ne c_18_7 (z := 7) (by decide); omega) (tgt := 156) (by decide) ?_
    refine lv_aload_n hx hb dX5_house_156 rfl (lv_at hl 0 rfl) ?_
    refine lv_bipush (v := (-2 : Int32)) hx hb dX5_house_157 (by decide) ?_
    obtain ⟨p_159, hc_159, h⟩ := of_bind h
    refine x_Vi (av := [.ref (q 0), .int (-2 : Int32)]) (As := [.int (-2 : Int32)]) F hW (c_X5_refuse l G q w (-2 : Int32) _ hc_159) [0, 1, 2, 3, 4, 5, 6, 7, 8, 9, 10, 11, 12, 13, 14, 15, 16, 17, 18, 19, 20, 21, 22, 23, 24, 25, 26, 27, 28, 29, 30, 31, 32, 33, 34, 35, 36, 37, 38] rfl rfl (by intro q; cases q) cv_X5_44 rfl ⟨_, rfl, rfl⟩ rfl rfl rfl hl (Nat.le_of_ble_eq_true rfl) ⟨Nat.le_of_ble_eq_true rfl, Nat.le_of_ble_eq_true rfl⟩ ⟨rfl, rfl⟩ ⟨Nat.le_of_ble_eq_true rfl, Nat.le_of_ble_eq_true rfl⟩ dX5_house_159 rfl [some 0, some 1, some 2, some 3, some 4, some 5, some 6, some 7, some 8, some 9, some 10, some 11, some 12, some 13, some 14, some 15, some 16, some 17, some 18, some 19, some 20, some 21, some 22, some 23, some 24, some 25, some 26, some 27, some 28, some 29, some 30, some 31, some 32, some 33, some 34, some 35, some 36, some 37, some 38] rfl (ws' := cEW G q p_159.2) rfl (fun H locs hW => ?_)
    obtain rfl := Option.some.inj h
    exact x_reti F hr hW rfl dX5_house_162
  · have h := ht_8 c_8
    refine lv_aload_n hx hb dX5_house_11 rfl (lv_at hl 0 rfl) ?_
    refine lv_iconst (v := (-1 : Int32)) hx hb dX5_house_12 (by decide) ?_
    obtain ⟨p_13, hc_13, h⟩ := of_bind h
    refine x_Vi (av := [.ref (q 0), .int (-1 : Int32)]) (As := [.int (-1 : Int32)]) F hW (c_X5_refuse l G q w (-1 : Int32) _ hc_13) [0, 1, 2, 3, 4, 5, 6, 7, 8, 9, 10, 11, 12, 13, 14, 15, 16, 17, 18, 19, 20, 21, 22, 23, 24, 25, 26, 27, 28, 29, 30, 31, 32, 33, 34, 35, 36, 37, 38] rfl rfl (by intro q; cases q) cv_X5_44 rfl ⟨_, rfl, rfl⟩ rfl rfl rfl hl (Nat.le_of_ble_eq_true rfl) ⟨Nat.le_of_ble_eq_true rfl, Nat.le_of_ble_eq_true rfl⟩ ⟨rfl, rfl⟩ ⟨Nat.le_of_ble_eq_true rfl, Nat.le_of_ble_eq_true rfl⟩ dX5_house_13 rfl [some 0, some 1, some 2, some 3, some 4, some 5, some 6, some 7, some 8, some 9, some 10, some 11, some 12, some 13, some 14, some 15, some 16, some 17, some 18, some 19, some 20, some 21, some 22, some 23, some 24, some 25, some 26, some 27, some 28, some 29, some 30, some 31, some 32, some 33, some 34, some 35, some 36, some 37, some 38] rfl (ws' := cEW G q p_13.2) rfl (fun H locs hW => ?_)
    obtain rfl := Option.some.inj h
    exact x_reti F hr hW rfl dX5_house_16
def f_X5_height (w : EW) (x1 : Int32) : Option (Int32 × EW) :=
  Option.bind (f_X1_isCell x1) fun p_1 =>
    if p_1 = 0 then
    Option.bind (f_X5_refuse w (-1 : Int32)) fun p_21 =>
    some (p_21.1, p_21.2)
    else
    if inR x1 20 then
    some ((w.1.1.1 x1.toNatClampNeg), w)
    else none
abbrev rmX5_height : Room := { frames := 1, cells := 0, slots := 0, locals := 21 }
set_option maxRecDepth 100000 in
set_option maxHeartbeats 4000000 in
theorem c_X5_height (l : Launch) (G : EnT) (q : Nat → Nat) (w : EW) (x1 : Int32) (o : Int32 × EW) (h : f_X5_height w x1 = some o) : Mi l yX5_height rmX5_height cX5_height 2 (some .int) G false [.ref (q 0), .int x1] (cEW G q w) o.1 (cEW G q o.2) := by
  refine Mi_of (by decide) (Nat.le_of_ble_eq_true rfl) ?_
  intro p e s m below meth c A0 F hr hW ls hl
  obtain ⟨hx, hb, hml, hown, hts, hK, hNW, hlocks, hA, hSX⟩ := id F
  have hl : lv_has ls 2 [(0, .ref (q 0)), (1, .int x1)] := hl
  have hW : Wd G A0 s (cEW G q w) s.heap [] := hW
  show W p l e rmX5_height s m ([.ref (q 0), .int x1] : List Value).toArray below meth c s.heap [] 0 0 (Qi below G (cEW G q o.2) o.1 A0 ([.ref (q 0), .int x1] : List Value).toArray s) (F0 m 0 ls [])
  refine lv_iload_n hx hb dX5_height_0 rfl (lv_at hl 1 rfl) ?_
  obtain ⟨p_1, hc_1, h⟩ := of_bind h
  refine x_Si (av := [.int x1]) F hW (c_X1_isCell l G x1 _ hc_1) [] rfl rfl (by intro q; cases q) cs_X5_102 rfl rfl hl (Nat.le_of_ble_eq_true rfl) ⟨Nat.le_of_ble_eq_true rfl, Nat.le_of_ble_eq_true rfl⟩ ⟨rfl, rfl⟩ ⟨Nat.le_of_ble_eq_true rfl, Nat.le_of_ble_eq_true rfl⟩ dX5_height_1 rfl [none, none, none, none, none, none, none, none, none, none, none, none, none, none, none, none, none, none, none, none, none, none, none, none, none, none, none, none, none, none, none, none, none, none, none, none, none, none, none] rfl (ws' := cEW G q w) rfl (fun H locs hW => ?_)
  obtain ⟨ht_4, hf_4⟩ := of_ite h
  refine lv_if_eq (tgt := 19) hx hb dX5_height_4 (by decide) (fun c_4 => ?_) (fun c_4 => ?_)
  · have h := ht_4 c_4
    refine lv_aload_n hx hb dX5_height_19 rfl (lv_at hl 0 rfl) ?_
    refine lv_iconst (v := (-1 : Int32)) hx hb dX5_height_20 (by decide) ?_
    obtain ⟨p_21, hc_21, h⟩ := of_bind h
    refine x_Vi (av := [.ref (q 0), .int (-1 : Int32)]) (As := [.int (-1 : Int32)]) F hW (c_X5_refuse l G q w (-1 : Int32) _ hc_21) [0, 1, 2, 3, 4, 5, 6, 7, 8, 9, 10, 11, 12, 13, 14, 15, 16, 17, 18, 19, 20, 21, 22, 23, 24, 25, 26, 27, 28, 29, 30, 31, 32, 33, 34, 35, 36, 37, 38] rfl rfl (by intro q; cases q) cv_X5_44 rfl ⟨_, rfl, rfl⟩ rfl rfl rfl hl (Nat.le_of_ble_eq_true rfl) ⟨Nat.le_of_ble_eq_true rfl, Nat.le_of_ble_eq_true rfl⟩ ⟨rfl, rfl⟩ ⟨Nat.le_of_ble_eq_true rfl, Nat.le_of_ble_eq_true rfl⟩ dX5_height_21 rfl [some 0, some 1, some 2, some 3, some 4, some 5, some 6, some 7, some 8, some 9, some 10, some 11, some 12, some 13, some 14, some 15, some 16, some 17, some 18, some 19, some 20, some 21, some 22, some 23, some 24, some 25, some 26, some 27, some 28, some 29, some 30, some 31, some 32, some 33, some 34, some 35, some 36, some 37, some 38] rfl (ws' := cEW G q p_21.2) rfl (fun H locs hW => ?_)
    obtain rfl := Option.some.inj h
    exact x_reti F hr hW rfl dX5_height_24
  · have h := hf_4 c_4
    refine lv_aload_n hx hb dX5_height_7 rfl (lv_at hl 0 rfl) ?_
    refine x_get F hW 0 rfl fa_X5_20 rfl dX5_height_8 ?_
    refine x_get F hW 2 rfl fa_X5_105 rfl dX5_height_11 ?_
    refine lv_iload_n hx hb dX5_height_14 rfl (lv_at hl 1 rfl) ?_
    obtain ⟨g_15, h⟩ := of_guard h
    refine x_iald F hW 3 rfl g_15 dX5_height_15 ?_
    refine lv_goto (tgt := 24) hx hb dX5_height_16 (by decide) ?_
    obtain rfl := Option.some.inj h
    exact x_reti F hr hW rfl dX5_height_24
def f_X5_outside (x1 : Int32) (x2 : Int32) (x3 : Int32) : Option (Int32) :=
  if x2 ≤ x1 then
    if x1 ≤ x3 then
    some (0 : Int32)
    else
    some (-6 : Int32)
    else
    some (-4 : Int32)
abbrev rmX5_outside : Room := { frames := 0, cells := 0, slots := 0, locals := 0 }
set_option maxRecDepth 100000 in
set_option maxHeartbeats 4000000 in
theorem c_X5_outside (l : Launch) (G : EnT) (x1 : Int32) (x2 : Int32) (x3 : Int32) (o : Int32) (h : f_X5_outside x1 x2 x3 = some o) : Mi l yX5_outside rmX5_outside cX5_outside 3 (some .int) G false [.int x1, .int x2, .int x3] ([]) o ([]) := by
  refine Mi_of (by decide) (Nat.le_of_ble_eq_true rfl) ?_
  intro p e s m below meth c A0 F hr hW ls hl
  obtain ⟨hx, hb, hml, hown, hts, hK, hNW, hlocks, hA, hSX⟩ := id F
  have hl : lv_has ls 3 [(0, .int x1), (1, .int x2), (2, .int x3)] := hl
  have hW : Wd G A0 s ([]) s.heap [] := hW
  show W p l e rmX5_outside s m ([.int x1, .int x2, .int x3] : List Value).toArray below meth c s.heap [] 0 0 (Qi below G ([]) o A0 ([.int x1, .int x2, .int x3] : List Value).toArray s) (F0 m 0 ls [])
  refine lv_iload_n hx hb dX5_outside_0 rfl (lv_at hl 0 rfl) ?_
  refine lv_iload_n hx hb dX5_outside_1 rfl (lv_at hl 1 rfl) ?_
  obtain ⟨ht_2, hf_2⟩ := of_ite h
  refine lv_icmp_ge (tgt := 8) hx hb dX5_outside_2 (by decide) (fun c_2 => ?_) (fun c_2 => ?_)
  · have h := ht_2 c_2
    refine lv_iload_n hx hb dX5_outside_8 rfl (lv_at hl 0 rfl) ?_
    refine lv_iload_n hx hb dX5_outside_9 rfl (lv_at hl 2 rfl) ?_
    obtain ⟨ht_10, hf_10⟩ := of_ite h
    refine lv_icmp_le (tgt := 18) hx hb dX5_outside_10 (by decide) (fun c_10 => ?_) (fun c_10 => ?_)
    · have h := ht_10 c_10
      refine lv_iconst (v := (0 : Int32)) hx hb dX5_outside_18 (by decide) ?_
      obtain rfl := Option.some.inj h
      exact x_reti F hr hW rfl dX5_outside_19
    · have h := hf_10 c_10
      refine lv_bipush (v := (-6 : Int32)) hx hb dX5_outside_13 (by decide) ?_
      refine lv_goto (tgt := 19) hx hb dX5_outside_15 (by decide) ?_
      obtain rfl := Option.some.inj h
      exact x_reti F hr hW rfl dX5_outside_19
  · have h := hf_2 c_2
    refine lv_bipush (v := (-4 : Int32)) hx hb dX5_outside_5 (by decide) ?_
    obtain rfl := Option.some.inj h
    exact x_reti F hr hW rfl dX5_outside_7
def f_X5_heaps (w : EW) (x1 : Int32) (x2 : Int32) : Option (Int32 × EW) :=
  Option.bind (f_X1_isCell x1) fun p_1 =>
    if p_1 = 0 then
    Option.bind (f_X5_refuse w (-1 : Int32)) fun p_9 =>
    some (p_9.1, p_9.2)
    else
    Option.bind (f_X5_outside x2 (0 : Int32) (9 : Int32)) fun p_17 =>
    if p_17 = 0 then
    if inR x1 20 then
    nm (w.1.1.1 x1.toNatClampNeg) fun x_40 =>
    Option.bind (f_X1_putHeight w.1.1 x1 x2) fun p_48 =>
    some (x_40, ((p_48.2, w.1.2.1, w.1.2.2.1, w.1.2.2.2.1, w.1.2.2.2.2.1, w.1.2.2.2.2.2.1, w.1.2.2.2.2.2.2), w.2.1, w.2.2.1, w.2.2.2.1, w.2.2.2.2.1, w.2.2.2.2.2.1, w.2.2.2.2.2.2.1, w.2.2.2.2.2.2.2))
    else none
    else
    Option.bind (f_X5_refuse w p_17) fun p_27 =>
    some (p_27.1, p_27.2)
abbrev rmX5_heaps : Room := { frames := 2, cells := 0, slots := 0, locals := 42 }
set_option maxRecDepth 100000 in
set_option maxHeartbeats 4000000 in
theorem c_X5_heaps (l : Launch) (G : EnT) (q : Nat → Nat) (w : EW) (x1 : Int32) (x2 : Int32) (o : Int32 × EW) (h : f_X5_heaps w x1 x2 = some o) : Mi l yX5_heaps rmX5_heaps cX5_heaps 5 (some .int) G false [.ref (q 0), .int x1, .int x2] (cEW G q w) o.1 (cEW G q o.2) := by
  refine Mi_of (by decide) (Nat.le_of_ble_eq_true rfl) ?_
  intro p e s m below meth c A0 F hr hW ls hl
  obtain ⟨hx, hb, hml, hown, hts, hK, hNW, hlocks, hA, hSX⟩ := id F
  have hl : lv_has ls 5 [(0, .ref (q 0)), (1, .int x1), (2, .int x2)] := hl
  have hW : Wd G A0 s (cEW G q w) s.heap [] := hW
  show W p l e rmX5_heaps s m ([.ref (q 0), .int x1, .int x2] : List Value).toArray below meth c s.heap [] 0 0 (Qi below G (cEW G q o.2) o.1 A0 ([.ref (q 0), .int x1, .int x2] : List Value).toArray s) (F0 m 0 ls [])
  refine lv_iload_n hx hb dX5_heaps_0 rfl (lv_at hl 1 rfl) ?_
  obtain ⟨p_1, hc_1, h⟩ := of_bind h
  refine x_Si (av := [.int x1]) F hW (c_X1_isCell l G x1 _ hc_1) [] rfl rfl (by intro q; cases q) cs_X5_102 rfl rfl hl (Nat.le_of_ble_eq_true rfl) ⟨Nat.le_of_ble_eq_true rfl, Nat.le_of_ble_eq_true rfl⟩ ⟨rfl, rfl⟩ ⟨Nat.le_of_ble_eq_true rfl, Nat.le_of_ble_eq_true rfl⟩ dX5_heaps_1 rfl [none, none, none, none, none, none, none, none, none, none, none, none, none, none, none, none, none, none, none, none, none, none, none, none, none, none, none, none, none, none, none, none, none, none, none, none, none, none, none] rfl (ws' := cEW G q w) rfl (fun H locs hW => ?_)
  obtain ⟨ht_4, hf_4⟩ := of_ite h
  refine lv_if_ne (tgt := 13) hx hb dX5_heaps_4 (by decide) (fun c_4 => ?_) (fun c_4 => ?_)
  · have h := hf_4 c_4
    refine lv_iload_n hx hb dX5_heaps_13 rfl (lv_at hl 2 rfl) ?_
    refine lv_iconst (v := (0 : Int32)) hx hb dX5_heaps_14 (by decide) ?_
    refine lv_bipush (v := (9 : Int32)) hx hb dX5_heaps_15 (by decide) ?_
    obtain ⟨p_17, hc_17, h⟩ := of_bind h
    refine x_Si (av := [.int x2, .int (0 : Int32), .int (9 : Int32)]) F hW (c_X5_outside l G x2 (0 : Int32) (9 : Int32) _ hc_17) [] rfl rfl (by intro q; cases q) cs_X5_108 rfl rfl hl (Nat.le_of_ble_eq_true rfl) ⟨Nat.le_of_ble_eq_true rfl, Nat.le_of_ble_eq_true rfl⟩ ⟨rfl, rfl⟩ ⟨Nat.le_of_ble_eq_true rfl, Nat.le_of_ble_eq_true rfl⟩ dX5_heaps_17 rfl [none, none, none, none, none, none, none, none, none, none, none, none, none, none, none, none, none, none, none, none, none, none, none, none, none, none, none, none, none, none, none, none, none, none, none, none, none, none, none] rfl (ws' := cEW G q w) rfl (fun H locs hW => ?_)
    refine lv_istore_n (lv' := [(3, .int p_17), (0, .ref (q 0)), (1, .int x1), (2, .int x2)]) hx hb dX5_heaps_20 rfl hl (by decide) rfl (fun ls hl => ?_)
    refine lv_iload_n hx hb dX5_heaps_21 rfl (lv_at hl 0 rfl) ?_
    obtain ⟨ht_22, hf_22⟩ := of_ite h
    refine lv_if_eq (tgt := 31) hx hb dX5_heaps_22 (by decide) (fun c_22 => ?_) (fun c_22 => ?_)
    · have h := ht_22 c_22
      refine lv_aload_n hx hb dX5_heaps_31 rfl (lv_at hl 1 rfl) ?_
      refine x_get F hW 0 rfl fa_X5_20 rfl dX5_heaps_32 ?_
      refine x_get F hW 2 rfl fa_X5_105 rfl dX5_heaps_35 ?_
      refine lv_iload_n hx hb dX5_heaps_38 rfl (lv_at hl 2 rfl) ?_
      obtain ⟨g_39, h⟩ := of_guard h
      refine x_iald F hW 3 rfl g_39 dX5_heaps_39 ?_
      obtain ⟨x_40, e_x_40, h⟩ := of_nm h
      refine x_topi e_x_40 ?_
      refine lv_istore (lv' := [(4, .int x_40), (3, .int p_17), (0, .ref (q 0)), (1, .int x1), (2, .int x2)]) hx hb dX5_heaps_40 hl (by decide) rfl (fun ls hl => ?_)
      refine lv_aload_n hx hb dX5_heaps_42 rfl (lv_at hl 2 rfl) ?_
      refine x_get F hW 0 rfl fa_X5_20 rfl dX5_heaps_43 ?_
      refine lv_iload_n hx hb dX5_heaps_46 rfl (lv_at hl 3 rfl) ?_
      refine lv_iload_n hx hb dX5_heaps_47 rfl (lv_at hl 4 rfl) ?_
      obtain ⟨p_48, hc_48, h⟩ := of_bind h
      refine x_Vi (av := [.ref (q 2), .int x1, .int x2]) (As := [.int x1, .int x2]) F hW (c_X1_putHeight l G (fun i => q (i + 2)) w.1.1 x1 x2 _ hc_48) [2, 3, 4, 5, 6, 7] rfl rfl (by intro q; cases q) cv_X5_112 rfl ⟨_, rfl, rfl⟩ rfl rfl rfl hl (Nat.le_of_ble_eq_true rfl) ⟨Nat.le_of_ble_eq_true rfl, Nat.le_of_ble_eq_true rfl⟩ ⟨rfl, rfl⟩ ⟨Nat.le_of_ble_eq_true rfl, Nat.le_of_ble_eq_true rfl⟩ dX5_heaps_48 rfl [none, none, some 0, some 1, some 2, some 3, some 4, some 5, none, none, none, none, none, none, none, none, none, none, none, none, none, none, none, none, none, none, none, none, none, none, none, none, none, none, none, none, none, none, none] rfl (ws' := cEW G q ((p_48.2, w.1.2.1, w.1.2.2.1, w.1.2.2.2.1, w.1.2.2.2.2.1, w.1.2.2.2.2.2.1, w.1.2.2.2.2.2.2), w.2.1, w.2.2.1, w.2.2.2.1, w.2.2.2.2.1, w.2.2.2.2.2.1, w.2.2.2.2.2.2.1, w.2.2.2.2.2.2.2)) rfl (fun H locs hW => ?_)
      refine lv_pop hx hb dX5_heaps_51 rfl ?_
      refine lv_iload hx hb dX5_heaps_52 (lv_at hl 0 rfl) ?_
      obtain rfl := Option.some.inj h
      exact x_reti F hr hW rfl dX5_heaps_54
    · have h := hf_22 c_22
      refine lv_aload_n hx hb dX5_heaps_25 rfl (lv_at hl 1 rfl) ?_
      refine lv_iload_n hx hb dX5_heaps_26 rfl (lv_at hl 0 rfl) ?_
      obtain ⟨p_27, hc_27, h⟩ := of_bind h
      refine x_Vi (av := [.ref (q 0), .int p_17]) (As := [.int p_17]) F hW (c_X5_refuse l G q w p_17 _ hc_27) [0, 1, 2, 3, 4, 5, 6, 7, 8, 9, 10, 11, 12, 13, 14, 15, 16, 17, 18, 19, 20, 21, 22, 23, 24, 25, 26, 27, 28, 29, 30, 31, 32, 33, 34, 35, 36, 37, 38] rfl rfl (by intro q; cases q) cv_X5_44 rfl ⟨_, rfl, rfl⟩ rfl rfl rfl hl (Nat.le_of_ble_eq_true rfl) ⟨Nat.le_of_ble_eq_true rfl, Nat.le_of_ble_eq_true rfl⟩ ⟨rfl, rfl⟩ ⟨Nat.le_of_ble_eq_true rfl, Nat.le_of_ble_eq_true rfl⟩ dX5_heaps_27 rfl [some 0, some 1, some 2, some 3, some 4, some 5, some 6, some 7, some 8, some 9, some 10, some 11, some 12, some 13, some 14, some 15, some 16, some 17, some 18, some 19, some 20, some 21, some 22, some 23, some 24, some 25, some 26, some 27, some 28, some 29, some 30, some 31, some 32, some 33, some 34, some 35, some 36, some 37, some 38] rfl (ws' := cEW G q p_27.2) rfl (fun H locs hW => ?_)
      obtain rfl := Option.some.inj h
      exact x_reti F hr hW rfl dX5_heaps_30
  · have h := ht_4 c_4
    refine lv_aload_n hx hb dX5_heaps_7 rfl (lv_at hl 0 rfl) ?_
    refine lv_iconst (v := (-1 : Int32)) hx hb dX5_heaps_8 (by decide) ?_
    obtain ⟨p_9, hc_9, h⟩ := of_bind h
    refine x_Vi (av := [.ref (q 0), .int (-1 : Int32)]) (As := [.int (-1 : Int32)]) F hW (c_X5_refuse l G q w (-1 : Int32) _ hc_9) [0, 1, 2, 3, 4, 5, 6, 7, 8, 9, 10, 11, 12, 13, 14, 15, 16, 17, 18, 19, 20, 21, 22, 23, 24, 25, 26, 27, 28, 29, 30, 31, 32, 33, 34, 35, 36, 37, 38] rfl rfl (by intro q; cases q) cv_X5_44 rfl ⟨_, rfl, rfl⟩ rfl rfl rfl hl (Nat.le_of_ble_eq_true rfl) ⟨Nat.le_of_ble_eq_true rfl, Nat.le_of_ble_eq_true rfl⟩ ⟨rfl, rfl⟩ ⟨Nat.le_of_ble_eq_true rfl, Nat.le_of_ble_eq_true rfl⟩ dX5_heaps_9 rfl [some 0, some 1, some 2, some 3, some 4, some 5, some 6, some 7, some 8, some 9, some 10, some 11, some 12, some 13, some 14, some 15, some 16, some 17, some 18, some 19, some 20, some 21, some 22, some 23, some 24, some 25, some 26, some 27, some 28, some 29, some 30, some 31, some 32, some 33, some 34, some 35, some 36, some 37, some 38] rfl (ws' := cEW G q p_9.2) rfl (fun H locs hW => ?_)
    obtain rfl := Option.some.inj h
    exact x_reti F hr hW rfl dX5_heaps_12
def f_X5_moves (w : EW) (x1 : Int32) (x2 : Int32) : Option (Int32 × EW) :=
  Option.bind (f_X1_isHouse w.1.1 x1) fun p_5 =>
    if p_5 = 0 then
    Option.bind (f_X5_refuse w (-1 : Int32)) fun p_20 =>
    some (p_20.1, p_20.2)
    else
    Option.bind (f_X1_isCell x2) fun p_12 =>
    if p_12 = 0 then
    Option.bind (f_X5_refuse w (-1 : Int32)) fun p_20_2 =>
    some (p_20_2.1, p_20_2.2)
    else
    if inR x1 8 then
    nm (w.1.1.2.2.2.1 x1.toNatClampNeg) fun x_33 =>
    Option.bind (f_X1_putHouse w.1.1 x1 x2) fun p_40 =>
    some (x_33, ((p_40.2, w.1.2.1, w.1.2.2.1, w.1.2.2.2.1, w.1.2.2.2.2.1, w.1.2.2.2.2.2.1, w.1.2.2.2.2.2.2), w.2.1, w.2.2.1, w.2.2.2.1, w.2.2.2.2.1, w.2.2.2.2.2.1, w.2.2.2.2.2.2.1, w.2.2.2.2.2.2.2))
    else none
abbrev rmX5_moves : Room := { frames := 2, cells := 0, slots := 0, locals := 43 }
set_option maxRecDepth 100000 in
set_option maxHeartbeats 4000000 in
theorem c_X5_moves (l : Launch) (G : EnT) (q : Nat → Nat) (w : EW) (x1 : Int32) (x2 : Int32) (o : Int32 × EW) (h : f_X5_moves w x1 x2 = some o) : Mi l yX5_moves rmX5_moves cX5_moves 4 (some .int) G false [.ref (q 0), .int x1, .int x2] (cEW G q w) o.1 (cEW G q o.2) := by
  refine Mi_of (by decide) (Nat.le_of_ble_eq_true rfl) ?_
  intro p e s m below meth c A0 F hr hW ls hl
  obtain ⟨hx, hb, hml, hown, hts, hK, hNW, hlocks, hA, hSX⟩ := id F
  have hl : lv_has ls 4 [(0, .ref (q 0)), (1, .int x1), (2, .int x2)] := hl
  have hW : Wd G A0 s (cEW G q w) s.heap [] := hW
  show W p l e rmX5_moves s m ([.ref (q 0), .int x1, .int x2] : List Value).toArray below meth c s.heap [] 0 0 (Qi below G (cEW G q o.2) o.1 A0 ([.ref (q 0), .int x1, .int x2] : List Value).toArray s) (F0 m 0 ls [])
  refine lv_aload_n hx hb dX5_moves_0 rfl (lv_at hl 0 rfl) ?_
  refine x_get F hW 0 rfl fa_X5_20 rfl dX5_moves_1 ?_
  refine lv_iload_n hx hb dX5_moves_4 rfl (lv_at hl 1 rfl) ?_
  obtain ⟨p_5, hc_5, h⟩ := of_bind h
  refine x_Vi (av := [.ref (q 2), .int x1]) (As := [.int x1]) F hW (c_X1_isHouse l G (fun i => q (i + 2)) w.1.1 x1 _ hc_5) [2, 3, 4, 5, 6, 7] rfl rfl (by intro q; cases q) cv_X5_74 rfl ⟨_, rfl, rfl⟩ rfl rfl rfl hl (Nat.le_of_ble_eq_true rfl) ⟨Nat.le_of_ble_eq_true rfl, Nat.le_of_ble_eq_true rfl⟩ ⟨rfl, rfl⟩ ⟨Nat.le_of_ble_eq_true rfl, Nat.le_of_ble_eq_true rfl⟩ dX5_moves_5 rfl [none, none, some 0, some 1, some 2, some 3, some 4, some 5, none, none, none, none, none, none, none, none, none, none, none, none, none, none, none, none, none, none, none, none, none, none, none, none, none, none, none, none, none, none, none] rfl (ws' := cEW G q w) rfl (fun H locs hW => ?_)
  obtain ⟨ht_8, hf_8⟩ := of_ite h
  refine lv_if_eq (tgt := 18) hx hb dX5_moves_8 (by decide) (fun c_8 => ?_) (fun c_8 => ?_)
  · have h := ht_8 c_8
    refine lv_aload_n hx hb dX5_moves_18 rfl (lv_at hl 0 rfl) ?_
    refine lv_iconst (v := (-1 : Int32)) hx hb dX5_moves_19 (by decide) ?_
    obtain ⟨p_20, hc_20, h⟩ := of_bind h
    refine x_Vi (av := [.ref (q 0), .int (-1 : Int32)]) (As := [.int (-1 : Int32)]) F hW (c_X5_refuse l G q w (-1 : Int32) _ hc_20) [0, 1, 2, 3, 4, 5, 6, 7, 8, 9, 10, 11, 12, 13, 14, 15, 16, 17, 18, 19, 20, 21, 22, 23, 24, 25, 26, 27, 28, 29, 30, 31, 32, 33, 34, 35, 36, 37, 38] rfl rfl (by intro q; cases q) cv_X5_44 rfl ⟨_, rfl, rfl⟩ rfl rfl rfl hl (Nat.le_of_ble_eq_true rfl) ⟨Nat.le_of_ble_eq_true rfl, Nat.le_of_ble_eq_true rfl⟩ ⟨rfl, rfl⟩ ⟨Nat.le_of_ble_eq_true rfl, Nat.le_of_ble_eq_true rfl⟩ dX5_moves_20 rfl [some 0, some 1, some 2, some 3, some 4, some 5, some 6, some 7, some 8, some 9, some 10, some 11, some 12, some 13, some 14, some 15, some 16, some 17, some 18, some 19, some 20, some 21, some 22, some 23, some 24, some 25, some 26, some 27, some 28, some 29, some 30, some 31, some 32, some 33, some 34, some 35, some 36, some 37, some 38] rfl (ws' := cEW G q p_20.2) rfl (fun H locs hW => ?_)
    obtain rfl := Option.some.inj h
    exact x_reti F hr hW rfl dX5_moves_23
  · have h := hf_8 c_8
    refine lv_iload_n hx hb dX5_moves_11 rfl (lv_at hl 2 rfl) ?_
    obtain ⟨p_12, hc_12, h⟩ := of_bind h
    refine x_Si (av := [.int x2]) F hW (c_X1_isCell l G x2 _ hc_12) [] rfl rfl (by intro q; cases q) cs_X5_102 rfl rfl hl (Nat.le_of_ble_eq_true rfl) ⟨Nat.le_of_ble_eq_true rfl, Nat.le_of_ble_eq_true rfl⟩ ⟨rfl, rfl⟩ ⟨Nat.le_of_ble_eq_true rfl, Nat.le_of_ble_eq_true rfl⟩ dX5_moves_12 rfl [none, none, none, none, none, none, none, none, none, none, none, none, none, none, none, none, none, none, none, none, none, none, none, none, none, none, none, none, none, none, none, none, none, none, none, none, none, none, none] rfl (ws' := cEW G q w) rfl (fun H locs hW => ?_)
    obtain ⟨ht_15, hf_15⟩ := of_ite h
    refine lv_if_ne (tgt := 24) hx hb dX5_moves_15 (by decide) (fun c_15 => ?_) (fun c_15 => ?_)
    · have h := hf_15 c_15
      refine lv_aload_n hx hb dX5_moves_24 rfl (lv_at hl 0 rfl) ?_
      refine x_get F hW 0 rfl fa_X5_20 rfl dX5_moves_25 ?_
      refine x_get F hW 2 rfl fa_X5_84 rfl dX5_moves_28 ?_
      refine lv_iload_n hx hb dX5_moves_31 rfl (lv_at hl 1 rfl) ?_
      obtain ⟨g_32, h⟩ := of_guard h
      refine x_iald F hW 6 rfl g_32 dX5_moves_32 ?_
      obtain ⟨x_33, e_x_33, h⟩ := of_nm h
      refine x_topi e_x_33 ?_
      refine lv_istore_n (lv' := [(3, .int x_33), (0, .ref (q 0)), (1, .int x1), (2, .int x2)]) hx hb dX5_moves_33 rfl hl (by decide) rfl (fun ls hl => ?_)
      refine lv_aload_n hx hb dX5_moves_34 rfl (lv_at hl 1 rfl) ?_
      refine x_get F hW 0 rfl fa_X5_20 rfl dX5_moves_35 ?_
      refine lv_iload_n hx hb dX5_moves_38 rfl (lv_at hl 2 rfl) ?_
      refine lv_iload_n hx hb dX5_moves_39 rfl (lv_at hl 3 rfl) ?_
      obtain ⟨p_40, hc_40, h⟩ := of_bind h
      refine x_Vi (av := [.ref (q 2), .int x1, .int x2]) (As := [.int x1, .int x2]) F hW (c_X1_putHouse l G (fun i => q (i + 2)) w.1.1 x1 x2 _ hc_40) [2, 3, 4, 5, 6, 7] rfl rfl (by intro q; cases q) cv_X5_116 rfl ⟨_, rfl, rfl⟩ rfl rfl rfl hl (Nat.le_of_ble_eq_true rfl) ⟨Nat.le_of_ble_eq_true rfl, Nat.le_of_ble_eq_true rfl⟩ ⟨rfl, rfl⟩ ⟨Nat.le_of_ble_eq_true rfl, Nat.le_of_ble_eq_true rfl⟩ dX5_moves_40 rfl [none, none, some 0, some 1, some 2, some 3, some 4, some 5, none, none, none, none, none, none, none, none, none, none, none, none, none, none, none, none, none, none, none, none, none, none, none, none, none, none, none, none, none, none, none] rfl (ws' := cEW G q ((p_40.2, w.1.2.1, w.1.2.2.1, w.1.2.2.2.1, w.1.2.2.2.2.1, w.1.2.2.2.2.2.1, w.1.2.2.2.2.2.2), w.2.1, w.2.2.1, w.2.2.2.1, w.2.2.2.2.1, w.2.2.2.2.2.1, w.2.2.2.2.2.2.1, w.2.2.2.2.2.2.2)) rfl (fun H locs hW => ?_)
      refine lv_pop hx hb dX5_moves_43 rfl ?_
      refine lv_iload_n hx hb dX5_moves_44 rfl (lv_at hl 0 rfl) ?_
      obtain rfl := Option.some.inj h
      exact x_reti F hr hW rfl dX5_moves_45
    · have h := ht_15 c_15
      refine lv_aload_n hx hb dX5_moves_18 rfl (lv_at hl 0 rfl) ?_
      refine lv_iconst (v := (-1 : Int32)) hx hb dX5_moves_19 (by decide) ?_
      obtain ⟨p_20_2, hc_20, h⟩ := of_bind h
      refine x_Vi (av := [.ref (q 0), .int (-1 : Int32)]) (As := [.int (-1 : Int32)]) F hW (c_X5_refuse l G q w (-1 : Int32) _ hc_20) [0, 1, 2, 3, 4, 5, 6, 7, 8, 9, 10, 11, 12, 13, 14, 15, 16, 17, 18, 19, 20, 21, 22, 23, 24, 25, 26, 27, 28, 29, 30, 31, 32, 33, 34, 35, 36, 37, 38] rfl rfl (by intro q; cases q) cv_X5_44 rfl ⟨_, rfl, rfl⟩ rfl rfl rfl hl (Nat.le_of_ble_eq_true rfl) ⟨Nat.le_of_ble_eq_true rfl, Nat.le_of_ble_eq_true rfl⟩ ⟨rfl, rfl⟩ ⟨Nat.le_of_ble_eq_true rfl, Nat.le_of_ble_eq_true rfl⟩ dX5_moves_20 rfl [some 0, some 1, some 2, some 3, some 4, some 5, some 6, some 7, some 8, some 9, some 10, some 11, some 12, some 13, some 14, some 15, some 16, some 17, some 18, some 19, some 20, some 21, some 22, some 23, some 24, some 25, some 26, some 27, some 28, some 29, some 30, some 31, some 32, some 33, some 34, some 35, some 36, some 37, some 38] rfl (ws' := cEW G q p_20_2.2) rfl (fun H locs hW => ?_)
      obtain rfl := Option.some.inj h
      exact x_reti F hr hW rfl dX5_moves_23
def f_X5_gives (w : EW) (x1 : Int32) (x2 : Int32) : Option (Int32 × EW) :=
  Option.bind (f_X1_isHouse w.1.1 x1) fun p_5 =>
    if p_5 = 0 then
    Option.bind (f_X5_refuse w (-1 : Int32)) fun p_13 =>
    some (p_13.1, p_13.2)
    else
    Option.bind (f_X5_outside x2 (0 : Int32) (99 : Int32)) fun p_21 =>
    if p_21 = 0 then
    Option.bind (f_X1_addWicks w.1.1 x1 x2) fun p_41 =>
    if inR x1 8 then
    some ((p_41.2.2.2.2.2.1 x1.toNatClampNeg), ((p_41.2, w.1.2.1, w.1.2.2.1, w.1.2.2.2.1, w.1.2.2.2.2.1, w.1.2.2.2.2.2.1, w.1.2.2.2.2.2.2), w.2.1, w.2.2.1, w.2.2.2.1, w.2.2.2.2.1, w.2.2.2.2.2.1, w.2.2.2.2.2.2.1, w.2.2.2.2.2.2.2))
    else none
    else
    Option.bind (f_X5_refuse w p_21) fun p_31 =>
    some (p_31.1, p_31.2)
abbrev rmX5_gives : Room := { frames := 2, cells := 0, slots := 0, locals := 43 }
set_option maxRecDepth 100000 in
set_option maxHeartbeats 4000000 in
theorem c_X5_gives (l : Launch) (G : EnT) (q : Nat → Nat) (w : EW) (x1 : Int32) (x2 : Int32) (o : Int32 × EW) (h : f_X5_gives w x1 x2 = some o) : Mi l yX5_gives rmX5_gives cX5_gives 4 (some .int) G false [.ref (q 0), .int x1, .int x2] (cEW G q w) o.1 (cEW G q o.2) := by
  refine Mi_of (by decide) (Nat.le_of_ble_eq_true rfl) ?_
  intro p e s m below meth c A0 F hr hW ls hl
  obtain ⟨hx, hb, hml, hown, hts, hK, hNW, hlocks, hA, hSX⟩ := id F
  have hl : lv_has ls 4 [(0, .ref (q 0)), (1, .int x1), (2, .int x2)] := hl
  have hW : Wd G A0 s (cEW G q w) s.heap [] := hW
  show W p l e rmX5_gives s m ([.ref (q 0), .int x1, .int x2] : List Value).toArray below meth c s.heap [] 0 0 (Qi below G (cEW G q o.2) o.1 A0 ([.ref (q 0), .int x1, .int x2] : List Value).toArray s) (F0 m 0 ls [])
  refine lv_aload_n hx hb dX5_gives_0 rfl (lv_at hl 0 rfl) ?_
  refine x_get F hW 0 rfl fa_X5_20 rfl dX5_gives_1 ?_
  refine lv_iload_n hx hb dX5_gives_4 rfl (lv_at hl 1 rfl) ?_
  obtain ⟨p_5, hc_5, h⟩ := of_bind h
  refine x_Vi (av := [.ref (q 2), .int x1]) (As := [.int x1]) F hW (c_X1_isHouse l G (fun i => q (i + 2)) w.1.1 x1 _ hc_5) [2, 3, 4, 5, 6, 7] rfl rfl (by intro q; cases q) cv_X5_74 rfl ⟨_, rfl, rfl⟩ rfl rfl rfl hl (Nat.le_of_ble_eq_true rfl) ⟨Nat.le_of_ble_eq_true rfl, Nat.le_of_ble_eq_true rfl⟩ ⟨rfl, rfl⟩ ⟨Nat.le_of_ble_eq_true rfl, Nat.le_of_ble_eq_true rfl⟩ dX5_gives_5 rfl [none, none, some 0, some 1, some 2, some 3, some 4, some 5, none, none, none, none, none, none, none, none, none, none, none, none, none, none, none, none, none, none, none, none, none, none, none, none, none, none, none, none, none, none, none] rfl (ws' := cEW G q w) rfl (fun H locs hW => ?_)
  obtain ⟨ht_8, hf_8⟩ := of_ite h
  refine lv_if_ne (tgt := 17) hx hb dX5_gives_8 (by decide) (fun c_8 => ?_) (fun c_8 => ?_)
  · have h := hf_8 c_8
    refine lv_iload_n hx hb dX5_gives_17 rfl (lv_at hl 2 rfl) ?_
    refine lv_iconst (v := (0 : Int32)) hx hb dX5_gives_18 (by decide) ?_
    refine lv_bipush (v := (99 : Int32)) hx hb dX5_gives_19 (by decide) ?_
    obtain ⟨p_21, hc_21, h⟩ := of_bind h
    refine x_Si (av := [.int x2, .int (0 : Int32), .int (99 : Int32)]) F hW (c_X5_outside l G x2 (0 : Int32) (99 : Int32) _ hc_21) [] rfl rfl (by intro q; cases q) cs_X5_108 rfl rfl hl (Nat.le_of_ble_eq_true rfl) ⟨Nat.le_of_ble_eq_true rfl, Nat.le_of_ble_eq_true rfl⟩ ⟨rfl, rfl⟩ ⟨Nat.le_of_ble_eq_true rfl, Nat.le_of_ble_eq_true rfl⟩ dX5_gives_21 rfl [none, none, none, none, none, none, none, none, none, none, none, none, none, none, none, none, none, none, none, none, none, none, none, none, none, none, none, none, none, none, none, none, none, none, none, none, none, none, none] rfl (ws' := cEW G q w) rfl (fun H locs hW => ?_)
    refine lv_istore_n (lv' := [(3, .int p_21), (0, .ref (q 0)), (1, .int x1), (2, .int x2)]) hx hb dX5_gives_24 rfl hl (by decide) rfl (fun ls hl => ?_)
    refine lv_iload_n hx hb dX5_gives_25 rfl (lv_at hl 0 rfl) ?_
    obtain ⟨ht_26, hf_26⟩ := of_ite h
    refine lv_if_eq (tgt := 35) hx hb dX5_gives_26 (by decide) (fun c_26 => ?_) (fun c_26 => ?_)
    · have h := ht_26 c_26
      refine lv_aload_n hx hb dX5_gives_35 rfl (lv_at hl 1 rfl) ?_
      refine x_get F hW 0 rfl fa_X5_20 rfl dX5_gives_36 ?_
      refine lv_iload_n hx hb dX5_gives_39 rfl (lv_at hl 2 rfl) ?_
      refine lv_iload_n hx hb dX5_gives_40 rfl (lv_at hl 3 rfl) ?_
      obtain ⟨p_41, hc_41, h⟩ := of_bind h
      refine x_Vi (av := [.ref (q 2), .int x1, .int x2]) (As := [.int x1, .int x2]) F hW (c_X1_addWicks l G (fun i => q (i + 2)) w.1.1 x1 x2 _ hc_41) [2, 3, 4, 5, 6, 7] rfl rfl (by intro q; cases q) cv_X5_119 rfl ⟨_, rfl, rfl⟩ rfl rfl rfl hl (Nat.le_of_ble_eq_true rfl) ⟨Nat.le_of_ble_eq_true rfl, Nat.le_of_ble_eq_true rfl⟩ ⟨rfl, rfl⟩ ⟨Nat.le_of_ble_eq_true rfl, Nat.le_of_ble_eq_true rfl⟩ dX5_gives_41 rfl [none, none, some 0, some 1, some 2, some 3, some 4, some 5, none, none, none, none, none, none, none, none, none, none, none, none, none, none, none, none, none, none, none, none, none, none, none, none, none, none, none, none, none, none, none] rfl (ws' := cEW G q ((p_41.2, w.1.2.1, w.1.2.2.1, w.1.2.2.2.1, w.1.2.2.2.2.1, w.1.2.2.2.2.2.1, w.1.2.2.2.2.2.2), w.2.1, w.2.2.1, w.2.2.2.1, w.2.2.2.2.1, w.2.2.2.2.2.1, w.2.2.2.2.2.2.1, w.2.2.2.2.2.2.2)) rfl (fun H locs hW => ?_)
      refine lv_pop hx hb dX5_gives_44 rfl ?_
      refine lv_aload_n hx hb dX5_gives_45 rfl (lv_at hl 1 rfl) ?_
      refine x_get F hW 0 rfl fa_X5_20 rfl dX5_gives_46 ?_
      refine x_get F hW 2 rfl fa_X5_87 rfl dX5_gives_49 ?_
      refine lv_iload_n hx hb dX5_gives_52 rfl (lv_at hl 2 rfl) ?_
      obtain ⟨g_53, h⟩ := of_guard h
      refine x_iald F hW 7 rfl g_53 dX5_gives_53 ?_
      obtain rfl := Option.some.inj h
      exact x_reti F hr hW rfl dX5_gives_54
    · have h := hf_26 c_26
      refine lv_aload_n hx hb dX5_gives_29 rfl (lv_at hl 1 rfl) ?_
      refine lv_iload_n hx hb dX5_gives_30 rfl (lv_at hl 0 rfl) ?_
      obtain ⟨p_31, hc_31, h⟩ := of_bind h
      refine x_Vi (av := [.ref (q 0), .int p_21]) (As := [.int p_21]) F hW (c_X5_refuse l G q w p_21 _ hc_31) [0, 1, 2, 3, 4, 5, 6, 7, 8, 9, 10, 11, 12, 13, 14, 15, 16, 17, 18, 19, 20, 21, 22, 23, 24, 25, 26, 27, 28, 29, 30, 31, 32, 33, 34, 35, 36, 37, 38] rfl rfl (by intro q; cases q) cv_X5_44 rfl ⟨_, rfl, rfl⟩ rfl rfl rfl hl (Nat.le_of_ble_eq_true rfl) ⟨Nat.le_of_ble_eq_true rfl, Nat.le_of_ble_eq_true rfl⟩ ⟨rfl, rfl⟩ ⟨Nat.le_of_ble_eq_true rfl, Nat.le_of_ble_eq_true rfl⟩ dX5_gives_31 rfl [some 0, some 1, some 2, some 3, some 4, some 5, some 6, some 7, some 8, some 9, some 10, some 11, some 12, some 13, some 14, some 15, some 16, some 17, some 18, some 19, some 20, some 21, some 22, some 23, some 24, some 25, some 26, some 27, some 28, some 29, some 30, some 31, some 32, some 33, some 34, some 35, some 36, some 37, some 38] rfl (ws' := cEW G q p_31.2) rfl (fun H locs hW => ?_)
      obtain rfl := Option.some.inj h
      exact x_reti F hr hW rfl dX5_gives_34
  · have h := ht_8 c_8
    refine lv_aload_n hx hb dX5_gives_11 rfl (lv_at hl 0 rfl) ?_
    refine lv_iconst (v := (-1 : Int32)) hx hb dX5_gives_12 (by decide) ?_
    obtain ⟨p_13, hc_13, h⟩ := of_bind h
    refine x_Vi (av := [.ref (q 0), .int (-1 : Int32)]) (As := [.int (-1 : Int32)]) F hW (c_X5_refuse l G q w (-1 : Int32) _ hc_13) [0, 1, 2, 3, 4, 5, 6, 7, 8, 9, 10, 11, 12, 13, 14, 15, 16, 17, 18, 19, 20, 21, 22, 23, 24, 25, 26, 27, 28, 29, 30, 31, 32, 33, 34, 35, 36, 37, 38] rfl rfl (by intro q; cases q) cv_X5_44 rfl ⟨_, rfl, rfl⟩ rfl rfl rfl hl (Nat.le_of_ble_eq_true rfl) ⟨Nat.le_of_ble_eq_true rfl, Nat.le_of_ble_eq_true rfl⟩ ⟨rfl, rfl⟩ ⟨Nat.le_of_ble_eq_true rfl, Nat.le_of_ble_eq_true rfl⟩ dX5_gives_13 rfl [some 0, some 1, some 2, some 3, some 4, some 5, some 6, some 7, some 8, some 9, some 10, some 11, some 12, some 13, some 14, some 15, some 16, some 17, some 18, some 19, some 20, some 21, some 22, some 23, some 24, some 25, some 26, some 27, some 28, some 29, some 30, some 31, some 32, some 33, some 34, some 35, some 36, some 37, some 38] rfl (ws' := cEW G q p_13.2) rfl (fun H locs hW => ?_)
    obtain rfl := Option.some.inj h
    exact x_reti F hr hW rfl dX5_gives_16
def f_X5_calls (w : EW) (x1 : Int32) : Option (Int32 × EW) :=
  Option.bind (f_X1_isHouse w.1.1 x1) fun p_5 =>
    if p_5 = 0 then
    Option.bind (f_X5_refuse w (-1 : Int32)) fun p_13 =>
    some (p_13.1, p_13.2)
    else
    Option.bind (f_X1_switchCall w.1.1 x1) fun p_22 =>
    Option.bind (f_X1_isCalled p_22.2 x1) fun p_31 =>
    if p_31 = 0 then
    some ((0 : Int32), ((p_22.2, w.1.2.1, w.1.2.2.1, w.1.2.2.2.1, w.1.2.2.2.2.1, w.1.2.2.2.2.2.1, w.1.2.2.2.2.2.2), w.2.1, w.2.2.1, w.2.2.2.1, w.2.2.2.2.1, w.2.2.2.2.2.1, w.2.2.2.2.2.2.1, w.2.2.2.2.2.2.2))
    else
    some ((1 : Int32), ((p_22.2, w.1.2.1, w.1.2.2.1, w.1.2.2.2.1, w.1.2.2.2.2.1, w.1.2.2.2.2.2.1, w.1.2.2.2.2.2.2), w.2.1, w.2.2.1, w.2.2.2.1, w.2.2.2.2.1, w.2.2.2.2.2.1, w.2.2.2.2.2.2.1, w.2.2.2.2.2.2.2))
abbrev rmX5_calls : Room := { frames := 2, cells := 0, slots := 0, locals := 42 }
set_option maxRecDepth 100000 in
set_option maxHeartbeats 4000000 in
theorem c_X5_calls (l : Launch) (G : EnT) (q : Nat → Nat) (w : EW) (x1 : Int32) (o : Int32 × EW) (h : f_X5_calls w x1 = some o) : Mi l yX5_calls rmX5_calls cX5_calls 2 (some .int) G false [.ref (q 0), .int x1] (cEW G q w) o.1 (cEW G q o.2) := by
  refine Mi_of (by decide) (Nat.le_of_ble_eq_true rfl) ?_
  intro p e s m below meth c A0 F hr hW ls hl
  obtain ⟨hx, hb, hml, hown, hts, hK, hNW, hlocks, hA, hSX⟩ := id F
  have hl : lv_has ls 2 [(0, .ref (q 0)), (1, .int x1)] := hl
  have hW : Wd G A0 s (cEW G q w) s.heap [] := hW
  show W p l e rmX5_calls s m ([.ref (q 0), .int x1] : List Value).toArray below meth c s.heap [] 0 0 (Qi below G (cEW G q o.2) o.1 A0 ([.ref (q 0), .int x1] : List Value).toArray s) (F0 m 0 ls [])
  refine lv_aload_n hx hb dX5_calls_0 rfl (lv_at hl 0 rfl) ?_
  refine x_get F hW 0 rfl fa_X5_20 rfl dX5_calls_1 ?_
  refine lv_iload_n hx hb dX5_calls_4 rfl (lv_at hl 1 rfl) ?_
  obtain ⟨p_5, hc_5, h⟩ := of_bind h
  refine x_Vi (av := [.ref (q 2), .int x1]) (As := [.int x1]) F hW (c_X1_isHouse l G (fun i => q (i + 2)) w.1.1 x1 _ hc_5) [2, 3, 4, 5, 6, 7] rfl rfl (by intro q; cases q) cv_X5_74 rfl ⟨_, rfl, rfl⟩ rfl rfl rfl hl (Nat.le_of_ble_eq_true rfl) ⟨Nat.le_of_ble_eq_true rfl, Nat.le_of_ble_eq_true rfl⟩ ⟨rfl, rfl⟩ ⟨Nat.le_of_ble_eq_true rfl, Nat.le_of_ble_eq_true rfl⟩ dX5_calls_5 rfl [none, none, some 0, some 1, some 2, some 3, some 4, some 5, none, none, none, none, none, none, none, none, none, none, none, none, none, none, none, none, none, none, none, none, none, none, none, none, none, none, none, none, none, none, none] rfl (ws' := cEW G q w) rfl (fun H locs hW => ?_)
  obtain ⟨ht_8, hf_8⟩ := of_ite h
  refine lv_if_ne (tgt := 17) hx hb dX5_calls_8 (by decide) (fun c_8 => ?_) (fun c_8 => ?_)
  · have h := hf_8 c_8
    refine lv_aload_n hx hb dX5_calls_17 rfl (lv_at hl 0 rfl) ?_
    refine x_get F hW 0 rfl fa_X5_20 rfl dX5_calls_18 ?_
    refine lv_iload_n hx hb dX5_calls_21 rfl (lv_at hl 1 rfl) ?_
    obtain ⟨p_22, hc_22, h⟩ := of_bind h
    refine x_Vi (av := [.ref (q 2), .int x1]) (As := [.int x1]) F hW (c_X1_switchCall l G (fun i => q (i + 2)) w.1.1 x1 _ hc_22) [2, 3, 4, 5, 6, 7] rfl rfl (by intro q; cases q) cv_X5_122 rfl ⟨_, rfl, rfl⟩ rfl rfl rfl hl (Nat.le_of_ble_eq_true rfl) ⟨Nat.le_of_ble_eq_true rfl, Nat.le_of_ble_eq_true rfl⟩ ⟨rfl, rfl⟩ ⟨Nat.le_of_ble_eq_true rfl, Nat.le_of_ble_eq_true rfl⟩ dX5_calls_22 rfl [none, none, some 0, some 1, some 2, some 3, some 4, some 5, none, none, none, none, none, none, none, none, none, none, none, none, none, none, none, none, none, none, none, none, none, none, none, none, none, none, none, none, none, none, none] rfl (ws' := cEW G q ((p_22.2, w.1.2.1, w.1.2.2.1, w.1.2.2.2.1, w.1.2.2.2.2.1, w.1.2.2.2.2.2.1, w.1.2.2.2.2.2.2), w.2.1, w.2.2.1, w.2.2.2.1, w.2.2.2.2.1, w.2.2.2.2.2.1, w.2.2.2.2.2.2.1, w.2.2.2.2.2.2.2)) rfl (fun H locs hW => ?_)
    refine lv_pop hx hb dX5_calls_25 rfl ?_
    refine lv_aload_n hx hb dX5_calls_26 rfl (lv_at hl 0 rfl) ?_
    refine x_get F hW 0 rfl fa_X5_20 rfl dX5_calls_27 ?_
    refine lv_iload_n hx hb dX5_calls_30 rfl (lv_at hl 1 rfl) ?_
    obtain ⟨p_31, hc_31, h⟩ := of_bind h
    refine x_Vi (av := [.ref (q 2), .int x1]) (As := [.int x1]) F hW (c_X1_isCalled l G (fun i => q (i + 2)) p_22.2 x1 _ hc_31) [2, 3, 4, 5, 6, 7] rfl rfl (by intro q; cases q) cv_X5_90 rfl ⟨_, rfl, rfl⟩ rfl rfl rfl hl (Nat.le_of_ble_eq_true rfl) ⟨Nat.le_of_ble_eq_true rfl, Nat.le_of_ble_eq_true rfl⟩ ⟨rfl, rfl⟩ ⟨Nat.le_of_ble_eq_true rfl, Nat.le_of_ble_eq_true rfl⟩ dX5_calls_31 rfl [none, none, some 0, some 1, some 2, some 3, some 4, some 5, none, none, none, none, none, none, none, none, none, none, none, none, none, none, none, none, none, none, none, none, none, none, none, none, none, none, none, none, none, none, none] rfl (ws' := cEW G q ((p_22.2, w.1.2.1, w.1.2.2.1, w.1.2.2.2.1, w.1.2.2.2.2.1, w.1.2.2.2.2.2.1, w.1.2.2.2.2.2.2), w.2.1, w.2.2.1, w.2.2.2.1, w.2.2.2.2.1, w.2.2.2.2.2.1, w.2.2.2.2.2.2.1, w.2.2.2.2.2.2.2)) rfl (fun H locs hW => ?_)
    obtain ⟨ht_34, hf_34⟩ := of_ite h
    refine lv_if_eq (tgt := 41) hx hb dX5_calls_34 (by decide) (fun c_34 => ?_) (fun c_34 => ?_)
    · have h := ht_34 c_34
      refine lv_iconst (v := (0 : Int32)) hx hb dX5_calls_41 (by decide) ?_
      obtain rfl := Option.some.inj h
      exact x_reti F hr hW rfl dX5_calls_42
    · have h := hf_34 c_34
      refine lv_iconst (v := (1 : Int32)) hx hb dX5_calls_37 (by decide) ?_
      refine lv_goto (tgt := 42) hx hb dX5_calls_38 (by decide) ?_
      obtain rfl := Option.some.inj h
      exact x_reti F hr hW rfl dX5_calls_42
  · have h := ht_8 c_8
    refine lv_aload_n hx hb dX5_calls_11 rfl (lv_at hl 0 rfl) ?_
    refine lv_iconst (v := (-1 : Int32)) hx hb dX5_calls_12 (by decide) ?_
    obtain ⟨p_13, hc_13, h⟩ := of_bind h
    refine x_Vi (av := [.ref (q 0), .int (-1 : Int32)]) (As := [.int (-1 : Int32)]) F hW (c_X5_refuse l G q w (-1 : Int32) _ hc_13) [0, 1, 2, 3, 4, 5, 6, 7, 8, 9, 10, 11, 12, 13, 14, 15, 16, 17, 18, 19, 20, 21, 22, 23, 24, 25, 26, 27, 28, 29, 30, 31, 32, 33, 34, 35, 36, 37, 38] rfl rfl (by intro q; cases q) cv_X5_44 rfl ⟨_, rfl, rfl⟩ rfl rfl rfl hl (Nat.le_of_ble_eq_true rfl) ⟨Nat.le_of_ble_eq_true rfl, Nat.le_of_ble_eq_true rfl⟩ ⟨rfl, rfl⟩ ⟨Nat.le_of_ble_eq_true rfl, Nat.le_of_ble_eq_true rfl⟩ dX5_calls_13 rfl [some 0, some 1, some 2, some 3, some 4, some 5, some 6, some 7, some 8, some 9, some 10, some 11, some 12, some 13, some 14, some 15, some 16, some 17, some 18, some 19, some 20, some 21, some 22, some 23, some 24, some 25, some 26, some 27, some 28, some 29, some 30, some 31, some 32, some 33, some 34, some 35, some 36, some 37, some 38] rfl (ws' := cEW G q p_13.2) rfl (fun H locs hW => ?_)
    obtain rfl := Option.some.inj h
    exact x_reti F hr hW rfl dX5_calls_16
def f_X5_fog (w : EW) (x1 : Int32) : Option (Int32 × EW) :=
  Option.bind (f_X5_outside x1 (0 : Int32) (9 : Int32)) fun p_4 =>
    if p_4 = 0 then
    nm w.1.1.2.2.2.2.2.2.2.1 fun x_25 =>
    some (x_25, (((w.1.1.1, w.1.1.2.1, w.1.1.2.2.1, w.1.1.2.2.2.1, w.1.1.2.2.2.2.1, w.1.1.2.2.2.2.2.1, w.1.1.2.2.2.2.2.2.1, x1, w.1.1.2.2.2.2.2.2.2.2), w.1.2.1, w.1.2.2.1, w.1.2.2.2.1, w.1.2.2.2.2.1, w.1.2.2.2.2.2.1, w.1.2.2.2.2.2.2), w.2.1, w.2.2.1, w.2.2.2.1, w.2.2.2.2.1, w.2.2.2.2.2.1, w.2.2.2.2.2.2.1, w.2.2.2.2.2.2.2))
    else
    Option.bind (f_X5_refuse w p_4) fun p_14 =>
    some (p_14.1, p_14.2)
abbrev rmX5_fog : Room := { frames := 1, cells := 0, slots := 0, locals := 22 }
set_option maxRecDepth 100000 in
set_option maxHeartbeats 4000000 in
theorem c_X5_fog (l : Launch) (G : EnT) (q : Nat → Nat) (w : EW) (x1 : Int32) (o : Int32 × EW) (h : f_X5_fog w x1 = some o) : Mi l yX5_fog rmX5_fog cX5_fog 4 (some .int) G false [.ref (q 0), .int x1] (cEW G q w) o.1 (cEW G q o.2) := by
  refine Mi_of (by decide) (Nat.le_of_ble_eq_true rfl) ?_
  intro p e s m below meth c A0 F hr hW ls hl
  obtain ⟨hx, hb, hml, hown, hts, hK, hNW, hlocks, hA, hSX⟩ := id F
  have hl : lv_has ls 4 [(0, .ref (q 0)), (1, .int x1)] := hl
  have hW : Wd G A0 s (cEW G q w) s.heap [] := hW
  show W p l e rmX5_fog s m ([.ref (q 0), .int x1] : List Value).toArray below meth c s.heap [] 0 0 (Qi below G (cEW G q o.2) o.1 A0 ([.ref (q 0), .int x1] : List Value).toArray s) (F0 m 0 ls [])
  refine lv_iload_n hx hb dX5_fog_0 rfl (lv_at hl 1 rfl) ?_
  refine lv_iconst (v := (0 : Int32)) hx hb dX5_fog_1 (by decide) ?_
  refine lv_bipush (v := (9 : Int32)) hx hb dX5_fog_2 (by decide) ?_
  obtain ⟨p_4, hc_4, h⟩ := of_bind h
  refine x_Si (av := [.int x1, .int (0 : Int32), .int (9 : Int32)]) F hW (c_X5_outside l G x1 (0 : Int32) (9 : Int32) _ hc_4) [] rfl rfl (by intro q; cases q) cs_X5_108 rfl rfl hl (Nat.le_of_ble_eq_true rfl) ⟨Nat.le_of_ble_eq_true rfl, Nat.le_of_ble_eq_true rfl⟩ ⟨rfl, rfl⟩ ⟨Nat.le_of_ble_eq_true rfl, Nat.le_of_ble_eq_true rfl⟩ dX5_fog_4 rfl [none, none, none, none, none, none, none, none, none, none, none, none, none, none, none, none, none, none, none, none, none, none, none, none, none, none, none, none, none, none, none, none, none, none, none, none, none, none, none] rfl (ws' := cEW G q w) rfl (fun H locs hW => ?_)
  refine lv_istore_n (lv' := [(2, .int p_4), (0, .ref (q 0)), (1, .int x1)]) hx hb dX5_fog_7 rfl hl (by decide) rfl (fun ls hl => ?_)
  refine lv_iload_n hx hb dX5_fog_8 rfl (lv_at hl 0 rfl) ?_
  obtain ⟨ht_9, hf_9⟩ := of_ite h
  refine lv_if_eq (tgt := 18) hx hb dX5_fog_9 (by decide) (fun c_9 => ?_) (fun c_9 => ?_)
  · have h := ht_9 c_9
    refine lv_aload_n hx hb dX5_fog_18 rfl (lv_at hl 1 rfl) ?_
    refine x_get F hW 0 rfl fa_X5_20 rfl dX5_fog_19 ?_
    refine x_get F hW 2 rfl fa_X5_125 rfl dX5_fog_22 ?_
    obtain ⟨x_25, e_x_25, h⟩ := of_nm h
    refine x_topi e_x_25 ?_
    refine lv_istore_n (lv' := [(3, .int x_25), (2, .int p_4), (0, .ref (q 0)), (1, .int x1)]) hx hb dX5_fog_25 rfl hl (by decide) rfl (fun ls hl => ?_)
    refine lv_aload_n hx hb dX5_fog_26 rfl (lv_at hl 2 rfl) ?_
    refine x_get F hW 0 rfl fa_X5_20 rfl dX5_fog_27 ?_
    refine lv_iload_n hx hb dX5_fog_30 rfl (lv_at hl 3 rfl) ?_
    refine x_put F hW 2 rfl fp_X5_125 rfl rfl (Nat.le_of_ble_eq_true rfl) (ws' := cEW G q (((w.1.1.1, w.1.1.2.1, w.1.1.2.2.1, w.1.1.2.2.2.1, w.1.1.2.2.2.2.1, w.1.1.2.2.2.2.2.1, w.1.1.2.2.2.2.2.2.1, x1, w.1.1.2.2.2.2.2.2.2.2), w.1.2.1, w.1.2.2.1, w.1.2.2.2.1, w.1.2.2.2.2.1, w.1.2.2.2.2.2.1, w.1.2.2.2.2.2.2), w.2.1, w.2.2.1, w.2.2.2.1, w.2.2.2.2.1, w.2.2.2.2.2.1, w.2.2.2.2.2.2.1, w.2.2.2.2.2.2.2)) rfl dX5_fog_31 (fun H locs hW => ?_)
    refine lv_iload_n hx hb dX5_fog_34 rfl (lv_at hl 0 rfl) ?_
    obtain rfl := Option.some.inj h
    exact x_reti F hr hW rfl dX5_fog_35
  · have h := hf_9 c_9
    refine lv_aload_n hx hb dX5_fog_12 rfl (lv_at hl 1 rfl) ?_
    refine lv_iload_n hx hb dX5_fog_13 rfl (lv_at hl 0 rfl) ?_
    obtain ⟨p_14, hc_14, h⟩ := of_bind h
    refine x_Vi (av := [.ref (q 0), .int p_4]) (As := [.int p_4]) F hW (c_X5_refuse l G q w p_4 _ hc_14) [0, 1, 2, 3, 4, 5, 6, 7, 8, 9, 10, 11, 12, 13, 14, 15, 16, 17, 18, 19, 20, 21, 22, 23, 24, 25, 26, 27, 28, 29, 30, 31, 32, 33, 34, 35, 36, 37, 38] rfl rfl (by intro q; cases q) cv_X5_44 rfl ⟨_, rfl, rfl⟩ rfl rfl rfl hl (Nat.le_of_ble_eq_true rfl) ⟨Nat.le_of_ble_eq_true rfl, Nat.le_of_ble_eq_true rfl⟩ ⟨rfl, rfl⟩ ⟨Nat.le_of_ble_eq_true rfl, Nat.le_of_ble_eq_true rfl⟩ dX5_fog_14 rfl [some 0, some 1, some 2, some 3, some 4, some 5, some 6, some 7, some 8, some 9, some 10, some 11, some 12, some 13, some 14, some 15, some 16, some 17, some 18, some 19, some 20, some 21, some 22, some 23, some 24, some 25, some 26, some 27, some 28, some 29, some 30, some 31, some 32, some 33, some 34, some 35, some 36, some 37, some 38] rfl (ws' := cEW G q p_14.2) rfl (fun H locs hW => ?_)
    obtain rfl := Option.some.inj h
    exact x_reti F hr hW rfl dX5_fog_17
