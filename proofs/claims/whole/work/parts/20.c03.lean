def f_X3_isOpen_65 (v6_57 : Int32) (w : LD) (v5_57 : Int32) (v7_57 : Int32) (t0_57 : Int32) : Nat → Int32 → Option (Int32)
  | 0, _ => none
  | n1 + 1, v9_65 =>
    if v6_57 ≤ v9_65 then
    some (1 : Int32)
    else
    Option.bind (f_X3_aboveLine w v9_65 v5_57 v7_57 v6_57 t0_57) fun p_83 =>
    if p_83 < 0 then
    f_X3_isOpen_65 v6_57 w v5_57 v7_57 t0_57 n1 (v9_65 + (1 : Int32))
    else
    some (0 : Int32)
def f_X3_isOpen_57 (w : LD) (v7_57 : Int32) (v6_57 : Int32) (v5_57 : Int32) (t0_57 : Int32) : Option (Int32) :=
  nm (v5_57 + (1 : Int32)) fun x_63 =>
    f_X3_isOpen_65 v6_57 w v5_57 v7_57 t0_57 200 x_63
def f_X3_isOpen_44 (x3 : Int32) (x1 : Int32) (x2 : Int32) (x4 : Int32) (w : LD) (v6_44 : Int32) (v5_44 : Int32) (t0_44 : Int32) : Option (Int32) :=
  if x3 < x1 then
    f_X3_isOpen_57 w t0_44 v6_44 v5_44 x2
    else
    f_X3_isOpen_57 w t0_44 v6_44 v5_44 x4
def f_X3_isOpen (w : LD) (x1 : Int32) (x2 : Int32) (x3 : Int32) (x4 : Int32) : Option (Int32) :=
  nm (minI x1 x3) fun x_5 =>
    nm (maxI x1 x3) fun x_12 =>
    if (x_12 - x_5) ≤ ((20 : Int32) - ((2 : Int32) * w.2.2.2.2.2.2.2.1)) then
    if x3 < x1 then
    f_X3_isOpen_44 x3 x1 x2 x4 w x_12 x_5 x4
    else
    f_X3_isOpen_44 x3 x1 x2 x4 w x_12 x_5 x2
    else
    some (0 : Int32)
abbrev rmX3_isOpen : Room := { frames := 1, cells := 0, slots := 0, locals := 26 }
set_option maxRecDepth 100000 in
set_option maxHeartbeats 4000000 in
theorem c_X3_isOpen (l : Launch) (G : EnT) (q : Nat → Nat) (w : LD) (x1 : Int32) (x2 : Int32) (x3 : Int32) (x4 : Int32) (o : Int32) (h : f_X3_isOpen w x1 x2 x3 x4 = some o) : Mi l yX3_isOpen rmX3_isOpen cX3_isOpen 10 (some .boolean) G false [.ref (q 0), .int x1, .int x2, .int x3, .int x4] (cLD G q w) o (cLD G q w) := by
  refine Mi_of (by decide) (Nat.le_of_ble_eq_true rfl) ?_
  intro p e s m below meth c A0 F hr hW ls hl
  obtain ⟨hx, hb, hml, hown, hts, hK, hNW, hlocks, hA, hSX⟩ := id F
  have hl : lv_has ls 10 [(0, .ref (q 0)), (1, .int x1), (2, .int x2), (3, .int x3), (4, .int x4)] := hl
  have hW : Wd G A0 s (cLD G q w) s.heap [] := hW
  show W p l e rmX3_isOpen s m ([.ref (q 0), .int x1, .int x2, .int x3, .int x4] : List Value).toArray below meth c s.heap [] 0 0 (Qi below G (cLD G q w) o A0 ([.ref (q 0), .int x1, .int x2, .int x3, .int x4] : List Value).toArray s) (F0 m 0 ls [])
  have J0 : ∀ (v7_57 : Int32) (v6_57 : Int32) (v5_57 : Int32) (t0_57 : Int32) (H : Heap) (locs : List Loc) (ls : Array Slot), f_X3_isOpen_57 w v7_57 v6_57 v5_57 t0_57 = some o → Wd G A0 s (cLD G q w) H locs → lv_has ls 10 [(7, .int v7_57), (6, .int v6_57), (5, .int v5_57), (0, .ref (q 0))] → W p l e rmX3_isOpen s m ([.ref (q 0), .int x1, .int x2, .int x3, .int x4] : List Value).toArray below meth c H locs 0 0 (Qi below G (cLD G q w) o A0 ([.ref (q 0), .int x1, .int x2, .int x3, .int x4] : List Value).toArray s) (F0 m 57 ls [.int t0_57]) := by
    intro v7_57 v6_57 v5_57 t0_57 H locs ls h hW hl
    refine lv_istore (lv' := [(8, .int t0_57), (7, .int v7_57), (6, .int v6_57), (5, .int v5_57), (0, .ref (q 0))]) hx hb dX3_isOpen_57 hl (by decide) rfl (fun ls hl => ?_)
    refine lv_iload hx hb dX3_isOpen_59 (lv_at hl 3 rfl) ?_
    refine lv_iconst (v := (1 : Int32)) hx hb dX3_isOpen_61 (by decide) ?_
    refine lv_iadd hx hb dX3_isOpen_62 ?_
    obtain ⟨x_63, e_x_63, h⟩ := of_nm h
    refine x_topi e_x_63 ?_
    refine lv_istore (lv' := [(9, .int x_63), (8, .int t0_57), (7, .int v7_57), (6, .int v6_57), (5, .int v5_57), (0, .ref (q 0))]) hx hb dX3_isOpen_63 hl (by decide) rfl (fun ls hl => ?_)
    have L1 : ∀ (n1 : Nat) (v9_65 : Int32) (H : Heap) (locs : List Loc) (ls : Array Slot), f_X3_isOpen_65 v6_57 w v5_57 v7_57 t0_57 n1 v9_65 = some o → Wd G A0 s (cLD G q w) H locs → lv_has ls 10 [(9, .int v9_65), (8, .int t0_57), (7, .int v7_57), (6, .int v6_57), (5, .int v5_57), (0, .ref (q 0))] → W p l e rmX3_isOpen s m ([.ref (q 0), .int x1, .int x2, .int x3, .int x4] : List Value).toArray below meth c H locs 0 0 (Qi below G (cLD G q w) o A0 ([.ref (q 0), .int x1, .int x2, .int x3, .int x4] : List Value).toArray s) (F0 m 65 ls []) := by
      intro n1
      induction n1 with
      | zero => intro v9_65 H locs ls h; cases (show (none : Option (Int32)) = some o from h)
      | succ n1 ih1 =>
        intro v9_65 H locs ls h hW hl
        refine lv_iload hx hb dX3_isOpen_65 (lv_at hl 0 rfl) ?_
        refine lv_iload hx hb dX3_isOpen_67 (lv_at hl 3 rfl) ?_
        obtain ⟨ht_69, hf_69⟩ := of_ite h
        refine lv_icmp_ge (tgt := 97) hx hb dX3_isOpen_69 (by decide) (fun c_69 => ?_) (fun c_69 => ?_)
        · have h := ht_69 c_69
          refine lv_iconst (v := (1 : Int32)) hx hb dX3_isOpen_97 (by decide) ?_
          obtain rfl := Option.some.inj h
          exact x_retz F hr hW (Or.inr rfl) rfl dX3_isOpen_98
        · have h := hf_69 c_69
          refine lv_aload_n hx hb dX3_isOpen_72 rfl (lv_at hl 5 rfl) ?_
          refine lv_iload hx hb dX3_isOpen_73 (lv_at hl 0 rfl) ?_
          refine lv_iload hx hb dX3_isOpen_75 (lv_at hl 4 rfl) ?_
          refine lv_iload hx hb dX3_isOpen_77 (lv_at hl 2 rfl) ?_
          refine lv_iload hx hb dX3_isOpen_79 (lv_at hl 3 rfl) ?_
          refine lv_iload hx hb dX3_isOpen_81 (lv_at hl 1 rfl) ?_
          obtain ⟨p_83, hc_83, h⟩ := of_bind h
          refine x_Si (av := [.ref (q 0), .int v9_65, .int v5_57, .int v7_57, .int v6_57, .int t0_57]) F hW (c_X3_aboveLine l G q w v9_65 v5_57 v7_57 v6_57 t0_57 _ hc_83) [0, 1, 2, 3, 4, 5] rfl rfl (by intro q; cases q) cs_X3_58 rfl rfl hl (Nat.le_of_ble_eq_true rfl) ⟨Nat.le_of_ble_eq_true rfl, Nat.le_of_ble_eq_true rfl⟩ ⟨rfl, rfl⟩ ⟨Nat.le_of_ble_eq_true rfl, Nat.le_of_ble_eq_true rfl⟩ dX3_isOpen_83 rfl [some 0, some 1, some 2, some 3, some 4, some 5] rfl (ws' := cLD G q w) rfl (fun H locs hW => ?_)
          obtain ⟨ht_86, hf_86⟩ := of_ite h
          refine lv_if_lt (tgt := 91) hx hb dX3_isOpen_86 (by decide) (fun c_86 => ?_) (fun c_86 => ?_)
          · have h := ht_86 c_86
            refine lv_iinc (v := (v9_65 + (1 : Int32))) (lv' := [(9, .int (v9_65 + (1 : Int32))), (8, .int t0_57), (7, .int v7_57), (6, .int v6_57), (5, .int v5_57), (0, .ref (q 0))]) hx hb dX3_isOpen_91 hl (k := 0) rfl rfl (by decide) rfl (fun ls hl => ?_)
            refine lv_goto (tgt := 65) hx hb dX3_isOpen_94 (by decide) ?_
            exact ih1 (v9_65 + (1 : Int32)) _ _ _ h hW (lv_sub hl [0, 1, 2, 3, 4, 5] rfl)
          · have h := hf_86 c_86
            refine lv_iconst (v := (0 : Int32)) hx hb dX3_isOpen_89 (by decide) ?_
            obtain rfl := Option.some.inj h
            exact x_retz F hr hW (Or.inl rfl) rfl dX3_isOpen_90
    exact L1 200 x_63 _ _ _ h hW (lv_sub hl [0, 1, 2, 3, 4, 5] rfl)
  have J2 : ∀ (v6_44 : Int32) (v5_44 : Int32) (t0_44 : Int32) (H : Heap) (locs : List Loc) (ls : Array Slot), f_X3_isOpen_44 x3 x1 x2 x4 w v6_44 v5_44 t0_44 = some o → Wd G A0 s (cLD G q w) H locs → lv_has ls 10 [(6, .int v6_44), (5, .int v5_44), (0, .ref (q 0)), (1, .int x1), (2, .int x2), (3, .int x3), (4, .int x4)] → W p l e rmX3_isOpen s m ([.ref (q 0), .int x1, .int x2, .int x3, .int x4] : List Value).toArray below meth c H locs 0 0 (Qi below G (cLD G q w) o A0 ([.ref (q 0), .int x1, .int x2, .int x3, .int x4] : List Value).toArray s) (F0 m 44 ls [.int t0_44]) := by
    intro v6_44 v5_44 t0_44 H locs ls h hW hl
    refine lv_istore (lv' := [(7, .int t0_44), (6, .int v6_44), (5, .int v5_44), (0, .ref (q 0)), (1, .int x1), (2, .int x2), (3, .int x3), (4, .int x4)]) hx hb dX3_isOpen_44 hl (by decide) rfl (fun ls hl => ?_)
    refine lv_iload_n hx hb dX3_isOpen_46 rfl (lv_at hl 4 rfl) ?_
    refine lv_iload_n hx hb dX3_isOpen_47 rfl (lv_at hl 6 rfl) ?_
    obtain ⟨ht_48, hf_48⟩ := of_ite h
    refine lv_icmp_gt (tgt := 56) hx hb dX3_isOpen_48 (by decide) (fun c_48 => ?_) (fun c_48 => ?_)
    · have h := ht_48 c_48
      refine lv_iload_n hx hb dX3_isOpen_56 rfl (lv_at hl 5 rfl) ?_
      exact J0 t0_44 v6_44 v5_44 x2 _ _ _ h hW (lv_sub hl [0, 1, 2, 3] rfl)
    · have h := hf_48 c_48
      refine lv_iload hx hb dX3_isOpen_51 (lv_at hl 7 rfl) ?_
      refine lv_goto (tgt := 57) hx hb dX3_isOpen_53 (by decide) ?_
      exact J0 t0_44 v6_44 v5_44 x4 _ _ _ h hW (lv_sub hl [0, 1, 2, 3] rfl)
  refine lv_iload_n hx hb dX3_isOpen_0 rfl (lv_at hl 1 rfl) ?_
  refine lv_iload_n hx hb dX3_isOpen_1 rfl (lv_at hl 3 rfl) ?_
  refine va_mmin hx hb (hml.trans hl.1.symm) hown (hts _ wd_493) (hts _ wd_289) (hts _ wd_11) (hts _ wd_290) (Nat.le_of_ble_eq_true rfl) (Nat.le_of_ble_eq_true rfl) (Nat.le_of_ble_eq_true rfl) (Nat.le_of_ble_eq_true rfl) dX3_isOpen_2 ?_
  obtain ⟨x_5, e_x_5, h⟩ := of_nm h
  refine x_topi e_x_5 ?_
  refine lv_istore (lv' := [(5, .int x_5), (0, .ref (q 0)), (1, .int x1), (2, .int x2), (3, .int x3), (4, .int x4)]) hx hb dX3_isOpen_5 hl (by decide) rfl (fun ls hl => ?_)
  refine lv_iload_n hx hb dX3_isOpen_7 rfl (lv_at hl 2 rfl) ?_
  refine lv_iload_n hx hb dX3_isOpen_8 rfl (lv_at hl 4 rfl) ?_
  refine va_mmax hx hb (hml.trans hl.1.symm) hown (hts _ wd_494) (hts _ wd_286) (hts _ wd_11) (hts _ wd_287) (Nat.le_of_ble_eq_true rfl) (Nat.le_of_ble_eq_true rfl) (Nat.le_of_ble_eq_true rfl) (Nat.le_of_ble_eq_true rfl) dX3_isOpen_9 ?_
  obtain ⟨x_12, e_x_12, h⟩ := of_nm h
  refine x_topi e_x_12 ?_
  refine lv_istore (lv' := [(6, .int x_12), (5, .int x_5), (0, .ref (q 0)), (1, .int x1), (2, .int x2), (3, .int x3), (4, .int x4)]) hx hb dX3_isOpen_12 hl (by decide) rfl (fun ls hl => ?_)
  refine lv_iload hx hb dX3_isOpen_14 (lv_at hl 0 rfl) ?_
  refine lv_iload hx hb dX3_isOpen_16 (lv_at hl 1 rfl) ?_
  refine lv_isub hx hb dX3_isOpen_18 ?_
  refine lv_bipush (v := (20 : Int32)) hx hb dX3_isOpen_19 (by decide) ?_
  refine lv_iconst (v := (2 : Int32)) hx hb dX3_isOpen_21 (by decide) ?_
  refine lv_aload_n hx hb dX3_isOpen_22 rfl (lv_at hl 2 rfl) ?_
  refine x_get F hW 0 rfl fa_X3_55 rfl dX3_isOpen_23 ?_
  refine lv_imul hx hb dX3_isOpen_26 ?_
  refine lv_isub hx hb dX3_isOpen_27 ?_
  obtain ⟨ht_28, hf_28⟩ := of_ite h
  refine lv_icmp_le (tgt := 33) hx hb dX3_isOpen_28 (by decide) (fun c_28 => ?_) (fun c_28 => ?_)
  · have h := ht_28 c_28
    refine lv_iload_n hx hb dX3_isOpen_33 rfl (lv_at hl 3 rfl) ?_
    refine lv_iload_n hx hb dX3_isOpen_34 rfl (lv_at hl 5 rfl) ?_
    obtain ⟨ht_35, hf_35⟩ := of_ite h
    refine lv_icmp_gt (tgt := 42) hx hb dX3_isOpen_35 (by decide) (fun c_35 => ?_) (fun c_35 => ?_)
    · have h := ht_35 c_35
      refine lv_iload hx hb dX3_isOpen_42 (lv_at hl 6 rfl) ?_
      exact J2 x_12 x_5 x4 _ _ _ h hW (lv_sub hl [0, 1, 2, 3, 4, 5, 6] rfl)
    · have h := hf_35 c_35
      refine lv_iload_n hx hb dX3_isOpen_38 rfl (lv_at hl 4 rfl) ?_
      refine lv_goto (tgt := 44) hx hb dX3_isOpen_39 (by decide) ?_
      exact J2 x_12 x_5 x2 _ _ _ h hW (lv_sub hl [0, 1, 2, 3, 4, 5, 6] rfl)
  · have h := hf_28 c_28
    refine lv_iconst (v := (0 : Int32)) hx hb dX3_isOpen_31 (by decide) ?_
    obtain rfl := Option.some.inj h
    exact x_retz F hr hW (Or.inl rfl) rfl dX3_isOpen_32
def f_X3_look_58 (k0 : Int32 → SG → Option (SG)) (v2_56 : Int32) (w2 : LD) : Nat → Int32 → SG → Option (SG)
  | 0, _, _ => none
  | n2 + 1, v3_58, w_58 =>
    if v2_56 ≤ v3_58 then
    k0 (v2_56 + (1 : Int32)) w_58
    else
    if inR v2_56 8 then
    if inR v2_56 8 then
    if inR v3_58 8 then
    if inR v3_58 8 then
    Option.bind (f_X3_isOpen w2 (w2.2.2.2.1 v2_56.toNatClampNeg) (w_58.1 v2_56.toNatClampNeg) (w2.2.2.2.1 v3_58.toNatClampNeg) (w_58.1 v3_58.toNatClampNeg)) fun p_88 =>
    if p_88 = 0 then
    f_X3_look_58 k0 v2_56 w2 n2 (v3_58 + (1 : Int32)) w_58
    else
    if inR v2_56 8 then
    if inR v2_56 8 then
    if inR v3_58 8 then
    if inR v3_58 8 then
    f_X3_look_58 k0 v2_56 w2 n2 (v3_58 + (1 : Int32)) (w_58.1, (upd (upd w_58.2.1 v2_56.toNatClampNeg ((w_58.2.1 v2_56.toNatClampNeg) ||| ((1 : Int32) <<< (v3_58 &&& 31)))) v3_58.toNatClampNeg (((upd w_58.2.1 v2_56.toNatClampNeg ((w_58.2.1 v2_56.toNatClampNeg) ||| ((1 : Int32) <<< (v3_58 &&& 31)))) v3_58.toNatClampNeg) ||| ((1 : Int32) <<< (v2_56 &&& 31)))), w_58.2.2.1, w_58.2.2.2)
    else none
    else none
    else none
    else none
    else none
    else none
    else none
    else none
def f_X3_look_56 (k0 : Int32 → SG → Option (SG)) (w2 : LD) (v2_56 : Int32) (w_56 : SG) : Option (SG) :=
  f_X3_look_58 k0 v2_56 w2 200 (0 : Int32) w_56
def f_X3_look_7 (w2 : LD) : Nat → Int32 → SG → Option (SG)
  | 0, _, _ => none
  | n0 + 1, v2_7, w_7 =>
    if w_7.2.2.2 ≤ v2_7 then
    some w_7
    else
    if inR v2_7 8 then
    if inR v2_7 8 then
    if inR v2_7 8 then
    Option.bind (f_X3_isOpen w2 (w2.2.2.2.1 v2_7.toNatClampNeg) (w_7.1 v2_7.toNatClampNeg) (20 : Int32) (0 : Int32)) fun p_38 =>
    if p_38 = 0 then
    f_X3_look_56 (fun a0 a1 => f_X3_look_7 w2 n0 a0 a1) w2 v2_7 (w_7.1, (upd w_7.2.1 v2_7.toNatClampNeg (0 : Int32)), w_7.2.2.1, w_7.2.2.2)
    else
    f_X3_look_56 (fun a0 a1 => f_X3_look_7 w2 n0 a0 a1) w2 v2_7 (w_7.1, (upd w_7.2.1 v2_7.toNatClampNeg (0 : Int32)), (w_7.2.2.1 ||| ((1 : Int32) <<< (v2_7 &&& 31))), w_7.2.2.2)
    else none
    else none
    else none
def f_X3_look (w : SG) (w2 : LD) : Option (SG) :=
  f_X3_look_7 w2 200 (0 : Int32) (w.1, w.2.1, (0 : Int32), w.2.2.2)
abbrev rmX3_look : Room := { frames := 2, cells := 0, slots := 0, locals := 55 }
set_option maxRecDepth 100000 in
set_option maxHeartbeats 4000000 in
theorem c_X3_look (l : Launch) (G : EnT) (q : Nat → Nat) (w : SG) (q2 : Nat → Nat) (w2 : LD) (o : SG) (h : f_X3_look w w2 = some o) : Mv l yX3_look rmX3_look cX3_look 4 none G false [.ref (q 0), .ref (q2 0)] (cSG G q w ++ cLD G q2 w2) (cSG G q o ++ cLD G q2 w2) := by
  refine Mv_of (by decide) (Nat.le_of_ble_eq_true rfl) ?_
  intro p e s m below meth c A0 F hr hW ls hl
  obtain ⟨hx, hb, hml, hown, hts, hK, hNW, hlocks, hA, hSX⟩ := id F
  have hl : lv_has ls 4 [(0, .ref (q 0)), (1, .ref (q2 0))] := hl
  have hW : Wd G A0 s (cSG G q w ++ cLD G q2 w2) s.heap [] := hW
  show W p l e rmX3_look s m ([.ref (q 0), .ref (q2 0)] : List Value).toArray below meth c s.heap [] 0 0 (Qv below G (cSG G q o ++ cLD G q2 w2) A0 ([.ref (q 0), .ref (q2 0)] : List Value).toArray s) (F0 m 0 ls [])
  refine lv_aload_n hx hb dX3_look_0 rfl (lv_at hl 0 rfl) ?_
  refine lv_iconst (v := (0 : Int32)) hx hb dX3_look_1 (by decide) ?_
  refine x_put F hW 0 rfl fp_X3_36 rfl rfl (Nat.le_of_ble_eq_true rfl) (ws' := cSG G q (w.1, w.2.1, (0 : Int32), w.2.2.2) ++ cLD G q2 w2) rfl dX3_look_2 (fun H locs hW => ?_)
  refine lv_iconst (v := (0 : Int32)) hx hb dX3_look_5 (by decide) ?_
  refine lv_istore_n (lv' := [(2, .int (0 : Int32)), (0, .ref (q 0)), (1, .ref (q2 0))]) hx hb dX3_look_6 rfl hl (by decide) rfl (fun ls hl => ?_)
  have L0 : ∀ (n0 : Nat) (v2_7 : Int32) (w_7 : SG) (H : Heap) (locs : List Loc) (ls : Array Slot), f_X3_look_7 w2 n0 v2_7 w_7 = some o → Wd G A0 s (cSG G q w_7 ++ cLD G q2 w2) H locs → lv_has ls 4 [(2, .int v2_7), (0, .ref (q 0)), (1, .ref (q2 0))] → W p l e rmX3_look s m ([.ref (q 0), .ref (q2 0)] : List Value).toArray below meth c H locs 0 0 (Qv below G (cSG G q o ++ cLD G q2 w2) A0 ([.ref (q 0), .ref (q2 0)] : List Value).toArray s) (F0 m 7 ls []) := by
    intro n0
    induction n0 with
    | zero => intro v2_7 w_7 H locs ls h; cases (show (none : Option (SG)) = some o from h)
    | succ n0 ih0 =>
      intro v2_7 w_7 H locs ls h hW hl
      have J1 : ∀ (v2_56 : Int32) (w_56 : SG) (H : Heap) (locs : List Loc) (ls : Array Slot), f_X3_look_56 (fun a0 a1 => f_X3_look_7 w2 n0 a0 a1) w2 v2_56 w_56 = some o → Wd G A0 s (cSG G q w_56 ++ cLD G q2 w2) H locs → lv_has ls 4 [(2, .int v2_56), (0, .ref (q 0)), (1, .ref (q2 0))] → W p l e rmX3_look s m ([.ref (q 0), .ref (q2 0)] : List Value).toArray below meth c H locs 0 0 (Qv below G (cSG G q o ++ cLD G q2 w2) A0 ([.ref (q 0), .ref (q2 0)] : List Value).toArray s) (F0 m 56 ls []) := by
        intro v2_56 w_56 H locs ls h hW hl
        refine lv_iconst (v := (0 : Int32)) hx hb dX3_look_56 (by decide) ?_
        refine lv_istore_n (lv' := [(3, .int (0 : Int32)), (2, .int v2_56), (0, .ref (q 0)), (1, .ref (q2 0))]) hx hb dX3_look_57 rfl hl (by decide) rfl (fun ls hl => ?_)
        have L2 : ∀ (n2 : Nat) (v3_58 : Int32) (w_58 : SG) (H : Heap) (locs : List Loc) (ls : Array Slot), f_X3_look_58 (fun a0 a1 => f_X3_look_7 w2 n0 a0 a1) v2_56 w2 n2 v3_58 w_58 = some o → Wd G A0 s (cSG G q w_58 ++ cLD G q2 w2) H locs → lv_has ls 4 [(3, .int v3_58), (2, .int v2_56), (0, .ref (q 0)), (1, .ref (q2 0))] → W p l e rmX3_look s m ([.ref (q 0), .ref (q2 0)] : List Value).toArray below meth c H locs 0 0 (Qv below G (cSG G q o ++ cLD G q2 w2) A0 ([.ref (q 0), .ref (q2 0)] : List Value).toArray s) (F0 m 58 ls []) := by
          intro n2
          induction n2 with
          | zero => intro v3_58 w_58 H locs ls h; cases (show (none : Option (SG)) = some o from h)
          | succ n2 ih2 =>
            intro v3_58 w_58 H locs ls h hW hl
            refine lv_iload_n hx hb dX3_look_58 rfl (lv_at hl 0 rfl) ?_
            refine lv_iload_n hx hb dX3_look_59 rfl (lv_at hl 1 rfl) ?_
            obtain ⟨ht_60, hf_60⟩ := of_ite h
            refine lv_icmp_ge (tgt := 124) hx hb dX3_look_60 (by decide) (fun c_60 => ?_) (fun c_60 => ?_)
            · have h := ht_60 c_60
              refine lv_iinc (v := (v2_56 + (1 : Int32))) (lv' := [(2, .int (v2_56 + (1 : Int32))), (3, .int v3_58), (0, .ref (q 0)), (1, .ref (q2 0))]) hx hb dX3_look_124 hl (k := 1) rfl rfl (by decide) rfl (fun ls hl => ?_)
              refine lv_goto (tgt := 7) hx hb dX3_look_127 (by decide) ?_
              exact ih0 (v2_56 + (1 : Int32)) w_58 _ _ _ h hW (lv_sub hl [0, 2, 3] rfl)
            · have h := hf_60 c_60
              refine lv_aload_n hx hb dX3_look_63 rfl (lv_at hl 3 rfl) ?_
              refine lv_aload_n hx hb dX3_look_64 rfl (lv_at hl 3 rfl) ?_
              refine x_get F hW 3 rfl fa_X3_39 rfl dX3_look_65 ?_
              refine lv_iload_n hx hb dX3_look_68 rfl (lv_at hl 1 rfl) ?_
              obtain ⟨g_69, h⟩ := of_guard h
              refine x_iald F hW 7 rfl g_69 dX3_look_69 ?_
              refine lv_aload_n hx hb dX3_look_70 rfl (lv_at hl 2 rfl) ?_
              refine x_get F hW 0 rfl fa_X3_11 rfl dX3_look_71 ?_
              refine lv_iload_n hx hb dX3_look_74 rfl (lv_at hl 1 rfl) ?_
              obtain ⟨g_75, h⟩ := of_guard h
              refine x_iald F hW 1 rfl g_75 dX3_look_75 ?_
              refine lv_aload_n hx hb dX3_look_76 rfl (lv_at hl 3 rfl) ?_
              refine x_get F hW 3 rfl fa_X3_39 rfl dX3_look_77 ?_
              refine lv_iload_n hx hb dX3_look_80 rfl (lv_at hl 0 rfl) ?_
              obtain ⟨g_81, h⟩ := of_guard h
              refine x_iald F hW 7 rfl g_81 dX3_look_81 ?_
              refine lv_aload_n hx hb dX3_look_82 rfl (lv_at hl 2 rfl) ?_
              refine x_get F hW 0 rfl fa_X3_11 rfl dX3_look_83 ?_
              refine lv_iload_n hx hb dX3_look_86 rfl (lv_at hl 0 rfl) ?_
              obtain ⟨g_87, h⟩ := of_guard h
              refine x_iald F hW 1 rfl g_87 dX3_look_87 ?_
              obtain ⟨p_88, hc_88, h⟩ := of_bind h
              refine x_Si (av := [.ref (q2 0), .int (w2.2.2.2.1 v2_56.toNatClampNeg), .int (w_58.1 v2_56.toNatClampNeg), .int (w2.2.2.2.1 v3_58.toNatClampNeg), .int (w_58.1 v3_58.toNatClampNeg)]) F hW (c_X3_isOpen l G q2 w2 (w2.2.2.2.1 v2_56.toNatClampNeg) (w_58.1 v2_56.toNatClampNeg) (w2.2.2.2.1 v3_58.toNatClampNeg) (w_58.1 v3_58.toNatClampNeg) _ hc_88) [3, 4, 5, 6, 7, 8] rfl rfl (by intro q; cases q) cs_X3_42 rfl rfl hl (Nat.le_of_ble_eq_true rfl) ⟨Nat.le_of_ble_eq_true rfl, Nat.le_of_ble_eq_true rfl⟩ ⟨rfl, rfl⟩ ⟨Nat.le_of_ble_eq_true rfl, Nat.le_of_ble_eq_true rfl⟩ dX3_look_88 rfl [none, none, none, some 0, some 1, some 2, some 3, some 4, some 5] rfl (ws' := cSG G q w_58 ++ cLD G q2 w2) rfl (fun H locs hW => ?_)
              obtain ⟨ht_91, hf_91⟩ := of_ite h
              refine lv_if_eq (tgt := 118) hx hb dX3_look_91 (by decide) (fun c_91 => ?_) (fun c_91 => ?_)
              · have h := ht_91 c_91
                refine lv_iinc (v := (v3_58 + (1 : Int32))) (lv' := [(3, .int (v3_58 + (1 : Int32))), (2, .int v2_56), (0, .ref (q 0)), (1, .ref (q2 0))]) hx hb dX3_look_118 hl (k := 0) rfl rfl (by decide) rfl (fun ls hl => ?_)
                refine lv_goto (tgt := 58) hx hb dX3_look_121 (by decide) ?_
                exact ih2 (v3_58 + (1 : Int32)) w_58 _ _ _ h hW (lv_sub hl [0, 1, 2, 3] rfl)
              · have h := hf_91 c_91
                refine lv_aload_n hx hb dX3_look_94 rfl (lv_at hl 2 rfl) ?_
                refine x_get F hW 0 rfl fa_X3_17 rfl dX3_look_95 ?_
                refine lv_iload_n hx hb dX3_look_98 rfl (lv_at hl 1 rfl) ?_
                refine lv_dup2_11 hx hb dX3_look_99 rfl rfl ?_
                obtain ⟨g_100, h⟩ := of_guard h
                refine x_iald F hW 2 rfl g_100 dX3_look_100 ?_
                refine lv_iconst (v := (1 : Int32)) hx hb dX3_look_101 (by decide) ?_
                refine lv_iload_n hx hb dX3_look_102 rfl (lv_at hl 0 rfl) ?_
                refine lv_ishl hx hb dX3_look_103 ?_
                refine lv_ior hx hb dX3_look_104 ?_
                obtain ⟨g_105, h⟩ := of_guard h
                refine x_iast F hW 2 rfl g_105 (ws' := cSG G q (w_58.1, (upd w_58.2.1 v2_56.toNatClampNeg ((w_58.2.1 v2_56.toNatClampNeg) ||| ((1 : Int32) <<< (v3_58 &&& 31)))), w_58.2.2.1, w_58.2.2.2) ++ cLD G q2 w2) rfl dX3_look_105 (fun H locs hW => ?_)
                refine lv_aload_n hx hb dX3_look_106 rfl (lv_at hl 2 rfl) ?_
                refine x_get F hW 0 rfl fa_X3_17 rfl dX3_look_107 ?_
                refine lv_iload_n hx hb dX3_look_110 rfl (lv_at hl 0 rfl) ?_
                refine lv_dup2_11 hx hb dX3_look_111 rfl rfl ?_
                obtain ⟨g_112, h⟩ := of_guard h
                refine x_iald F hW 2 rfl g_112 dX3_look_112 ?_
                refine lv_iconst (v := (1 : Int32)) hx hb dX3_look_113 (by decide) ?_
                refine lv_iload_n hx hb dX3_look_114 rfl (lv_at hl 1 rfl) ?_
                refine lv_ishl hx hb dX3_look_115 ?_
                refine lv_ior hx hb dX3_look_116 ?_
                obtain ⟨g_117, h⟩ := of_guard h
                refine x_iast F hW 2 rfl g_117 (ws' := cSG G q (w_58.1, (upd (upd w_58.2.1 v2_56.toNatClampNeg ((w_58.2.1 v2_56.toNatClampNeg) ||| ((1 : Int32) <<< (v3_58 &&& 31)))) v3_58.toNatClampNeg (((upd w_58.2.1 v2_56.toNatClampNeg ((w_58.2.1 v2_56.toNatClampNeg) ||| ((1 : Int32) <<< (v3_58 &&& 31)))) v3_58.toNatClampNeg) ||| ((1 : Int32) <<< (v2_56 &&& 31)))), w_58.2.2.1, w_58.2.2.2) ++ cLD G q2 w2) rfl dX3_look_117 (fun H locs hW => ?_)
                refine lv_iinc (v := (v3_58 + (1 : Int32))) (lv' := [(3, .int (v3_58 + (1 : Int32))), (2, .int v2_56), (0, .ref (q 0)), (1, .ref (q2 0))]) hx hb dX3_look_118 hl (k := 0) rfl rfl (by decide) rfl (fun ls hl => ?_)
                refine lv_goto (tgt := 58) hx hb dX3_look_121 (by decide) ?_
                exact ih2 (v3_58 + (1 : Int32)) (w_58.1, (upd (upd w_58.2.1 v2_56.toNatClampNeg ((w_58.2.1 v2_56.toNatClampNeg) ||| ((1 : Int32) <<< (v3_58 &&& 31)))) v3_58.toNatClampNeg (((upd w_58.2.1 v2_56.toNatClampNeg ((w_58.2.1 v2_56.toNatClampNeg) ||| ((1 : Int32) <<< (v3_58 &&& 31)))) v3_58.toNatClampNeg) ||| ((1 : Int32) <<< (v2_56 &&& 31)))), w_58.2.2.1, w_58.2.2.2) _ _ _ h hW (lv_sub hl [0, 1, 2, 3] rfl)
        exact L2 200 (0 : Int32) w_56 _ _ _ h hW (lv_sub hl [0, 1, 2, 3] rfl)
      refine lv_iload_n hx hb dX3_look_7 rfl (lv_at hl 0 rfl) ?_
      refine lv_aload_n hx hb dX3_look_8 rfl (lv_at hl 1 rfl) ?_
      refine x_get F hW 0 rfl fa_X3_31 rfl dX3_look_9 ?_
      obtain ⟨ht_12, hf_12⟩ := of_ite h
      refine lv_icmp_ge (tgt := 130) hx hb dX3_look_12 (by decide) (fun c_12 => ?_) (fun c_12 => ?_)
      · have h := ht_12 c_12
        obtain rfl := Option.some.inj h
        exact x_retv F hr hW dX3_look_130
      · have h := hf_12 c_12
        refine lv_aload_n hx hb dX3_look_15 rfl (lv_at hl 1 rfl) ?_
        refine x_get F hW 0 rfl fa_X3_17 rfl dX3_look_16 ?_
        refine lv_iload_n hx hb dX3_look_19 rfl (lv_at hl 0 rfl) ?_
        refine lv_iconst (v := (0 : Int32)) hx hb dX3_look_20 (by decide) ?_
        obtain ⟨g_21, h⟩ := of_guard h
        refine x_iast F hW 2 rfl g_21 (ws' := cSG G q (w_7.1, (upd w_7.2.1 v2_7.toNatClampNeg (0 : Int32)), w_7.2.2.1, w_7.2.2.2) ++ cLD G q2 w2) rfl dX3_look_21 (fun H locs hW => ?_)
        refine lv_aload_n hx hb dX3_look_22 rfl (lv_at hl 2 rfl) ?_
        refine lv_aload_n hx hb dX3_look_23 rfl (lv_at hl 2 rfl) ?_
        refine x_get F hW 3 rfl fa_X3_39 rfl dX3_look_24 ?_
        refine lv_iload_n hx hb dX3_look_27 rfl (lv_at hl 0 rfl) ?_
        obtain ⟨g_28, h⟩ := of_guard h
        refine x_iald F hW 7 rfl g_28 dX3_look_28 ?_
        refine lv_aload_n hx hb dX3_look_29 rfl (lv_at hl 1 rfl) ?_
        refine x_get F hW 0 rfl fa_X3_11 rfl dX3_look_30 ?_
        refine lv_iload_n hx hb dX3_look_33 rfl (lv_at hl 0 rfl) ?_
        obtain ⟨g_34, h⟩ := of_guard h
        refine x_iald F hW 1 rfl g_34 dX3_look_34 ?_
        refine lv_bipush (v := (20 : Int32)) hx hb dX3_look_35 (by decide) ?_
        refine lv_iconst (v := (0 : Int32)) hx hb dX3_look_37 (by decide) ?_
        obtain ⟨p_38, hc_38, h⟩ := of_bind h
        refine x_Si (av := [.ref (q2 0), .int (w2.2.2.2.1 v2_7.toNatClampNeg), .int (w_7.1 v2_7.toNatClampNeg), .int (20 : Int32), .int (0 : Int32)]) F hW (c_X3_isOpen l G q2 w2 (w2.2.2.2.1 v2_7.toNatClampNeg) (w_7.1 v2_7.toNatClampNeg) (20 : Int32) (0 : Int32) _ hc_38) [3, 4, 5, 6, 7, 8] rfl rfl (by intro q; cases q) cs_X3_42 rfl rfl hl (Nat.le_of_ble_eq_true rfl) ⟨Nat.le_of_ble_eq_true rfl, Nat.le_of_ble_eq_true rfl⟩ ⟨rfl, rfl⟩ ⟨Nat.le_of_ble_eq_true rfl, Nat.le_of_ble_eq_true rfl⟩ dX3_look_38 rfl [none, none, none, some 0, some 1, some 2, some 3, some 4, some 5] rfl (ws' := cSG G q (w_7.1, (upd w_7.2.1 v2_7.toNatClampNeg (0 : Int32)), w_7.2.2.1, w_7.2.2.2) ++ cLD G q2 w2) rfl (fun H locs hW => ?_)
        obtain ⟨ht_41, hf_41⟩ := of_ite h
        refine lv_if_eq (tgt := 56) hx hb dX3_look_41 (by decide) (fun c_41 => ?_) (fun c_41 => ?_)
        · have h := ht_41 c_41
          exact J1 v2_7 (w_7.1, (upd w_7.2.1 v2_7.toNatClampNeg (0 : Int32)), w_7.2.2.1, w_7.2.2.2) _ _ _ h hW (lv_sub hl [0, 1, 2] rfl)
        · have h := hf_41 c_41
          refine lv_aload_n hx hb dX3_look_44 rfl (lv_at hl 1 rfl) ?_
          refine lv_dup hx hb dX3_look_45 rfl ?_
          refine x_get F hW 0 rfl fa_X3_36 rfl dX3_look_46 ?_
          refine lv_iconst (v := (1 : Int32)) hx hb dX3_look_49 (by decide) ?_
          refine lv_iload_n hx hb dX3_look_50 rfl (lv_at hl 0 rfl) ?_
          refine lv_ishl hx hb dX3_look_51 ?_
          refine lv_ior hx hb dX3_look_52 ?_
          refine x_put F hW 0 rfl fp_X3_36 rfl rfl (Nat.le_of_ble_eq_true rfl) (ws' := cSG G q (w_7.1, (upd w_7.2.1 v2_7.toNatClampNeg (0 : Int32)), (w_7.2.2.1 ||| ((1 : Int32) <<< (v2_7 &&& 31))), w_7.2.2.2) ++ cLD G q2 w2) rfl dX3_look_53 (fun H locs hW => ?_)
          exact J1 v2_7 (w_7.1, (upd w_7.2.1 v2_7.toNatClampNeg (0 : Int32)), (w_7.2.2.1 ||| ((1 : Int32) <<< (v2_7 &&& 31))), w_7.2.2.2) _ _ _ h hW (lv_sub hl [0, 1, 2] rfl)
  exact L0 200 (0 : Int32) (w.1, w.2.1, (0 : Int32), w.2.2.2) _ _ _ h hW (lv_sub hl [0, 1, 2] rfl)
def f_X3_measure_10 (w2 : LD) : Nat → Int32 → SG → Option (SG)
  | 0, _, _ => none
  | n0 + 1, v2_10, w_10 =>
    if w_10.2.2.2 ≤ v2_10 then
    some w_10
    else
    Option.bind (f_X1_eyeOf w2 v2_10) fun p_25 =>
    if inR v2_10 8 then
    f_X3_measure_10 w2 n0 (v2_10 + (1 : Int32)) ((upd w_10.1 v2_10.toNatClampNeg p_25), w_10.2.1, w_10.2.2.1, w_10.2.2.2)
    else none
def f_X3_measure (w : SG) (w2 : LD) : Option (SG) :=
  f_X3_measure_10 w2 200 (0 : Int32) (w.1, w.2.1, w.2.2.1, w2.2.2.2.2.2.1)
abbrev rmX3_measure : Room := { frames := 2, cells := 0, slots := 0, locals := 42 }
set_option maxRecDepth 100000 in
set_option maxHeartbeats 4000000 in
theorem c_X3_measure (l : Launch) (G : EnT) (q : Nat → Nat) (w : SG) (q2 : Nat → Nat) (w2 : LD) (o : SG) (h : f_X3_measure w w2 = some o) : Mv l yX3_measure rmX3_measure cX3_measure 3 none G false [.ref (q 0), .ref (q2 0)] (cSG G q w ++ cLD G q2 w2) (cSG G q o ++ cLD G q2 w2) := by
  refine Mv_of (by decide) (Nat.le_of_ble_eq_true rfl) ?_
  intro p e s m below meth c A0 F hr hW ls hl
  obtain ⟨hx, hb, hml, hown, hts, hK, hNW, hlocks, hA, hSX⟩ := id F
  have hl : lv_has ls 3 [(0, .ref (q 0)), (1, .ref (q2 0))] := hl
  have hW : Wd G A0 s (cSG G q w ++ cLD G q2 w2) s.heap [] := hW
  show W p l e rmX3_measure s m ([.ref (q 0), .ref (q2 0)] : List Value).toArray below meth c s.heap [] 0 0 (Qv below G (cSG G q o ++ cLD G q2 w2) A0 ([.ref (q 0), .ref (q2 0)] : List Value).toArray s) (F0 m 0 ls [])
  refine lv_aload_n hx hb dX3_measure_0 rfl (lv_at hl 0 rfl) ?_
  refine lv_aload_n hx hb dX3_measure_1 rfl (lv_at hl 1 rfl) ?_
  refine x_get F hW 3 rfl fa_X3_27 rfl dX3_measure_2 ?_
  refine x_put F hW 0 rfl fp_X3_31 rfl rfl (Nat.le_of_ble_eq_true rfl) (ws' := cSG G q (w.1, w.2.1, w.2.2.1, w2.2.2.2.2.2.1) ++ cLD G q2 w2) rfl dX3_measure_5 (fun H locs hW => ?_)
  refine lv_iconst (v := (0 : Int32)) hx hb dX3_measure_8 (by decide) ?_
  refine lv_istore_n (lv' := [(2, .int (0 : Int32)), (0, .ref (q 0)), (1, .ref (q2 0))]) hx hb dX3_measure_9 rfl hl (by decide) rfl (fun ls hl => ?_)
  have L0 : ∀ (n0 : Nat) (v2_10 : Int32) (w_10 : SG) (H : Heap) (locs : List Loc) (ls : Array Slot), f_X3_measure_10 w2 n0 v2_10 w_10 = some o → Wd G A0 s (cSG G q w_10 ++ cLD G q2 w2) H locs → lv_has ls 3 [(2, .int v2_10), (0, .ref (q 0)), (1, .ref (q2 0))] → W p l e rmX3_measure s m ([.ref (q 0), .ref (q2 0)] : List Value).toArray below meth c H locs 0 0 (Qv below G (cSG G q o ++ cLD G q2 w2) A0 ([.ref (q 0), .ref (q2 0)] : List Value).toArray s) (F0 m 10 ls []) := by
    intro n0
    induction n0 with
    | zero => intro v2_10 w_10 H locs ls h; cases (show (none : Option (SG)) = some o from h)
    | succ n0 ih0 =>
      intro v2_10 w_10 H locs ls h hW hl
      refine lv_iload_n hx hb dX3_measure_10 rfl (lv_at hl 0 rfl) ?_
      refine lv_aload_n hx hb dX3_measure_11 rfl (lv_at hl 1 rfl) ?_
      refine x_get F hW 0 rfl fa_X3_31 rfl dX3_measure_12 ?_
      obtain ⟨ht_15, hf_15⟩ := of_ite h
      refine lv_icmp_ge (tgt := 35) hx hb dX3_measure_15 (by decide) (fun c_15 => ?_) (fun c_15 => ?_)
      · have h := ht_15 c_15
        obtain rfl := Option.some.inj h
        exact x_retv F hr hW dX3_measure_35
      · have h := hf_15 c_15
        refine lv_aload_n hx hb dX3_measure_18 rfl (lv_at hl 1 rfl) ?_
        refine x_get F hW 0 rfl fa_X3_11 rfl dX3_measure_19 ?_
        refine lv_iload_n hx hb dX3_measure_22 rfl (lv_at hl 0 rfl) ?_
        refine lv_aload_n hx hb dX3_measure_23 rfl (lv_at hl 2 rfl) ?_
        refine lv_iload_n hx hb dX3_measure_24 rfl (lv_at hl 0 rfl) ?_
        obtain ⟨p_25, hc_25, h⟩ := of_bind h
        refine x_Vi (av := [.ref (q2 0), .int v2_10]) (As := [.int v2_10]) F hW (c_X1_eyeOf l G q2 w2 v2_10 _ hc_25) [3, 4, 5, 6, 7, 8] rfl rfl (by intro q; cases q) cv_X3_32 rfl ⟨_, rfl, rfl⟩ rfl rfl rfl hl (Nat.le_of_ble_eq_true rfl) ⟨Nat.le_of_ble_eq_true rfl, Nat.le_of_ble_eq_true rfl⟩ ⟨rfl, rfl⟩ ⟨Nat.le_of_ble_eq_true rfl, Nat.le_of_ble_eq_true rfl⟩ dX3_measure_25 rfl [none, none, none, some 0, some 1, some 2, some 3, some 4, some 5] rfl (ws' := cSG G q w_10 ++ cLD G q2 w2) rfl (fun H locs hW => ?_)
        obtain ⟨g_28, h⟩ := of_guard h
        refine x_iast F hW 1 rfl g_28 (ws' := cSG G q ((upd w_10.1 v2_10.toNatClampNeg p_25), w_10.2.1, w_10.2.2.1, w_10.2.2.2) ++ cLD G q2 w2) rfl dX3_measure_28 (fun H locs hW => ?_)
        refine lv_iinc (v := (v2_10 + (1 : Int32))) (lv' := [(2, .int (v2_10 + (1 : Int32))), (0, .ref (q 0)), (1, .ref (q2 0))]) hx hb dX3_measure_29 hl (k := 0) rfl rfl (by decide) rfl (fun ls hl => ?_)
        refine lv_goto (tgt := 10) hx hb dX3_measure_32 (by decide) ?_
        exact ih0 (v2_10 + (1 : Int32)) ((upd w_10.1 v2_10.toNatClampNeg p_25), w_10.2.1, w_10.2.2.1, w_10.2.2.2) _ _ _ h hW (lv_sub hl [0, 1, 2] rfl)
  exact L0 200 (0 : Int32) (w.1, w.2.1, w.2.2.1, w2.2.2.2.2.2.1) _ _ _ h hW (lv_sub hl [0, 1, 2] rfl)
def f_X3_lookOver (w : SG) (w2 : LD) : Option (SG) :=
  Option.bind (f_X3_measure w w2) fun p_2 =>
    Option.bind (f_X3_look p_2 w2) fun p_7 =>
    some p_7
abbrev rmX3_lookOver : Room := { frames := 3, cells := 0, slots := 0, locals := 78 }
set_option maxRecDepth 100000 in
set_option maxHeartbeats 4000000 in
theorem c_X3_lookOver (l : Launch) (G : EnT) (q : Nat → Nat) (w : SG) (q2 : Nat → Nat) (w2 : LD) (o : SG) (h : f_X3_lookOver w w2 = some o) : Mv l yX3_lookOver rmX3_lookOver cX3_lookOver 2 none G false [.ref (q 0), .ref (q2 0)] (cSG G q w ++ cLD G q2 w2) (cSG G q o ++ cLD G q2 w2) := by
  refine Mv_of (by decide) (Nat.le_of_ble_eq_true rfl) ?_
  intro p e s m below meth c A0 F hr hW ls hl
  obtain ⟨hx, hb, hml, hown, hts, hK, hNW, hlocks, hA, hSX⟩ := id F
  have hl : lv_has ls 2 [(0, .ref (q 0)), (1, .ref (q2 0))] := hl
  have hW : Wd G A0 s (cSG G q w ++ cLD G q2 w2) s.heap [] := hW
  show W p l e rmX3_lookOver s m ([.ref (q 0), .ref (q2 0)] : List Value).toArray below meth c s.heap [] 0 0 (Qv below G (cSG G q o ++ cLD G q2 w2) A0 ([.ref (q 0), .ref (q2 0)] : List Value).toArray s) (F0 m 0 ls [])
  refine lv_aload_n hx hb dX3_lookOver_0 rfl (lv_at hl 0 rfl) ?_
  refine lv_aload_n hx hb dX3_lookOver_1 rfl (lv_at hl 1 rfl) ?_
  obtain ⟨p_2, hc_2, h⟩ := of_bind h
  refine x_Vv (av := [.ref (q 0), .ref (q2 0)]) (As := [.ref (q2 0)]) F hW (c_X3_measure l G q w q2 w2 _ hc_2) [0, 1, 2, 3, 4, 5, 6, 7, 8] rfl rfl (by intro q; cases q) cv_X3_20 rfl ⟨_, rfl, rfl⟩ rfl rfl rfl hl (Nat.le_of_ble_eq_true rfl) ⟨Nat.le_of_ble_eq_true rfl, Nat.le_of_ble_eq_true rfl⟩ ⟨rfl, rfl⟩ ⟨Nat.le_of_ble_eq_true rfl, Nat.le_of_ble_eq_true rfl⟩ dX3_lookOver_2 rfl [some 0, some 1, some 2, some 3, some 4, some 5, some 6, some 7, some 8] rfl (ws' := cSG G q p_2 ++ cLD G q2 w2) rfl (fun H locs hW => ?_)
  refine lv_aload_n hx hb dX3_lookOver_5 rfl (lv_at hl 0 rfl) ?_
  refine lv_aload_n hx hb dX3_lookOver_6 rfl (lv_at hl 1 rfl) ?_
  obtain ⟨p_7, hc_7, h⟩ := of_bind h
  refine x_Vv (av := [.ref (q 0), .ref (q2 0)]) (As := [.ref (q2 0)]) F hW (c_X3_look l G q p_2 q2 w2 _ hc_7) [0, 1, 2, 3, 4, 5, 6, 7, 8] rfl rfl (by intro q; cases q) cv_X3_24 rfl ⟨_, rfl, rfl⟩ rfl rfl rfl hl (Nat.le_of_ble_eq_true rfl) ⟨Nat.le_of_ble_eq_true rfl, Nat.le_of_ble_eq_true rfl⟩ ⟨rfl, rfl⟩ ⟨Nat.le_of_ble_eq_true rfl, Nat.le_of_ble_eq_true rfl⟩ dX3_lookOver_7 rfl [some 0, some 1, some 2, some 3, some 4, some 5, some 6, some 7, some 8] rfl (ws' := cSG G q p_7 ++ cLD G q2 w2) rfl (fun H locs hW => ?_)
  obtain rfl := Option.some.inj h
  exact x_retv F hr hW dX3_lookOver_10
def f_X3_seeing_5 (w : SG) (x1 : Int32) (x2 : Int32) : Nat → Int32 → Int32 → Option (Int32)
  | 0, _, _ => none
  | n0 + 1, v4_5, v3_5 =>
    if w.2.2.2 ≤ v4_5 then
    some v3_5
    else
    Option.bind (f_X5_has x1 v4_5) fun p_17 =>
    if p_17 = 0 then
    f_X3_seeing_5 w x1 x2 n0 (v4_5 + (1 : Int32)) v3_5
    else
    if inR v4_5 8 then
    if ((w.2.1 v4_5.toNatClampNeg) &&& x2) = 0 then
    f_X3_seeing_5 w x1 x2 n0 (v4_5 + (1 : Int32)) v3_5
    else
    nm (v3_5 ||| ((1 : Int32) <<< (v4_5 &&& 31))) fun x_41 =>
    f_X3_seeing_5 w x1 x2 n0 (v4_5 + (1 : Int32)) x_41
    else none
def f_X3_seeing (w : SG) (x1 : Int32) (x2 : Int32) : Option (Int32) :=
  f_X3_seeing_5 w x1 x2 200 (0 : Int32) (0 : Int32)
abbrev rmX3_seeing : Room := { frames := 1, cells := 0, slots := 0, locals := 21 }
set_option maxRecDepth 100000 in
set_option maxHeartbeats 4000000 in
theorem c_X3_seeing (l : Launch) (G : EnT) (q : Nat → Nat) (w : SG) (x1 : Int32) (x2 : Int32) (o : Int32) (h : f_X3_seeing w x1 x2 = some o) : Mi l yX3_seeing rmX3_seeing cX3_seeing 5 (some .int) G false [.ref (q 0), .int x1, .int x2] (cSG G q w) o (cSG G q w) := by
  refine Mi_of (by decide) (Nat.le_of_ble_eq_true rfl) ?_
  intro p e s m below meth c A0 F hr hW ls hl
  obtain ⟨hx, hb, hml, hown, hts, hK, hNW, hlocks, hA, hSX⟩ := id F
  have hl : lv_has ls 5 [(0, .ref (q 0)), (1, .int x1), (2, .int x2)] := hl
  have hW : Wd G A0 s (cSG G q w) s.heap [] := hW
  show W p l e rmX3_seeing s m ([.ref (q 0), .int x1, .int x2] : List Value).toArray below meth c s.heap [] 0 0 (Qi below G (cSG G q w) o A0 ([.ref (q 0), .int x1, .int x2] : List Value).toArray s) (F0 m 0 ls [])
  refine lv_iconst (v := (0 : Int32)) hx hb dX3_seeing_0 (by decide) ?_
  refine lv_istore_n (lv' := [(3, .int (0 : Int32)), (0, .ref (q 0)), (1, .int x1), (2, .int x2)]) hx hb dX3_seeing_1 rfl hl (by decide) rfl (fun ls hl => ?_)
  refine lv_iconst (v := (0 : Int32)) hx hb dX3_seeing_2 (by decide) ?_
  refine lv_istore (lv' := [(4, .int (0 : Int32)), (3, .int (0 : Int32)), (0, .ref (q 0)), (1, .int x1), (2, .int x2)]) hx hb dX3_seeing_3 hl (by decide) rfl (fun ls hl => ?_)
  have L0 : ∀ (n0 : Nat) (v4_5 : Int32) (v3_5 : Int32) (H : Heap) (locs : List Loc) (ls : Array Slot), f_X3_seeing_5 w x1 x2 n0 v4_5 v3_5 = some o → Wd G A0 s (cSG G q w) H locs → lv_has ls 5 [(4, .int v4_5), (3, .int v3_5), (0, .ref (q 0)), (1, .int x1), (2, .int x2)] → W p l e rmX3_seeing s m ([.ref (q 0), .int x1, .int x2] : List Value).toArray below meth c H locs 0 0 (Qi below G (cSG G q w) o A0 ([.ref (q 0), .int x1, .int x2] : List Value).toArray s) (F0 m 5 ls []) := by
    intro n0
    induction n0 with
    | zero => intro v4_5 v3_5 H locs ls h; cases (show (none : Option (Int32)) = some o from h)
    | succ n0 ih0 =>
      intro v4_5 v3_5 H locs ls h hW hl
      refine lv_iload hx hb dX3_seeing_5 (lv_at hl 0 rfl) ?_
      refine lv_aload_n hx hb dX3_seeing_7 rfl (lv_at hl 2 rfl) ?_
      refine x_get F hW 0 rfl fa_X3_31 rfl dX3_seeing_8 ?_
      obtain ⟨ht_11, hf_11⟩ := of_ite h
      refine lv_icmp_ge (tgt := 48) hx hb dX3_seeing_11 (by decide) (fun c_11 => ?_) (fun c_11 => ?_)
      · have h := ht_11 c_11
        refine lv_iload_n hx hb dX3_seeing_48 rfl (lv_at hl 1 rfl) ?_
        obtain rfl := Option.some.inj h
        exact x_reti F hr hW rfl dX3_seeing_49
      · have h := hf_11 c_11
        refine lv_iload_n hx hb dX3_seeing_14 rfl (lv_at hl 3 rfl) ?_
        refine lv_iload hx hb dX3_seeing_15 (lv_at hl 0 rfl) ?_
        obtain ⟨p_17, hc_17, h⟩ := of_bind h
        refine x_Ni (av := [.int x1, .int v4_5]) F hW (c_X5_has l G x1 v4_5 _ hc_17) [] rfl rfl (by intro q; cases q) cn_X3_68 rfl rfl hl (Nat.le_of_ble_eq_true rfl) ⟨Nat.le_of_ble_eq_true rfl, Nat.le_of_ble_eq_true rfl⟩ ⟨rfl, rfl⟩ ⟨Nat.le_of_ble_eq_true rfl, Nat.le_of_ble_eq_true rfl⟩ dX3_seeing_17 rfl [none, none, none] rfl (ws' := cSG G q w) rfl (fun H locs hW => ?_)
        obtain ⟨ht_20, hf_20⟩ := of_ite h
        refine lv_if_eq (tgt := 42) hx hb dX3_seeing_20 (by decide) (fun c_20 => ?_) (fun c_20 => ?_)
        · have h := ht_20 c_20
          refine lv_iinc (v := (v4_5 + (1 : Int32))) (lv' := [(4, .int (v4_5 + (1 : Int32))), (3, .int v3_5), (0, .ref (q 0)), (1, .int x1), (2, .int x2)]) hx hb dX3_seeing_42 hl (k := 0) rfl rfl (by decide) rfl (fun ls hl => ?_)
          refine lv_goto (tgt := 5) hx hb dX3_seeing_45 (by decide) ?_
          exact ih0 (v4_5 + (1 : Int32)) v3_5 _ _ _ h hW (lv_sub hl [0, 1, 2, 3, 4] rfl)
        · have h := hf_20 c_20
          refine lv_aload_n hx hb dX3_seeing_23 rfl (lv_at hl 2 rfl) ?_
          refine x_get F hW 0 rfl fa_X3_17 rfl dX3_seeing_24 ?_
          refine lv_iload hx hb dX3_seeing_27 (lv_at hl 0 rfl) ?_
          obtain ⟨g_29, h⟩ := of_guard h
          refine x_iald F hW 2 rfl g_29 dX3_seeing_29 ?_
          refine lv_iload_n hx hb dX3_seeing_30 rfl (lv_at hl 4 rfl) ?_
          refine lv_iand hx hb dX3_seeing_31 ?_
          obtain ⟨ht_32, hf_32⟩ := of_ite h
          refine lv_if_eq (tgt := 42) hx hb dX3_seeing_32 (by decide) (fun c_32 => ?_) (fun c_32 => ?_)
          · have h := ht_32 c_32
            refine lv_iinc (v := (v4_5 + (1 : Int32))) (lv' := [(4, .int (v4_5 + (1 : Int32))), (3, .int v3_5), (0, .ref (q 0)), (1, .int x1), (2, .int x2)]) hx hb dX3_seeing_42 hl (k := 0) rfl rfl (by decide) rfl (fun ls hl => ?_)
            refine lv_goto (tgt := 5) hx hb dX3_seeing_45 (by decide) ?_
            exact ih0 (v4_5 + (1 : Int32)) v3_5 _ _ _ h hW (lv_sub hl [0, 1, 2, 3, 4] rfl)
          · have h := hf_32 c_32
            refine lv_iload_n hx hb dX3_seeing_35 rfl (lv_at hl 1 rfl) ?_
            refine lv_iconst (v := (1 : Int32)) hx hb dX3_seeing_36 (by decide) ?_
            refine lv_iload hx hb dX3_seeing_37 (lv_at hl 0 rfl) ?_
            refine lv_ishl hx hb dX3_seeing_39 ?_
            refine lv_ior hx hb dX3_seeing_40 ?_
            obtain ⟨x_41, e_x_41, h⟩ := of_nm h
            refine x_topi e_x_41 ?_
            refine lv_istore_n (lv' := [(3, .int x_41), (4, .int v4_5), (0, .ref (q 0)), (1, .int x1), (2, .int x2)]) hx hb dX3_seeing_41 rfl hl (by decide) rfl (fun ls hl => ?_)
            refine lv_iinc (v := (v4_5 + (1 : Int32))) (lv' := [(4, .int (v4_5 + (1 : Int32))), (3, .int x_41), (0, .ref (q 0)), (1, .int x1), (2, .int x2)]) hx hb dX3_seeing_42 hl (k := 1) rfl rfl (by decide) rfl (fun ls hl => ?_)
            refine lv_goto (tgt := 5) hx hb dX3_seeing_45 (by decide) ?_
            exact ih0 (v4_5 + (1 : Int32)) x_41 _ _ _ h hW (lv_sub hl [0, 1, 2, 3, 4] rfl)
  exact L0 200 (0 : Int32) (0 : Int32) _ _ _ h hW (lv_sub hl [0, 1, 2, 3, 4] rfl)
def f_X3_hanging_12 (w : SG) (x1 : Int32) : Nat → Int32 → Int32 → Int32 → Option (Int32)
  | 0, _, _, _ => none
  | n0 + 1, v4_12, v3_12, v2_12 =>
    if w.2.2.2 ≤ v4_12 then
    some v2_12
    else
    if v3_12 = 0 then
    some v2_12
    else
    Option.bind (f_X3_seeing w (x1 &&& (v2_12 ^^^ (-1 : Int32))) v3_12) fun p_32 =>
    nm (v2_12 ||| p_32) fun x_39 =>
    f_X3_hanging_12 w x1 n0 (v4_12 + (1 : Int32)) p_32 x_39
def f_X3_hanging (w : SG) (x1 : Int32) : Option (Int32) :=
  nm (x1 &&& w.2.2.1) fun x_6 =>
    f_X3_hanging_12 w x1 200 (0 : Int32) x_6 x_6
abbrev rmX3_hanging : Room := { frames := 2, cells := 0, slots := 0, locals := 45 }
set_option maxRecDepth 100000 in
set_option maxHeartbeats 4000000 in
theorem c_X3_hanging (l : Launch) (G : EnT) (q : Nat → Nat) (w : SG) (x1 : Int32) (o : Int32) (h : f_X3_hanging w x1 = some o) : Mi l yX3_hanging rmX3_hanging cX3_hanging 5 (some .int) G false [.ref (q 0), .int x1] (cSG G q w) o (cSG G q w) := by
  refine Mi_of (by decide) (Nat.le_of_ble_eq_true rfl) ?_
  intro p e s m below meth c A0 F hr hW ls hl
  obtain ⟨hx, hb, hml, hown, hts, hK, hNW, hlocks, hA, hSX⟩ := id F
  have hl : lv_has ls 5 [(0, .ref (q 0)), (1, .int x1)] := hl
  have hW : Wd G A0 s (cSG G q w) s.heap [] := hW
  show W p l e rmX3_hanging s m ([.ref (q 0), .int x1] : List Value).toArray below meth c s.heap [] 0 0 (Qi below G (cSG G q w) o A0 ([.ref (q 0), .int x1] : List Value).toArray s) (F0 m 0 ls [])
  refine lv_iload_n hx hb dX3_hanging_0 rfl (lv_at hl 1 rfl) ?_
  refine lv_aload_n hx hb dX3_hanging_1 rfl (lv_at hl 0 rfl) ?_
  refine x_get F hW 0 rfl fa_X3_36 rfl dX3_hanging_2 ?_
  refine lv_iand hx hb dX3_hanging_5 ?_
  obtain ⟨x_6, e_x_6, h⟩ := of_nm h
  refine x_topi e_x_6 ?_
  refine lv_istore_n (lv' := [(2, .int x_6), (0, .ref (q 0)), (1, .int x1)]) hx hb dX3_hanging_6 rfl hl (by decide) rfl (fun ls hl => ?_)
  refine lv_iload_n hx hb dX3_hanging_7 rfl (lv_at hl 0 rfl) ?_
  refine lv_istore_n (lv' := [(3, .int x_6), (2, .int x_6), (0, .ref (q 0)), (1, .int x1)]) hx hb dX3_hanging_8 rfl hl (by decide) rfl (fun ls hl => ?_)
  refine lv_iconst (v := (0 : Int32)) hx hb dX3_hanging_9 (by decide) ?_
  refine lv_istore (lv' := [(4, .int (0 : Int32)), (3, .int x_6), (2, .int x_6), (0, .ref (q 0)), (1, .int x1)]) hx hb dX3_hanging_10 hl (by decide) rfl (fun ls hl => ?_)
  have L0 : ∀ (n0 : Nat) (v4_12 : Int32) (v3_12 : Int32) (v2_12 : Int32) (H : Heap) (locs : List Loc) (ls : Array Slot), f_X3_hanging_12 w x1 n0 v4_12 v3_12 v2_12 = some o → Wd G A0 s (cSG G q w) H locs → lv_has ls 5 [(4, .int v4_12), (3, .int v3_12), (2, .int v2_12), (0, .ref (q 0)), (1, .int x1)] → W p l e rmX3_hanging s m ([.ref (q 0), .int x1] : List Value).toArray below meth c H locs 0 0 (Qi below G (cSG G q w) o A0 ([.ref (q 0), .int x1] : List Value).toArray s) (F0 m 12 ls []) := by
    intro n0
    induction n0 with
    | zero => intro v4_12 v3_12 v2_12 H locs ls h; cases (show (none : Option (Int32)) = some o from h)
    | succ n0 ih0 =>
      intro v4_12 v3_12 v2_12 H locs ls h hW hl
      refine lv_iload hx hb dX3_hanging_12 (lv_at hl 0 rfl) ?_
      refine lv_aload_n hx hb dX3_hanging_14 rfl (lv_at hl 3 rfl) ?_
      refine x_get F hW 0 rfl fa_X3_31 rfl dX3_hanging_15 ?_
      obtain ⟨ht_18, hf_18⟩ := of_ite h
      refine lv_icmp_ge (tgt := 46) hx hb dX3_hanging_18 (by decide) (fun c_18 => ?_) (fun c_18 => ?_)
      · have h := ht_18 c_18
        refine lv_iload_n hx hb dX3_hanging_46 rfl (lv_at hl 2 rfl) ?_
        obtain rfl := Option.some.inj h
        exact x_reti F hr hW rfl dX3_hanging_47
      · have h := hf_18 c_18
        refine lv_iload_n hx hb dX3_hanging_21 rfl (lv_at hl 1 rfl) ?_
        obtain ⟨ht_22, hf_22⟩ := of_ite h
        refine lv_if_eq (tgt := 46) hx hb dX3_hanging_22 (by decide) (fun c_22 => ?_) (fun c_22 => ?_)
        · have h := ht_22 c_22
          refine lv_iload_n hx hb dX3_hanging_46 rfl (lv_at hl 2 rfl) ?_
          obtain rfl := Option.some.inj h
          exact x_reti F hr hW rfl dX3_hanging_47
        · have h := hf_22 c_22
          refine lv_aload_n hx hb dX3_hanging_25 rfl (lv_at hl 3 rfl) ?_
          refine lv_iload_n hx hb dX3_hanging_26 rfl (lv_at hl 4 rfl) ?_
          refine lv_iload_n hx hb dX3_hanging_27 rfl (lv_at hl 2 rfl) ?_
          refine lv_iconst (v := (-1 : Int32)) hx hb dX3_hanging_28 (by decide) ?_
          refine lv_ixor hx hb dX3_hanging_29 ?_
          refine lv_iand hx hb dX3_hanging_30 ?_
          refine lv_iload_n hx hb dX3_hanging_31 rfl (lv_at hl 1 rfl) ?_
          obtain ⟨p_32, hc_32, h⟩ := of_bind h
          refine x_Vi (av := [.ref (q 0), .int (x1 &&& (v2_12 ^^^ (-1 : Int32))), .int v3_12]) (As := [.int (x1 &&& (v2_12 ^^^ (-1 : Int32))), .int v3_12]) F hW (c_X3_seeing l G q w (x1 &&& (v2_12 ^^^ (-1 : Int32))) v3_12 _ hc_32) [0, 1, 2] rfl rfl (by intro q; cases q) cv_X3_65 rfl ⟨_, rfl, rfl⟩ rfl rfl rfl hl (Nat.le_of_ble_eq_true rfl) ⟨Nat.le_of_ble_eq_true rfl, Nat.le_of_ble_eq_true rfl⟩ ⟨rfl, rfl⟩ ⟨Nat.le_of_ble_eq_true rfl, Nat.le_of_ble_eq_true rfl⟩ dX3_hanging_32 rfl [some 0, some 1, some 2] rfl (ws' := cSG G q w) rfl (fun H locs hW => ?_)
          refine lv_istore_n (lv' := [(3, .int p_32), (4, .int v4_12), (2, .int v2_12), (0, .ref (q 0)), (1, .int x1)]) hx hb dX3_hanging_35 rfl hl (by decide) rfl (fun ls hl => ?_)
          refine lv_iload_n hx hb dX3_hanging_36 rfl (lv_at hl 2 rfl) ?_
          refine lv_iload_n hx hb dX3_hanging_37 rfl (lv_at hl 0 rfl) ?_
          refine lv_ior hx hb dX3_hanging_38 ?_
          obtain ⟨x_39, e_x_39, h⟩ := of_nm h
          refine x_topi e_x_39 ?_
          refine lv_istore_n (lv' := [(2, .int x_39), (3, .int p_32), (4, .int v4_12), (0, .ref (q 0)), (1, .int x1)]) hx hb dX3_hanging_39 rfl hl (by decide) rfl (fun ls hl => ?_)
          refine lv_iinc (v := (v4_12 + (1 : Int32))) (lv' := [(4, .int (v4_12 + (1 : Int32))), (2, .int x_39), (3, .int p_32), (0, .ref (q 0)), (1, .int x1)]) hx hb dX3_hanging_40 hl (k := 2) rfl rfl (by decide) rfl (fun ls hl => ?_)
          refine lv_goto (tgt := 12) hx hb dX3_hanging_43 (by decide) ?_
          exact ih0 (v4_12 + (1 : Int32)) p_32 x_39 _ _ _ h hW (lv_sub hl [0, 2, 1, 3, 4] rfl)
  exact L0 200 (0 : Int32) x_6 x_6 _ _ _ h hW (lv_sub hl [0, 1, 2, 3, 4] rfl)
def f_X4_begin (w : TW) : Option (TW) :=
  Option.bind (f_X1_become w.2.1 w.1) fun p_8 =>
    Option.bind (f_X3_measure w.2.2.1 p_8) fun p_19 =>
    Option.bind (f_X3_look p_19 p_8) fun p_30 =>
    some (w.1, p_8, p_30, w.2.2.2.1, w.2.2.2.2.1, w.2.2.2.2.2.1, w.2.2.2.2.2.2)
abbrev rmX4_begin : Room := { frames := 3, cells := 0, slots := 0, locals := 85 }
set_option maxRecDepth 100000 in
set_option maxHeartbeats 4000000 in
theorem c_X4_begin (l : Launch) (G : EnT) (q : Nat → Nat) (w : TW) (o : TW) (h : f_X4_begin w = some o) : Mv l yX4_begin rmX4_begin cX4_begin 1 none G false [.ref (q 0)] (cTW G q w) (cTW G q o) := by
  refine Mv_of (by decide) (Nat.le_of_ble_eq_true rfl) ?_
  intro p e s m below meth c A0 F hr hW ls hl
  obtain ⟨hx, hb, hml, hown, hts, hK, hNW, hlocks, hA, hSX⟩ := id F
  have hl : lv_has ls 1 [(0, .ref (q 0))] := hl
  have hW : Wd G A0 s (cTW G q w) s.heap [] := hW
  show W p l e rmX4_begin s m ([.ref (q 0)] : List Value).toArray below meth c s.heap [] 0 0 (Qv below G (cTW G q o) A0 ([.ref (q 0)] : List Value).toArray s) (F0 m 0 ls [])
  refine lv_aload_n hx hb dX4_begin_0 rfl (lv_at hl 0 rfl) ?_
  refine x_get F hW 0 rfl fa_X4_18 rfl dX4_begin_1 ?_
  refine lv_aload_n hx hb dX4_begin_4 rfl (lv_at hl 0 rfl) ?_
  refine x_get F hW 0 rfl fa_X4_12 rfl dX4_begin_5 ?_
  obtain ⟨p_8, hc_8, h⟩ := of_bind h
  refine x_Vv (av := [.ref (q 7), .ref (q 1)]) (As := [.ref (q 1)]) F hW (c_X1_become l G (fun i => q (i + 7)) w.2.1 (fun i => q (i + 1)) w.1 _ hc_8) [7, 8, 9, 10, 11, 12, 1, 2, 3, 4, 5, 6] rfl rfl (by intro q; cases q) cv_X4_41 rfl ⟨_, rfl, rfl⟩ rfl rfl rfl hl (Nat.le_of_ble_eq_true rfl) ⟨Nat.le_of_ble_eq_true rfl, Nat.le_of_ble_eq_true rfl⟩ ⟨rfl, rfl⟩ ⟨Nat.le_of_ble_eq_true rfl, Nat.le_of_ble_eq_true rfl⟩ dX4_begin_8 rfl [none, some 6, some 7, some 8, some 9, some 10, some 11, some 0, some 1, some 2, some 3, some 4, some 5, none, none, none, none, none, none, none, none, none] rfl (ws' := cTW G q (w.1, p_8, w.2.2.1, w.2.2.2.1, w.2.2.2.2.1, w.2.2.2.2.2.1, w.2.2.2.2.2.2)) rfl (fun H locs hW => ?_)
  refine lv_aload_n hx hb dX4_begin_11 rfl (lv_at hl 0 rfl) ?_
  refine x_get F hW 0 rfl fa_X4_24 rfl dX4_begin_12 ?_
  refine lv_aload_n hx hb dX4_begin_15 rfl (lv_at hl 0 rfl) ?_
  refine x_get F hW 0 rfl fa_X4_18 rfl dX4_begin_16 ?_
  obtain ⟨p_19, hc_19, h⟩ := of_bind h
  refine x_Vv (av := [.ref (q 13), .ref (q 7)]) (As := [.ref (q 7)]) F hW (c_X3_measure l G (fun i => q (i + 13)) w.2.2.1 (fun i => q (i + 7)) p_8 _ hc_19) [13, 14, 15, 7, 8, 9, 10, 11, 12] rfl rfl (by intro q; cases q) cv_X4_45 rfl ⟨_, rfl, rfl⟩ rfl rfl rfl hl (Nat.le_of_ble_eq_true rfl) ⟨Nat.le_of_ble_eq_true rfl, Nat.le_of_ble_eq_true rfl⟩ ⟨rfl, rfl⟩ ⟨Nat.le_of_ble_eq_true rfl, Nat.le_of_ble_eq_true rfl⟩ dX4_begin_19 rfl [none, none, none, none, none, none, none, some 3, some 4, some 5, some 6, some 7, some 8, some 0, some 1, some 2, none, none, none, none, none, none] rfl (ws' := cTW G q (w.1, p_8, p_19, w.2.2.2.1, w.2.2.2.2.1, w.2.2.2.2.2.1, w.2.2.2.2.2.2)) rfl (fun H locs hW => ?_)
  refine lv_aload_n hx hb dX4_begin_22 rfl (lv_at hl 0 rfl) ?_
  refine x_get F hW 0 rfl fa_X4_24 rfl dX4_begin_23 ?_
  refine lv_aload_n hx hb dX4_begin_26 rfl (lv_at hl 0 rfl) ?_
  refine x_get F hW 0 rfl fa_X4_18 rfl dX4_begin_27 ?_
  obtain ⟨p_30, hc_30, h⟩ := of_bind h
  refine x_Vv (av := [.ref (q 13), .ref (q 7)]) (As := [.ref (q 7)]) F hW (c_X3_look l G (fun i => q (i + 13)) p_19 (fun i => q (i + 7)) p_8 _ hc_30) [13, 14, 15, 7, 8, 9, 10, 11, 12] rfl rfl (by intro q; cases q) cv_X4_48 rfl ⟨_, rfl, rfl⟩ rfl rfl rfl hl (Nat.le_of_ble_eq_true rfl) ⟨Nat.le_of_ble_eq_true rfl, Nat.le_of_ble_eq_true rfl⟩ ⟨rfl, rfl⟩ ⟨Nat.le_of_ble_eq_true rfl, Nat.le_of_ble_eq_true rfl⟩ dX4_begin_30 rfl [none, none, none, none, none, none, none, some 3, some 4, some 5, some 6, some 7, some 8, some 0, some 1, some 2, none, none, none, none, none, none] rfl (ws' := cTW G q (w.1, p_8, p_30, w.2.2.2.1, w.2.2.2.2.1, w.2.2.2.2.2.1, w.2.2.2.2.2.2)) rfl (fun H locs hW => ?_)
  obtain rfl := Option.some.inj h
  exact x_retv F hr hW dX4_begin_33
def f_X4_hangers (w : TW) : Option (Int32) :=
  Option.bind (f_X1_lit w.2.1) fun p_8 =>
    Option.bind (f_X3_hanging w.2.2.1 p_8) fun p_11 =>
    some p_11
abbrev rmX4_hangers : Room := { frames := 3, cells := 0, slots := 0, locals := 69 }
set_option maxRecDepth 100000 in
set_option maxHeartbeats 4000000 in
theorem c_X4_hangers (l : Launch) (G : EnT) (q : Nat → Nat) (w : TW) (o : Int32) (h : f_X4_hangers w = some o) : Mi l yX4_hangers rmX4_hangers cX4_hangers 1 (some .int) G false [.ref (q 0)] (cTW G q w) o (cTW G q w) := by
  refine Mi_of (by decide) (Nat.le_of_ble_eq_true rfl) ?_
  intro p e s m below meth c A0 F hr hW ls hl
  obtain ⟨hx, hb, hml, hown, hts, hK, hNW, hlocks, hA, hSX⟩ := id F
  have hl : lv_has ls 1 [(0, .ref (q 0))] := hl
  have hW : Wd G A0 s (cTW G q w) s.heap [] := hW
  show W p l e rmX4_hangers s m ([.ref (q 0)] : List Value).toArray below meth c s.heap [] 0 0 (Qi below G (cTW G q w) o A0 ([.ref (q 0)] : List Value).toArray s) (F0 m 0 ls [])
  refine lv_aload_n hx hb dX4_hangers_0 rfl (lv_at hl 0 rfl) ?_
  refine x_get F hW 0 rfl fa_X4_24 rfl dX4_hangers_1 ?_
  refine lv_aload_n hx hb dX4_hangers_4 rfl (lv_at hl 0 rfl) ?_
  refine x_get F hW 0 rfl fa_X4_18 rfl dX4_hangers_5 ?_
  obtain ⟨p_8, hc_8, h⟩ := of_bind h
  refine x_Vi (av := [.ref (q 7)]) (As := []) F hW (c_X1_lit l G (fun i => q (i + 7)) w.2.1 _ hc_8) [7, 8, 9, 10, 11, 12] rfl rfl (by intro q; cases q) cv_X4_51 rfl ⟨_, rfl, rfl⟩ rfl rfl rfl hl (Nat.le_of_ble_eq_true rfl) ⟨Nat.le_of_ble_eq_true rfl, Nat.le_of_ble_eq_true rfl⟩ ⟨rfl, rfl⟩ ⟨Nat.le_of_ble_eq_true rfl, Nat.le_of_ble_eq_true rfl⟩ dX4_hangers_8 rfl [none, none, none, none, none, none, none, some 0, some 1, some 2, some 3, some 4, some 5, none, none, none, none, none, none, none, none, none] rfl (ws' := cTW G q w) rfl (fun H locs hW => ?_)
  obtain ⟨p_11, hc_11, h⟩ := of_bind h
  refine x_Vi (av := [.ref (q 13), .int p_8]) (As := [.int p_8]) F hW (c_X3_hanging l G (fun i => q (i + 13)) w.2.2.1 p_8 _ hc_11) [13, 14, 15] rfl rfl (by intro q; cases q) cv_X4_55 rfl ⟨_, rfl, rfl⟩ rfl rfl rfl hl (Nat.le_of_ble_eq_true rfl) ⟨Nat.le_of_ble_eq_true rfl, Nat.le_of_ble_eq_true rfl⟩ ⟨rfl, rfl⟩ ⟨Nat.le_of_ble_eq_true rfl, Nat.le_of_ble_eq_true rfl⟩ dX4_hangers_11 rfl [none, none, none, none, none, none, none, none, none, none, none, none, none, some 0, some 1, some 2, none, none, none, none, none, none] rfl (ws' := cTW G q w) rfl (fun H locs hW => ?_)
  obtain rfl := Option.some.inj h
  exact x_reti F hr hW rfl dX4_hangers_14
def f_J6_bitCount_0f7a4 (x1 : Int32) : Option (Int32) :=
  nm (x1 - ((ushrI x1 (1 : Int32)) &&& (1431655765 : Int32))) fun x_9 =>
    nm ((x_9 &&& (858993459 : Int32)) + ((ushrI x_9 (2 : Int32)) &&& (858993459 : Int32))) fun x_23 =>
    nm ((x_23 + (ushrI x_23 (4 : Int32))) &&& (252645135 : Int32)) fun x_33 =>
    nm (x_33 + (ushrI x_33 (8 : Int32))) fun x_40 =>
    nm (x_40 + (ushrI x_40 (16 : Int32))) fun x_47 =>
    some (x_47 &&& (63 : Int32))
abbrev rmJ6_bitCount_0f7a4 : Room := { frames := 0, cells := 0, slots := 0, locals := 0 }
set_option maxRecDepth 100000 in
set_option maxHeartbeats 4000000 in
theorem c_J6_bitCount_0f7a4 (l : Launch) (G : EnT) (x1 : Int32) (o : Int32) (h : f_J6_bitCount_0f7a4 x1 = some o) : Mi l yJ6_bitCount_0f7a4 rmJ6_bitCount_0f7a4 cJ6_bitCount_0f7a4 1 (some .int) G false [.int x1] ([]) o ([]) := by
  refine Mi_of (by decide) (Nat.le_of_ble_eq_true rfl) ?_
  intro p e s m below meth c A0 F hr hW ls hl
  obtain ⟨hx, hb, hml, hown, hts, hK, hNW, hlocks, hA, hSX⟩ := id F
  have hl : lv_has ls 1 [(0, .int x1)] := hl
  have hW : Wd G A0 s ([]) s.heap [] := hW
  show W p l e rmJ6_bitCount_0f7a4 s m ([.int x1] : List Value).toArray below meth c s.heap [] 0 0 (Qi below G ([]) o A0 ([.int x1] : List Value).toArray s) (F0 m 0 ls [])
  refine lv_iload_n hx hb dJ6_bitCount_0f7a4_0 rfl (lv_at hl 0 rfl) ?_
  refine lv_iload_n hx hb dJ6_bitCount_0f7a4_1 rfl (lv_at hl 0 rfl) ?_
  refine lv_iconst (v := (1 : Int32)) hx hb dJ6_bitCount_0f7a4_2 (by decide) ?_
  refine lv_iushr (v := (ushrI x1 (1 : Int32))) hx hb dJ6_bitCount_0f7a4_3 rfl ?_
  refine lv_ldcw (v := (1431655765 : Int32)) hx hb hown (hts _ wd_522) dJ6_bitCount_0f7a4_4 ?_
  refine lv_iand hx hb dJ6_bitCount_0f7a4_7 ?_
  refine lv_isub hx hb dJ6_bitCount_0f7a4_8 ?_
  obtain ⟨x_9, e_x_9, h⟩ := of_nm h
  refine x_topi e_x_9 ?_
  refine lv_istore_n (lv' := [(0, .int x_9)]) hx hb dJ6_bitCount_0f7a4_9 rfl hl (by decide) rfl (fun ls hl => ?_)
  refine lv_iload_n hx hb dJ6_bitCount_0f7a4_10 rfl (lv_at hl 0 rfl) ?_
  refine lv_ldcw (v := (858993459 : Int32)) hx hb hown (hts _ wd_523) dJ6_bitCount_0f7a4_11 ?_
  refine lv_iand hx hb dJ6_bitCount_0f7a4_14 ?_
  refine lv_iload_n hx hb dJ6_bitCount_0f7a4_15 rfl (lv_at hl 0 rfl) ?_
  refine lv_iconst (v := (2 : Int32)) hx hb dJ6_bitCount_0f7a4_16 (by decide) ?_
  refine lv_iushr (v := (ushrI x_9 (2 : Int32))) hx hb dJ6_bitCount_0f7a4_17 rfl ?_
  refine lv_ldcw (v := (858993459 : Int32)) hx hb hown (hts _ wd_523) dJ6_bitCount_0f7a4_18 ?_
  refine lv_iand hx hb dJ6_bitCount_0f7a4_21 ?_
  refine lv_iadd hx hb dJ6_bitCount_0f7a4_22 ?_
  obtain ⟨x_23, e_x_23, h⟩ := of_nm h
  refine x_topi e_x_23 ?_
  refine lv_istore_n (lv' := [(0, .int x_23)]) hx hb dJ6_bitCount_0f7a4_23 rfl hl (by decide) rfl (fun ls hl => ?_)
  refine lv_iload_n hx hb dJ6_bitCount_0f7a4_24 rfl (lv_at hl 0 rfl) ?_
  refine lv_iload_n hx hb dJ6_bitCount_0f7a4_25 rfl (lv_at hl 0 rfl) ?_
  refine lv_iconst (v := (4 : Int32)) hx hb dJ6_bitCount_0f7a4_26 (by decide) ?_
  refine lv_iushr (v := (ushrI x_23 (4 : Int32))) hx hb dJ6_bitCount_0f7a4_27 rfl ?_
  refine lv_iadd hx hb dJ6_bitCount_0f7a4_28 ?_
  refine lv_ldcw (v := (252645135 : Int32)) hx hb hown (hts _ wd_524) dJ6_bitCount_0f7a4_29 ?_
  refine lv_iand hx hb dJ6_bitCount_0f7a4_32 ?_
  obtain ⟨x_33, e_x_33, h⟩ := of_nm h
  refine x_topi e_x_33 ?_
  refine lv_istore_n (lv' := [(0, .int x_33)]) hx hb dJ6_bitCount_0f7a4_33 rfl hl (by decide) rfl (fun ls hl => ?_)
  refine lv_iload_n hx hb dJ6_bitCount_0f7a4_34 rfl (lv_at hl 0 rfl) ?_
  refine lv_iload_n hx hb dJ6_bitCount_0f7a4_35 rfl (lv_at hl 0 rfl) ?_
  refine lv_bipush (v := (8 : Int32)) hx hb dJ6_bitCount_0f7a4_36 (by decide) ?_
  refine lv_iushr (v := (ushrI x_33 (8 : Int32))) hx hb dJ6_bitCount_0f7a4_38 rfl ?_
  refine lv_iadd hx hb dJ6_bitCount_0f7a4_39 ?_
  obtain ⟨x_40, e_x_40, h⟩ := of_nm h
  refine x_topi e_x_40 ?_
  refine lv_istore_n (lv' := [(0, .int x_40)]) hx hb dJ6_bitCount_0f7a4_40 rfl hl (by decide) rfl (fun ls hl => ?_)
  refine lv_iload_n hx hb dJ6_bitCount_0f7a4_41 rfl (lv_at hl 0 rfl) ?_
  refine lv_iload_n hx hb dJ6_bitCount_0f7a4_42 rfl (lv_at hl 0 rfl) ?_
  refine lv_bipush (v := (16 : Int32)) hx hb dJ6_bitCount_0f7a4_43 (by decide) ?_
  refine lv_iushr (v := (ushrI x_40 (16 : Int32))) hx hb dJ6_bitCount_0f7a4_45 rfl ?_
  refine lv_iadd hx hb dJ6_bitCount_0f7a4_46 ?_
  obtain ⟨x_47, e_x_47, h⟩ := of_nm h
  refine x_topi e_x_47 ?_
  refine lv_istore_n (lv' := [(0, .int x_47)]) hx hb dJ6_bitCount_0f7a4_47 rfl hl (by decide) rfl (fun ls hl => ?_)
  refine lv_iload_n hx hb dJ6_bitCount_0f7a4_48 rfl (lv_at hl 0 rfl) ?_
  refine lv_bipush (v := (63 : Int32)) hx hb dJ6_bitCount_0f7a4_49 (by decide) ?_
  refine lv_iand hx hb dJ6_bitCount_0f7a4_51 ?_
  obtain rfl := Option.some.inj h
  exact x_reti F hr hW rfl dJ6_bitCount_0f7a4_52
def f_X4_hangTogether_4 (x1 : Int32) : Nat → Int32 → Int32 → TW → Option (Int32 × TW)
  | 0, _, _, _ => none
  | n0 + 1, v3_4, v2_4, w_4 =>
    if x1 < v3_4 then
    some (v2_4, w_4)
    else
    Option.bind (f_X1_lit w_4.2.1) fun p_18 =>
    Option.bind (f_X3_hanging w_4.2.2.1 p_18) fun p_21 =>
    Option.bind (f_J6_bitCount_0f7a4 p_21) fun p_24 =>
    nm (v2_4 + p_24) fun x_28 =>
    Option.bind (f_X1_passNight w_4.2.1) fun p_33 =>
    f_X4_hangTogether_4 x1 n0 (v3_4 + (1 : Int32)) x_28 (w_4.1, p_33, w_4.2.2.1, w_4.2.2.2.1, w_4.2.2.2.2.1, w_4.2.2.2.2.2.1, w_4.2.2.2.2.2.2)
def f_X4_hangTogether (w : TW) (x1 : Int32) : Option (Int32 × TW) :=
  f_X4_hangTogether_4 x1 200 (0 : Int32) (0 : Int32) w
abbrev rmX4_hangTogether : Room := { frames := 3, cells := 0, slots := 0, locals := 69 }
set_option maxRecDepth 100000 in
set_option maxHeartbeats 4000000 in
theorem c_X4_hangTogether (l : Launch) (G : EnT) (q : Nat → Nat) (w : TW) (x1 : Int32) (o : Int32 × TW) (h : f_X4_hangTogether w x1 = some o) : Mi l yX4_hangTogether rmX4_hangTogether cX4_hangTogether 4 (some .int) G false [.ref (q 0), .int x1] (cTW G q w) o.1 (cTW G q o.2) := by
  refine Mi_of (by decide) (Nat.le_of_ble_eq_true rfl) ?_
  intro p e s m below meth c A0 F hr hW ls hl
  obtain ⟨hx, hb, hml, hown, hts, hK, hNW, hlocks, hA, hSX⟩ := id F
  have hl : lv_has ls 4 [(0, .ref (q 0)), (1, .int x1)] := hl
  have hW : Wd G A0 s (cTW G q w) s.heap [] := hW
  show W p l e rmX4_hangTogether s m ([.ref (q 0), .int x1] : List Value).toArray below meth c s.heap [] 0 0 (Qi below G (cTW G q o.2) o.1 A0 ([.ref (q 0), .int x1] : List Value).toArray s) (F0 m 0 ls [])
  refine lv_iconst (v := (0 : Int32)) hx hb dX4_hangTogether_0 (by decide) ?_
  refine lv_istore_n (lv' := [(2, .int (0 : Int32)), (0, .ref (q 0)), (1, .int x1)]) hx hb dX4_hangTogether_1 rfl hl (by decide) rfl (fun ls hl => ?_)
  refine lv_iconst (v := (0 : Int32)) hx hb dX4_hangTogether_2 (by decide) ?_
  refine lv_istore_n (lv' := [(3, .int (0 : Int32)), (2, .int (0 : Int32)), (0, .ref (q 0)), (1, .int x1)]) hx hb dX4_hangTogether_3 rfl hl (by decide) rfl (fun ls hl => ?_)
  have L0 : ∀ (n0 : Nat) (v3_4 : Int32) (v2_4 : Int32) (w_4 : TW) (H : Heap) (locs : List Loc) (ls : Array Slot), f_X4_hangTogether_4 x1 n0 v3_4 v2_4 w_4 = some o → Wd G A0 s (cTW G q w_4) H locs → lv_has ls 4 [(3, .int v3_4), (2, .int v2_4), (0, .ref (q 0)), (1, .int x1)] → W p l e rmX4_hangTogether s m ([.ref (q 0), .int x1] : List Value).toArray below meth c H locs 0 0 (Qi below G (cTW G q o.2) o.1 A0 ([.ref (q 0), .int x1] : List Value).toArray s) (F0 m 4 ls []) := by
    intro n0
    induction n0 with
    | zero => intro v3_4 v2_4 w_4 H locs ls h; cases (show (none : Option (Int32 × TW)) = some o from h)
    | succ n0 ih0 =>
      intro v3_4 v2_4 w_4 H locs ls h hW hl
      refine lv_iload_n hx hb dX4_hangTogether_4 rfl (lv_at hl 0 rfl) ?_
      refine lv_iload_n hx hb dX4_hangTogether_5 rfl (lv_at hl 3 rfl) ?_
      obtain ⟨ht_6, hf_6⟩ := of_ite h
      refine lv_icmp_gt (tgt := 42) hx hb dX4_hangTogether_6 (by decide) (fun c_6 => ?_) (fun c_6 => ?_)
      · have h := ht_6 c_6
        refine lv_iload_n hx hb dX4_hangTogether_42 rfl (lv_at hl 1 rfl) ?_
        obtain rfl := Option.some.inj h
        exact x_reti F hr hW rfl dX4_hangTogether_43
      · have h := hf_6 c_6
        refine lv_iload_n hx hb dX4_hangTogether_9 rfl (lv_at hl 1 rfl) ?_
        refine lv_aload_n hx hb dX4_hangTogether_10 rfl (lv_at hl 2 rfl) ?_
        refine x_get F hW 0 rfl fa_X4_24 rfl dX4_hangTogether_11 ?_
        refine lv_aload_n hx hb dX4_hangTogether_14 rfl (lv_at hl 2 rfl) ?_
        refine x_get F hW 0 rfl fa_X4_18 rfl dX4_hangTogether_15 ?_
        obtain ⟨p_18, hc_18, h⟩ := of_bind h
        refine x_Vi (av := [.ref (q 7)]) (As := []) F hW (c_X1_lit l G (fun i => q (i + 7)) w_4.2.1 _ hc_18) [7, 8, 9, 10, 11, 12] rfl rfl (by intro q; cases q) cv_X4_51 rfl ⟨_, rfl, rfl⟩ rfl rfl rfl hl (Nat.le_of_ble_eq_true rfl) ⟨Nat.le_of_ble_eq_true rfl, Nat.le_of_ble_eq_true rfl⟩ ⟨rfl, rfl⟩ ⟨Nat.le_of_ble_eq_true rfl, Nat.le_of_ble_eq_true rfl⟩ dX4_hangTogether_18 rfl [none, none, none, none, none, none, none, some 0, some 1, some 2, some 3, some 4, some 5, none, none, none, none, none, none, none, none, none] rfl (ws' := cTW G q w_4) rfl (fun H locs hW => ?_)
        obtain ⟨p_21, hc_21, h⟩ := of_bind h
        refine x_Vi (av := [.ref (q 13), .int p_18]) (As := [.int p_18]) F hW (c_X3_hanging l G (fun i => q (i + 13)) w_4.2.2.1 p_18 _ hc_21) [13, 14, 15] rfl rfl (by intro q; cases q) cv_X4_55 rfl ⟨_, rfl, rfl⟩ rfl rfl rfl hl (Nat.le_of_ble_eq_true rfl) ⟨Nat.le_of_ble_eq_true rfl, Nat.le_of_ble_eq_true rfl⟩ ⟨rfl, rfl⟩ ⟨Nat.le_of_ble_eq_true rfl, Nat.le_of_ble_eq_true rfl⟩ dX4_hangTogether_21 rfl [none, none, none, none, none, none, none, none, none, none, none, none, none, some 0, some 1, some 2, none, none, none, none, none, none] rfl (ws' := cTW G q w_4) rfl (fun H locs hW => ?_)
        obtain ⟨p_24, hc_24, h⟩ := of_bind h
        refine x_Si (av := [.int p_21]) F hW (c_J6_bitCount_0f7a4 l G p_21 _ hc_24) [] rfl rfl (by intro q; cases q) cs_X4_59 rfl rfl hl (Nat.le_of_ble_eq_true rfl) ⟨Nat.le_of_ble_eq_true rfl, Nat.le_of_ble_eq_true rfl⟩ ⟨rfl, rfl⟩ ⟨Nat.le_of_ble_eq_true rfl, Nat.le_of_ble_eq_true rfl⟩ dX4_hangTogether_24 rfl [none, none, none, none, none, none, none, none, none, none, none, none, none, none, none, none, none, none, none, none, none, none] rfl (ws' := cTW G q w_4) rfl (fun H locs hW => ?_)
        refine lv_iadd hx hb dX4_hangTogether_27 ?_
        obtain ⟨x_28, e_x_28, h⟩ := of_nm h
        refine x_topi e_x_28 ?_
        refine lv_istore_n (lv' := [(2, .int x_28), (3, .int v3_4), (0, .ref (q 0)), (1, .int x1)]) hx hb dX4_hangTogether_28 rfl hl (by decide) rfl (fun ls hl => ?_)
        refine lv_aload_n hx hb dX4_hangTogether_29 rfl (lv_at hl 2 rfl) ?_
        refine x_get F hW 0 rfl fa_X4_18 rfl dX4_hangTogether_30 ?_
        obtain ⟨p_33, hc_33, h⟩ := of_bind h
        refine x_Vv (av := [.ref (q 7)]) (As := []) F hW (c_X1_passNight l G (fun i => q (i + 7)) w_4.2.1 _ hc_33) [7, 8, 9, 10, 11, 12] rfl rfl (by intro q; cases q) cv_X4_64 rfl ⟨_, rfl, rfl⟩ rfl rfl rfl hl (Nat.le_of_ble_eq_true rfl) ⟨Nat.le_of_ble_eq_true rfl, Nat.le_of_ble_eq_true rfl⟩ ⟨rfl, rfl⟩ ⟨Nat.le_of_ble_eq_true rfl, Nat.le_of_ble_eq_true rfl⟩ dX4_hangTogether_33 rfl [none, none, none, none, none, none, none, some 0, some 1, some 2, some 3, some 4, some 5, none, none, none, none, none, none, none, none, none] rfl (ws' := cTW G q (w_4.1, p_33, w_4.2.2.1, w_4.2.2.2.1, w_4.2.2.2.2.1, w_4.2.2.2.2.2.1, w_4.2.2.2.2.2.2)) rfl (fun H locs hW => ?_)
        refine lv_iinc (v := (v3_4 + (1 : Int32))) (lv' := [(3, .int (v3_4 + (1 : Int32))), (2, .int x_28), (0, .ref (q 0)), (1, .int x1)]) hx hb dX4_hangTogether_36 hl (k := 1) rfl rfl (by decide) rfl (fun ls hl => ?_)
        refine lv_goto (tgt := 4) hx hb dX4_hangTogether_39 (by decide) ?_
        exact ih0 (v3_4 + (1 : Int32)) x_28 (w_4.1, p_33, w_4.2.2.1, w_4.2.2.2.1, w_4.2.2.2.2.1, w_4.2.2.2.2.2.1, w_4.2.2.2.2.2.2) _ _ _ h hW (lv_sub hl [0, 1, 2, 3] rfl)
  exact L0 200 (0 : Int32) (0 : Int32) w _ _ _ h hW (lv_sub hl [0, 1, 2, 3] rfl)
def f_X4_litBehind (w : TW) (x1 : Int32) : Option (Int32 × TW) :=
  Option.bind (f_X1_become w.2.1 w.1) fun p_8 =>
    Option.bind (f_X1_passNights p_8 x1) fun p_16 =>
    Option.bind (f_X1_lit p_16) fun p_23 =>
    some (p_23, (w.1, p_16, w.2.2.1, w.2.2.2.1, w.2.2.2.2.1, w.2.2.2.2.2.1, w.2.2.2.2.2.2))
abbrev rmX4_litBehind : Room := { frames := 4, cells := 0, slots := 0, locals := 87 }
set_option maxRecDepth 100000 in
set_option maxHeartbeats 4000000 in
theorem c_X4_litBehind (l : Launch) (G : EnT) (q : Nat → Nat) (w : TW) (x1 : Int32) (o : Int32 × TW) (h : f_X4_litBehind w x1 = some o) : Mi l yX4_litBehind rmX4_litBehind cX4_litBehind 2 (some .int) G false [.ref (q 0), .int x1] (cTW G q w) o.1 (cTW G q o.2) := by
  refine Mi_of (by decide) (Nat.le_of_ble_eq_true rfl) ?_
  intro p e s m below meth c A0 F hr hW ls hl
  obtain ⟨hx, hb, hml, hown, hts, hK, hNW, hlocks, hA, hSX⟩ := id F
  have hl : lv_has ls 2 [(0, .ref (q 0)), (1, .int x1)] := hl
  have hW : Wd G A0 s (cTW G q w) s.heap [] := hW
  show W p l e rmX4_litBehind s m ([.ref (q 0), .int x1] : List Value).toArray below meth c s.heap [] 0 0 (Qi below G (cTW G q o.2) o.1 A0 ([.ref (q 0), .int x1] : List Value).toArray s) (F0 m 0 ls [])
  refine lv_aload_n hx hb dX4_litBehind_0 rfl (lv_at hl 0 rfl) ?_
  refine x_get F hW 0 rfl fa_X4_18 rfl dX4_litBehind_1 ?_
  refine lv_aload_n hx hb dX4_litBehind_4 rfl (lv_at hl 0 rfl) ?_
  refine x_get F hW 0 rfl fa_X4_12 rfl dX4_litBehind_5 ?_
  obtain ⟨p_8, hc_8, h⟩ := of_bind h
  refine x_Vv (av := [.ref (q 7), .ref (q 1)]) (As := [.ref (q 1)]) F hW (c_X1_become l G (fun i => q (i + 7)) w.2.1 (fun i => q (i + 1)) w.1 _ hc_8) [7, 8, 9, 10, 11, 12, 1, 2, 3, 4, 5, 6] rfl rfl (by intro q; cases q) cv_X4_41 rfl ⟨_, rfl, rfl⟩ rfl rfl rfl hl (Nat.le_of_ble_eq_true rfl) ⟨Nat.le_of_ble_eq_true rfl, Nat.le_of_ble_eq_true rfl⟩ ⟨rfl, rfl⟩ ⟨Nat.le_of_ble_eq_true rfl, Nat.le_of_ble_eq_true rfl⟩ dX4_litBehind_8 rfl [none, some 6, some 7, some 8, some 9, some 10, some 11, some 0, some 1, some 2, some 3, some 4, some 5, none, none, none, none, none, none, none, none, none] rfl (ws' := cTW G q (w.1, p_8, w.2.2.1, w.2.2.2.1, w.2.2.2.2.1, w.2.2.2.2.2.1, w.2.2.2.2.2.2)) rfl (fun H locs hW => ?_)
  refine lv_aload_n hx hb dX4_litBehind_11 rfl (lv_at hl 0 rfl) ?_
  refine x_get F hW 0 rfl fa_X4_18 rfl dX4_litBehind_12 ?_
  refine lv_iload_n hx hb dX4_litBehind_15 rfl (lv_at hl 1 rfl) ?_
  obtain ⟨p_16, hc_16, h⟩ := of_bind h
  refine x_Vv (av := [.ref (q 7), .int x1]) (As := [.int x1]) F hW (c_X1_passNights l G (fun i => q (i + 7)) p_8 x1 _ hc_16) [7, 8, 9, 10, 11, 12] rfl rfl (by intro q; cases q) cv_X4_67 rfl ⟨_, rfl, rfl⟩ rfl rfl rfl hl (Nat.le_of_ble_eq_true rfl) ⟨Nat.le_of_ble_eq_true rfl, Nat.le_of_ble_eq_true rfl⟩ ⟨rfl, rfl⟩ ⟨Nat.le_of_ble_eq_true rfl, Nat.le_of_ble_eq_true rfl⟩ dX4_litBehind_16 rfl [none, none, none, none, none, none, none, some 0, some 1, some 2, some 3, some 4, some 5, none, none, none, none, none, none, none, none, none] rfl (ws' := cTW G q (w.1, p_16, w.2.2.1, w.2.2.2.1, w.2.2.2.2.1, w.2.2.2.2.2.1, w.2.2.2.2.2.2)) rfl (fun H locs hW => ?_)
  refine lv_aload_n hx hb dX4_litBehind_19 rfl (lv_at hl 0 rfl) ?_
  refine x_get F hW 0 rfl fa_X4_18 rfl dX4_litBehind_20 ?_
  obtain ⟨p_23, hc_23, h⟩ := of_bind h
  refine x_Vi (av := [.ref (q 7)]) (As := []) F hW (c_X1_lit l G (fun i => q (i + 7)) p_16 _ hc_23) [7, 8, 9, 10, 11, 12] rfl rfl (by intro q; cases q) cv_X4_51 rfl ⟨_, rfl, rfl⟩ rfl rfl rfl hl (Nat.le_of_ble_eq_true rfl) ⟨Nat.le_of_ble_eq_true rfl, Nat.le_of_ble_eq_true rfl⟩ ⟨rfl, rfl⟩ ⟨Nat.le_of_ble_eq_true rfl, Nat.le_of_ble_eq_true rfl⟩ dX4_litBehind_23 rfl [none, none, none, none, none, none, none, some 0, some 1, some 2, some 3, some 4, some 5, none, none, none, none, none, none, none, none, none] rfl (ws' := cTW G q (w.1, p_16, w.2.2.1, w.2.2.2.1, w.2.2.2.2.1, w.2.2.2.2.2.1, w.2.2.2.2.2.2)) rfl (fun H locs hW => ?_)
  obtain rfl := Option.some.inj h
  exact x_reti F hr hW rfl dX4_litBehind_26
def f_X4_hangingBehind (w : TW) (x1 : Int32) : Option (Int32 × TW) :=
  Option.bind (f_X4_begin w) fun p_1 =>
    Option.bind (f_X1_passNights p_1.2.1 x1) fun p_9 =>
    Option.bind (f_X4_hangers (p_1.1, p_9, p_1.2.2.1, p_1.2.2.2.1, p_1.2.2.2.2.1, p_1.2.2.2.2.2.1, p_1.2.2.2.2.2.2)) fun p_13 =>
    some (p_13, (p_1.1, p_9, p_1.2.2.1, p_1.2.2.2.1, p_1.2.2.2.2.1, p_1.2.2.2.2.2.1, p_1.2.2.2.2.2.2))
abbrev rmX4_hangingBehind : Room := { frames := 4, cells := 0, slots := 0, locals := 105 }
set_option maxRecDepth 100000 in
set_option maxHeartbeats 4000000 in
theorem c_X4_hangingBehind (l : Launch) (G : EnT) (q : Nat → Nat) (w : TW) (x1 : Int32) (o : Int32 × TW) (h : f_X4_hangingBehind w x1 = some o) : Mi l yX4_hangingBehind rmX4_hangingBehind cX4_hangingBehind 2 (some .int) G false [.ref (q 0), .int x1] (cTW G q w) o.1 (cTW G q o.2) := by
  refine Mi_of (by decide) (Nat.le_of_ble_eq_true rfl) ?_
  intro p e s m below meth c A0 F hr hW ls hl
  obtain ⟨hx, hb, hml, hown, hts, hK, hNW, hlocks, hA, hSX⟩ := id F
  have hl : lv_has ls 2 [(0, .ref (q 0)), (1, .int x1)] := hl
  have hW : Wd G A0 s (cTW G q w) s.heap [] := hW
  show W p l e rmX4_hangingBehind s m ([.ref (q 0), .int x1] : List Value).toArray below meth c s.heap [] 0 0 (Qi below G (cTW G q o.2) o.1 A0 ([.ref (q 0), .int x1] : List Value).toArray s) (F0 m 0 ls [])
  refine lv_aload_n hx hb dX4_hangingBehind_0 rfl (lv_at hl 0 rfl) ?_
  obtain ⟨p_1, hc_1, h⟩ := of_bind h
  refine x_Vv (av := [.ref (q 0)]) (As := []) F hW (c_X4_begin l G q w _ hc_1) [0, 1, 2, 3, 4, 5, 6, 7, 8, 9, 10, 11, 12, 13, 14, 15, 16, 17, 18, 19, 20, 21] rfl rfl (by intro q; cases q) cv_X4_71 rfl ⟨_, rfl, rfl⟩ rfl rfl rfl hl (Nat.le_of_ble_eq_true rfl) ⟨Nat.le_of_ble_eq_true rfl, Nat.le_of_ble_eq_true rfl⟩ ⟨rfl, rfl⟩ ⟨Nat.le_of_ble_eq_true rfl, Nat.le_of_ble_eq_true rfl⟩ dX4_hangingBehind_1 rfl [some 0, some 1, some 2, some 3, some 4, some 5, some 6, some 7, some 8, some 9, some 10, some 11, some 12, some 13, some 14, some 15, some 16, some 17, some 18, some 19, some 20, some 21] rfl (ws' := cTW G q p_1) rfl (fun H locs hW => ?_)
  refine lv_aload_n hx hb dX4_hangingBehind_4 rfl (lv_at hl 0 rfl) ?_
  refine x_get F hW 0 rfl fa_X4_18 rfl dX4_hangingBehind_5 ?_
  refine lv_iload_n hx hb dX4_hangingBehind_8 rfl (lv_at hl 1 rfl) ?_
  obtain ⟨p_9, hc_9, h⟩ := of_bind h
  refine x_Vv (av := [.ref (q 7), .int x1]) (As := [.int x1]) F hW (c_X1_passNights l G (fun i => q (i + 7)) p_1.2.1 x1 _ hc_9) [7, 8, 9, 10, 11, 12] rfl rfl (by intro q; cases q) cv_X4_67 rfl ⟨_, rfl, rfl⟩ rfl rfl rfl hl (Nat.le_of_ble_eq_true rfl) ⟨Nat.le_of_ble_eq_true rfl, Nat.le_of_ble_eq_true rfl⟩ ⟨rfl, rfl⟩ ⟨Nat.le_of_ble_eq_true rfl, Nat.le_of_ble_eq_true rfl⟩ dX4_hangingBehind_9 rfl [none, none, none, none, none, none, none, some 0, some 1, some 2, some 3, some 4, some 5, none, none, none, none, none, none, none, none, none] rfl (ws' := cTW G q (p_1.1, p_9, p_1.2.2.1, p_1.2.2.2.1, p_1.2.2.2.2.1, p_1.2.2.2.2.2.1, p_1.2.2.2.2.2.2)) rfl (fun H locs hW => ?_)
  refine lv_aload_n hx hb dX4_hangingBehind_12 rfl (lv_at hl 0 rfl) ?_
  obtain ⟨p_13, hc_13, h⟩ := of_bind h
  refine x_Vi (av := [.ref (q 0)]) (As := []) F hW (c_X4_hangers l G q (p_1.1, p_9, p_1.2.2.1, p_1.2.2.2.1, p_1.2.2.2.2.1, p_1.2.2.2.2.2.1, p_1.2.2.2.2.2.2) _ hc_13) [0, 1, 2, 3, 4, 5, 6, 7, 8, 9, 10, 11, 12, 13, 14, 15, 16, 17, 18, 19, 20, 21] rfl rfl (by intro q; cases q) cv_X4_74 rfl ⟨_, rfl, rfl⟩ rfl rfl rfl hl (Nat.le_of_ble_eq_true rfl) ⟨Nat.le_of_ble_eq_true rfl, Nat.le_of_ble_eq_true rfl⟩ ⟨rfl, rfl⟩ ⟨Nat.le_of_ble_eq_true rfl, Nat.le_of_ble_eq_true rfl⟩ dX4_hangingBehind_13 rfl [some 0, some 1, some 2, some 3, some 4, some 5, some 6, some 7, some 8, some 9, some 10, some 11, some 12, some 13, some 14, some 15, some 16, some 17, some 18, some 19, some 20, some 21] rfl (ws' := cTW G q (p_1.1, p_9, p_1.2.2.1, p_1.2.2.2.1, p_1.2.2.2.2.1, p_1.2.2.2.2.2.1, p_1.2.2.2.2.2.2)) rfl (fun H locs hW => ?_)
  obtain rfl := Option.some.inj h
  exact x_reti F hr hW rfl dX4_hangingBehind_16
def f_X4_wicksBehind (w : TW) (x1 : Int32) (x2 : Int32) : Option (Int32 × TW) :=
  Option.bind (f_X1_become w.2.1 w.1) fun p_8 =>
    Option.bind (f_X1_passNights p_8 x2) fun p_16 =>
    if inR x1 8 then
    some ((p_16.2.2.2.2.1 x1.toNatClampNeg), (w.1, p_16, w.2.2.1, w.2.2.2.1, w.2.2.2.2.1, w.2.2.2.2.2.1, w.2.2.2.2.2.2))
    else none
abbrev rmX4_wicksBehind : Room := { frames := 4, cells := 0, slots := 0, locals := 87 }
set_option maxRecDepth 100000 in
set_option maxHeartbeats 4000000 in
theorem c_X4_wicksBehind (l : Launch) (G : EnT) (q : Nat → Nat) (w : TW) (x1 : Int32) (x2 : Int32) (o : Int32 × TW) (h : f_X4_wicksBehind w x1 x2 = some o) : Mi l yX4_wicksBehind rmX4_wicksBehind cX4_wicksBehind 3 (some .int) G false [.ref (q 0), .int x1, .int x2] (cTW G q w) o.1 (cTW G q o.2) := by
  refine Mi_of (by decide) (Nat.le_of_ble_eq_true rfl) ?_
  intro p e s m below meth c A0 F hr hW ls hl
  obtain ⟨hx, hb, hml, hown, hts, hK, hNW, hlocks, hA, hSX⟩ := id F
  have hl : lv_has ls 3 [(0, .ref (q 0)), (1, .int x1), (2, .int x2)] := hl
  have hW : Wd G A0 s (cTW G q w) s.heap [] := hW
  show W p l e rmX4_wicksBehind s m ([.ref (q 0), .int x1, .int x2] : List Value).toArray below meth c s.heap [] 0 0 (Qi below G (cTW G q o.2) o.1 A0 ([.ref (q 0), .int x1, .int x2] : List Value).toArray s) (F0 m 0 ls [])
  refine lv_aload_n hx hb dX4_wicksBehind_0 rfl (lv_at hl 0 rfl) ?_
  refine x_get F hW 0 rfl fa_X4_18 rfl dX4_wicksBehind_1 ?_
  refine lv_aload_n hx hb dX4_wicksBehind_4 rfl (lv_at hl 0 rfl) ?_
  refine x_get F hW 0 rfl fa_X4_12 rfl dX4_wicksBehind_5 ?_
  obtain ⟨p_8, hc_8, h⟩ := of_bind h
  refine x_Vv (av := [.ref (q 7), .ref (q 1)]) (As := [.ref (q 1)]) F hW (c_X1_become l G (fun i => q (i + 7)) w.2.1 (fun i => q (i + 1)) w.1 _ hc_8) [7, 8, 9, 10, 11, 12, 1, 2, 3, 4, 5, 6] rfl rfl (by intro q; cases q) cv_X4_41 rfl ⟨_, rfl, rfl⟩ rfl rfl rfl hl (Nat.le_of_ble_eq_true rfl) ⟨Nat.le_of_ble_eq_true rfl, Nat.le_of_ble_eq_true rfl⟩ ⟨rfl, rfl⟩ ⟨Nat.le_of_ble_eq_true rfl, Nat.le_of_ble_eq_true rfl⟩ dX4_wicksBehind_8 rfl [none, some 6, some 7, some 8, some 9, some 10, some 11, some 0, some 1, some 2, some 3, some 4, some 5, none, none, none, none, none, none, none, none, none] rfl (ws' := cTW G q (w.1, p_8, w.2.2.1, w.2.2.2.1, w.2.2.2.2.1, w.2.2.2.2.2.1, w.2.2.2.2.2.2)) rfl (fun H locs hW => ?_)
  refine lv_aload_n hx hb dX4_wicksBehind_11 rfl (lv_at hl 0 rfl) ?_
  refine x_get F hW 0 rfl fa_X4_18 rfl dX4_wicksBehind_12 ?_
  refine lv_iload_n hx hb dX4_wicksBehind_15 rfl (lv_at hl 2 rfl) ?_
  obtain ⟨p_16, hc_16, h⟩ := of_bind h
  refine x_Vv (av := [.ref (q 7), .int x2]) (As := [.int x2]) F hW (c_X1_passNights l G (fun i => q (i + 7)) p_8 x2 _ hc_16) [7, 8, 9, 10, 11, 12] rfl rfl (by intro q; cases q) cv_X4_67 rfl ⟨_, rfl, rfl⟩ rfl rfl rfl hl (Nat.le_of_ble_eq_true rfl) ⟨Nat.le_of_ble_eq_true rfl, Nat.le_of_ble_eq_true rfl⟩ ⟨rfl, rfl⟩ ⟨Nat.le_of_ble_eq_true rfl, Nat.le_of_ble_eq_true rfl⟩ dX4_wicksBehind_16 rfl [none, none, none, none, none, none, none, some 0, some 1, some 2, some 3, some 4, some 5, none, none, none, none, none, none, none, none, none] rfl (ws' := cTW G q (w.1, p_16, w.2.2.1, w.2.2.2.1, w.2.2.2.2.1, w.2.2.2.2.2.1, w.2.2.2.2.2.2)) rfl (fun H locs hW => ?_)
  refine lv_aload_n hx hb dX4_wicksBehind_19 rfl (lv_at hl 0 rfl) ?_
  refine x_get F hW 0 rfl fa_X4_18 rfl dX4_wicksBehind_20 ?_
  refine x_get F hW 7 rfl fa_X4_77 rfl dX4_wicksBehind_23 ?_
  refine lv_iload_n hx hb dX4_wicksBehind_26 rfl (lv_at hl 1 rfl) ?_
  obtain ⟨g_27, h⟩ := of_guard h
  refine x_iald F hW 12 rfl g_27 dX4_wicksBehind_27 ?_
  obtain rfl := Option.some.inj h
  exact x_reti F hr hW rfl dX4_wicksBehind_28
def f_X4_darkBehind_6 (x1 : Int32) : Nat → Int32 → TW → Option (Int32 × TW)
  | 0, _, _ => none
  | n0 + 1, v2_6, w_6 =>
    if (60 : Int32) < v2_6 then
    some ((-9 : Int32), w_6)
    else
    Option.bind (f_X4_hangers w_6) fun p_13 =>
    Option.bind (f_X5_has p_13 x1) fun p_17 =>
    if p_17 = 0 then
    some (v2_6, w_6)
    else
    Option.bind (f_X1_passNight w_6.2.1) fun p_29 =>
    f_X4_darkBehind_6 x1 n0 (v2_6 + (1 : Int32)) (w_6.1, p_29, w_6.2.2.1, w_6.2.2.2.1, w_6.2.2.2.2.1, w_6.2.2.2.2.2.1, w_6.2.2.2.2.2.2)
def f_X4_darkBehind (w : TW) (x1 : Int32) : Option (Int32 × TW) :=
  Option.bind (f_X4_begin w) fun p_1 =>
    f_X4_darkBehind_6 x1 200 (0 : Int32) p_1
abbrev rmX4_darkBehind : Room := { frames := 4, cells := 0, slots := 0, locals := 105 }
set_option maxRecDepth 100000 in
set_option maxHeartbeats 4000000 in
theorem c_X4_darkBehind (l : Launch) (G : EnT) (q : Nat → Nat) (w : TW) (x1 : Int32) (o : Int32 × TW) (h : f_X4_darkBehind w x1 = some o) : Mi l yX4_darkBehind rmX4_darkBehind cX4_darkBehind 3 (some .int) G false [.ref (q 0), .int x1] (cTW G q w) o.1 (cTW G q o.2) := by
  refine Mi_of (by decide) (Nat.le_of_ble_eq_true rfl) ?_
  intro p e s m below meth c A0 F hr hW ls hl
  obtain ⟨hx, hb, hml, hown, hts, hK, hNW, hlocks, hA, hSX⟩ := id F
  have hl : lv_has ls 3 [(0, .ref (q 0)), (1, .int x1)] := hl
  have hW : Wd G A0 s (cTW G q w) s.heap [] := hW
  show W p l e rmX4_darkBehind s m ([.ref (q 0), .int x1] : List Value).toArray below meth c s.heap [] 0 0 (Qi below G (cTW G q o.2) o.1 A0 ([.ref (q 0), .int x1] : List Value).toArray s) (F0 m 0 ls [])
  refine lv_aload_n hx hb dX4_darkBehind_0 rfl (lv_at hl 0 rfl) ?_
  obtain ⟨p_1, hc_1, h⟩ := of_bind h
  refine x_Vv (av := [.ref (q 0)]) (As := []) F hW (c_X4_begin l G q w _ hc_1) [0, 1, 2, 3, 4, 5, 6, 7, 8, 9, 10, 11, 12, 13, 14, 15, 16, 17, 18, 19, 20, 21] rfl rfl (by intro q; cases q) cv_X4_71 rfl ⟨_, rfl, rfl⟩ rfl rfl rfl hl (Nat.le_of_ble_eq_true rfl) ⟨Nat.le_of_ble_eq_true rfl, Nat.le_of_ble_eq_true rfl⟩ ⟨rfl, rfl⟩ ⟨Nat.le_of_ble_eq_true rfl, Nat.le_of_ble_eq_true rfl⟩ dX4_darkBehind_1 rfl [some 0, some 1, some 2, some 3, some 4, some 5, some 6, some 7, some 8, some 9, some 10, some 11, some 12, some 13, some 14, some 15, some 16, some 17, some 18, some 19, some 20, some 21] rfl (ws' := cTW G q p_1) rfl (fun H locs hW => ?_)
  refine lv_iconst (v := (0 : Int32)) hx hb dX4_darkBehind_4 (by decide) ?_
  refine lv_istore_n (lv' := [(2, .int (0 : Int32)), (0, .ref (q 0)), (1, .int x1)]) hx hb dX4_darkBehind_5 rfl hl (by decide) rfl (fun ls hl => ?_)
  have L0 : ∀ (n0 : Nat) (v2_6 : Int32) (w_6 : TW) (H : Heap) (locs : List Loc) (ls : Array Slot), f_X4_darkBehind_6 x1 n0 v2_6 w_6 = some o → Wd G A0 s (cTW G q w_6) H locs → lv_has ls 3 [(2, .int v2_6), (0, .ref (q 0)), (1, .int x1)] → W p l e rmX4_darkBehind s m ([.ref (q 0), .int x1] : List Value).toArray below meth c H locs 0 0 (Qi below G (cTW G q o.2) o.1 A0 ([.ref (q 0), .int x1] : List Value).toArray s) (F0 m 6 ls []) := by
    intro n0
    induction n0 with
    | zero => intro v2_6 w_6 H locs ls h; cases (show (none : Option (Int32 × TW)) = some o from h)
    | succ n0 ih0 =>
      intro v2_6 w_6 H locs ls h hW hl
      refine lv_iload_n hx hb dX4_darkBehind_6 rfl (lv_at hl 0 rfl) ?_
      refine lv_bipush (v := (60 : Int32)) hx hb dX4_darkBehind_7 (by decide) ?_
      obtain ⟨ht_9, hf_9⟩ := of_ite h
      refine lv_icmp_gt (tgt := 38) hx hb dX4_darkBehind_9 (by decide) (fun c_9 => ?_) (fun c_9 => ?_)
      · have h := ht_9 c_9
        refine lv_bipush (v := (-9 : Int32)) hx hb dX4_darkBehind_38 (by decide) ?_
        obtain rfl := Option.some.inj h
        exact x_reti F hr hW rfl dX4_darkBehind_40
      · have h := hf_9 c_9
        refine lv_aload_n hx hb dX4_darkBehind_12 rfl (lv_at hl 1 rfl) ?_
        obtain ⟨p_13, hc_13, h⟩ := of_bind h
        refine x_Vi (av := [.ref (q 0)]) (As := []) F hW (c_X4_hangers l G q w_6 _ hc_13) [0, 1, 2, 3, 4, 5, 6, 7, 8, 9, 10, 11, 12, 13, 14, 15, 16, 17, 18, 19, 20, 21] rfl rfl (by intro q; cases q) cv_X4_74 rfl ⟨_, rfl, rfl⟩ rfl rfl rfl hl (Nat.le_of_ble_eq_true rfl) ⟨Nat.le_of_ble_eq_true rfl, Nat.le_of_ble_eq_true rfl⟩ ⟨rfl, rfl⟩ ⟨Nat.le_of_ble_eq_true rfl, Nat.le_of_ble_eq_true rfl⟩ dX4_darkBehind_13 rfl [some 0, some 1, some 2, some 3, some 4, some 5, some 6, some 7, some 8, some 9, some 10, some 11, some 12, some 13, some 14, some 15, some 16, some 17, some 18, some 19, some 20, some 21] rfl (ws' := cTW G q w_6) rfl (fun H locs hW => ?_)
        refine lv_iload_n hx hb dX4_darkBehind_16 rfl (lv_at hl 2 rfl) ?_
        obtain ⟨p_17, hc_17, h⟩ := of_bind h
        refine x_Ni (av := [.int p_13, .int x1]) F hW (c_X5_has l G p_13 x1 _ hc_17) [] rfl rfl (by intro q; cases q) cn_X4_80 rfl rfl hl (Nat.le_of_ble_eq_true rfl) ⟨Nat.le_of_ble_eq_true rfl, Nat.le_of_ble_eq_true rfl⟩ ⟨rfl, rfl⟩ ⟨Nat.le_of_ble_eq_true rfl, Nat.le_of_ble_eq_true rfl⟩ dX4_darkBehind_17 rfl [none, none, none, none, none, none, none, none, none, none, none, none, none, none, none, none, none, none, none, none, none, none] rfl (ws' := cTW G q w_6) rfl (fun H locs hW => ?_)
        obtain ⟨ht_20, hf_20⟩ := of_ite h
        refine lv_if_ne (tgt := 25) hx hb dX4_darkBehind_20 (by decide) (fun c_20 => ?_) (fun c_20 => ?_)
        · have h := hf_20 c_20
          refine lv_aload_n hx hb dX4_darkBehind_25 rfl (lv_at hl 1 rfl) ?_
          refine x_get F hW 0 rfl fa_X4_18 rfl dX4_darkBehind_26 ?_
          obtain ⟨p_29, hc_29, h⟩ := of_bind h
          refine x_Vv (av := [.ref (q 7)]) (As := []) F hW (c_X1_passNight l G (fun i => q (i + 7)) w_6.2.1 _ hc_29) [7, 8, 9, 10, 11, 12] rfl rfl (by intro q; cases q) cv_X4_64 rfl ⟨_, rfl, rfl⟩ rfl rfl rfl hl (Nat.le_of_ble_eq_true rfl) ⟨Nat.le_of_ble_eq_true rfl, Nat.le_of_ble_eq_true rfl⟩ ⟨rfl, rfl⟩ ⟨Nat.le_of_ble_eq_true rfl, Nat.le_of_ble_eq_true rfl⟩ dX4_darkBehind_29 rfl [none, none, none, none, none, none, none, some 0, some 1, some 2, some 3, some 4, some 5, none, none, none, none, none, none, none, none, none] rfl (ws' := cTW G q (w_6.1, p_29, w_6.2.2.1, w_6.2.2.2.1, w_6.2.2.2.2.1, w_6.2.2.2.2.2.1, w_6.2.2.2.2.2.2)) rfl (fun H locs hW => ?_)
          refine lv_iinc (v := (v2_6 + (1 : Int32))) (lv' := [(2, .int (v2_6 + (1 : Int32))), (0, .ref (q 0)), (1, .int x1)]) hx hb dX4_darkBehind_32 hl (k := 0) rfl rfl (by decide) rfl (fun ls hl => ?_)
          refine lv_goto (tgt := 6) hx hb dX4_darkBehind_35 (by decide) ?_
          exact ih0 (v2_6 + (1 : Int32)) (w_6.1, p_29, w_6.2.2.1, w_6.2.2.2.1, w_6.2.2.2.2.1, w_6.2.2.2.2.2.1, w_6.2.2.2.2.2.2) _ _ _ h hW (lv_sub hl [0, 1, 2] rfl)
        · have h := ht_20 c_20
          refine lv_iload_n hx hb dX4_darkBehind_23 rfl (lv_at hl 0 rfl) ?_
          obtain rfl := Option.some.inj h
          exact x_reti F hr hW rfl dX4_darkBehind_24
  exact L0 200 (0 : Int32) p_1 _ _ _ h hW (lv_sub hl [0, 1, 2] rfl)
def f_J6_numberOfTrailingZeros_0f7a4_62 (v1_62 : Int32) (v0_62 : Int32) : Option (Int32) :=
  if v0_62 ≤ (4 : Int32) then
    some (v1_62 + (ushrI v0_62 (1 : Int32)))
    else
    nm (ushrI v0_62 (2 : Int32)) fun x_73 =>
    some ((v1_62 + (2 : Int32)) + (ushrI x_73 (1 : Int32)))
def f_J6_numberOfTrailingZeros_0f7a4_49 (v1_49 : Int32) (v0_49 : Int32) : Option (Int32) :=
  if v0_49 ≤ (16 : Int32) then
    f_J6_numberOfTrailingZeros_0f7a4_62 v1_49 v0_49
    else
    nm (ushrI v0_49 (4 : Int32)) fun x_61 =>
    f_J6_numberOfTrailingZeros_0f7a4_62 (v1_49 + (4 : Int32)) x_61
def f_J6_numberOfTrailingZeros_0f7a4_34 (v1_34 : Int32) (v0_34 : Int32) : Option (Int32) :=
  if v0_34 ≤ (256 : Int32) then
    f_J6_numberOfTrailingZeros_0f7a4_49 v1_34 v0_34
    else
    nm (ushrI v0_34 (8 : Int32)) fun x_48 =>
    f_J6_numberOfTrailingZeros_0f7a4_49 (v1_34 + (8 : Int32)) x_48
def f_J6_numberOfTrailingZeros_0f7a4 (x1 : Int32) : Option (Int32) :=
  nm ((x1 ^^^ (-1 : Int32)) &&& (x1 - (1 : Int32))) fun x_7 =>
    if 0 < x_7 then
    if x_7 ≤ (65536 : Int32) then
    f_J6_numberOfTrailingZeros_0f7a4_34 (1 : Int32) x_7
    else
    nm (ushrI x_7 (16 : Int32)) fun x_33 =>
    f_J6_numberOfTrailingZeros_0f7a4_34 ((1 : Int32) + (16 : Int32)) x_33
    else
    some (x_7 &&& (32 : Int32))
abbrev rmJ6_numberOfTrailingZeros_0f7a4 : Room := { frames := 0, cells := 0, slots := 0, locals := 0 }
set_option maxRecDepth 100000 in
set_option maxHeartbeats 4000000 in
theorem c_J6_numberOfTrailingZeros_0f7a4 (l : Launch) (G : EnT) (x1 : Int32) (o : Int32) (h : f_J6_numberOfTrailingZeros_0f7a4 x1 = some o) : Mi l yJ6_numberOfTrailingZeros_0f7a4 rmJ6_numberOfTrailingZeros_0f7a4 cJ6_numberOfTrailingZeros_0f7a4 2 (some .int) G false [.int x1] ([]) o ([]) := by
  refine Mi_of (by decide) (Nat.le_of_ble_eq_true rfl) ?_
  intro p e s m below meth c A0 F hr hW ls hl
  obtain ⟨hx, hb, hml, hown, hts, hK, hNW, hlocks, hA, hSX⟩ := id F
  have hl : lv_has ls 2 [(0, .int x1)] := hl
  have hW : Wd G A0 s ([]) s.heap [] := hW
  show W p l e rmJ6_numberOfTrailingZeros_0f7a4 s m ([.int x1] : List Value).toArray below meth c s.heap [] 0 0 (Qi below G ([]) o A0 ([.int x1] : List Value).toArray s) (F0 m 0 ls [])
  have J0 : ∀ (v1_62 : Int32) (v0_62 : Int32) (H : Heap) (locs : List Loc) (ls : Array Slot), f_J6_numberOfTrailingZeros_0f7a4_62 v1_62 v0_62 = some o → Wd G A0 s ([]) H locs → lv_has ls 2 [(1, .int v1_62), (0, .int v0_62)] → W p l e rmJ6_numberOfTrailingZeros_0f7a4 s m ([.int x1] : List Value).toArray below meth c H locs 0 0 (Qi below G ([]) o A0 ([.int x1] : List Value).toArray s) (F0 m 62 ls []) := by
    intro v1_62 v0_62 H locs ls h hW hl
    refine lv_iload_n hx hb dJ6_numberOfTrailingZeros_0f7a4_62 rfl (lv_at hl 1 rfl) ?_
    refine lv_iconst (v := (4 : Int32)) hx hb dJ6_numberOfTrailingZeros_0f7a4_63 (by decide) ?_
    obtain ⟨ht_64, hf_64⟩ := of_ite h
    refine lv_icmp_le (tgt := 74) hx hb dJ6_numberOfTrailingZeros_0f7a4_64 (by decide) (fun c_64 => ?_) (fun c_64 => ?_)
    · have h := ht_64 c_64
      refine lv_iload_n hx hb dJ6_numberOfTrailingZeros_0f7a4_74 rfl (lv_at hl 0 rfl) ?_
      refine lv_iload_n hx hb dJ6_numberOfTrailingZeros_0f7a4_75 rfl (lv_at hl 1 rfl) ?_
      refine lv_iconst (v := (1 : Int32)) hx hb dJ6_numberOfTrailingZeros_0f7a4_76 (by decide) ?_
      refine lv_iushr (v := (ushrI v0_62 (1 : Int32))) hx hb dJ6_numberOfTrailingZeros_0f7a4_77 rfl ?_
      refine lv_iadd hx hb dJ6_numberOfTrailingZeros_0f7a4_78 ?_
      obtain rfl := Option.some.inj h
      exact x_reti F hr hW rfl dJ6_numberOfTrailingZeros_0f7a4_79
    · have h := hf_64 c_64
      refine lv_iinc (v := (v1_62 + (2 : Int32))) (lv' := [(1, .int (v1_62 + (2 : Int32))), (0, .int v0_62)]) hx hb dJ6_numberOfTrailingZeros_0f7a4_67 hl (k := 0) rfl rfl (by decide) rfl (fun ls hl => ?_)
      refine lv_iload_n hx hb dJ6_numberOfTrailingZeros_0f7a4_70 rfl (lv_at hl 1 rfl) ?_
      refine lv_iconst (v := (2 : Int32)) hx hb dJ6_numberOfTrailingZeros_0f7a4_71 (by decide) ?_
      refine lv_iushr (v := (ushrI v0_62 (2 : Int32))) hx hb dJ6_numberOfTrailingZeros_0f7a4_72 rfl ?_
      obtain ⟨x_73, e_x_73, h⟩ := of_nm h
      refine x_topi e_x_73 ?_
      refine lv_istore_n (lv' := [(0, .int x_73), (1, .int (v1_62 + (2 : Int32)))]) hx hb dJ6_numberOfTrailingZeros_0f7a4_73 rfl hl (by decide) rfl (fun ls hl => ?_)
      refine lv_iload_n hx hb dJ6_numberOfTrailingZeros_0f7a4_74 rfl (lv_at hl 1 rfl) ?_
      refine lv_iload_n hx hb dJ6_numberOfTrailingZeros_0f7a4_75 rfl (lv_at hl 0 rfl) ?_
      refine lv_iconst (v := (1 : Int32)) hx hb dJ6_numberOfTrailingZeros_0f7a4_76 (by decide) ?_
      refine lv_iushr (v := (ushrI x_73 (1 : Int32))) hx hb dJ6_numberOfTrailingZeros_0f7a4_77 rfl ?_
      refine lv_iadd hx hb dJ6_numberOfTrailingZeros_0f7a4_78 ?_
      obtain rfl := Option.some.inj h
      exact x_reti F hr hW rfl dJ6_numberOfTrailingZeros_0f7a4_79
  have J1 : ∀ (v1_49 : Int32) (v0_49 : Int32) (H : Heap) (locs : List Loc) (ls : Array Slot), f_J6_numberOfTrailingZeros_0f7a4_49 v1_49 v0_49 = some o → Wd G A0 s ([]) H locs → lv_has ls 2 [(1, .int v1_49), (0, .int v0_49)] → W p l e rmJ6_numberOfTrailingZeros_0f7a4 s m ([.int x1] : List Value).toArray below meth c H locs 0 0 (Qi below G ([]) o A0 ([.int x1] : List Value).toArray s) (F0 m 49 ls []) := by
    intro v1_49 v0_49 H locs ls h hW hl
    refine lv_iload_n hx hb dJ6_numberOfTrailingZeros_0f7a4_49 rfl (lv_at hl 1 rfl) ?_
    refine lv_bipush (v := (16 : Int32)) hx hb dJ6_numberOfTrailingZeros_0f7a4_50 (by decide) ?_
    obtain ⟨ht_52, hf_52⟩ := of_ite h
    refine lv_icmp_le (tgt := 62) hx hb dJ6_numberOfTrailingZeros_0f7a4_52 (by decide) (fun c_52 => ?_) (fun c_52 => ?_)
    · have h := ht_52 c_52
      exact J0 v1_49 v0_49 _ _ _ h hW (lv_sub hl [0, 1] rfl)
    · have h := hf_52 c_52
      refine lv_iinc (v := (v1_49 + (4 : Int32))) (lv' := [(1, .int (v1_49 + (4 : Int32))), (0, .int v0_49)]) hx hb dJ6_numberOfTrailingZeros_0f7a4_55 hl (k := 0) rfl rfl (by decide) rfl (fun ls hl => ?_)
      refine lv_iload_n hx hb dJ6_numberOfTrailingZeros_0f7a4_58 rfl (lv_at hl 1 rfl) ?_
      refine lv_iconst (v := (4 : Int32)) hx hb dJ6_numberOfTrailingZeros_0f7a4_59 (by decide) ?_
      refine lv_iushr (v := (ushrI v0_49 (4 : Int32))) hx hb dJ6_numberOfTrailingZeros_0f7a4_60 rfl ?_
      obtain ⟨x_61, e_x_61, h⟩ := of_nm h
      refine x_topi e_x_61 ?_
      refine lv_istore_n (lv' := [(0, .int x_61), (1, .int (v1_49 + (4 : Int32)))]) hx hb dJ6_numberOfTrailingZeros_0f7a4_61 rfl hl (by decide) rfl (fun ls hl => ?_)
      exact J0 (v1_49 + (4 : Int32)) x_61 _ _ _ h hW (lv_sub hl [1, 0] rfl)
  have J2 : ∀ (v1_34 : Int32) (v0_34 : Int32) (H : Heap) (locs : List Loc) (ls : Array Slot), f_J6_numberOfTrailingZeros_0f7a4_34 v1_34 v0_34 = some o → Wd G A0 s ([]) H locs → lv_has ls 2 [(1, .int v1_34), (0, .int v0_34)] → W p l e rmJ6_numberOfTrailingZeros_0f7a4 s m ([.int x1] : List Value).toArray below meth c H locs 0 0 (Qi below G ([]) o A0 ([.int x1] : List Value).toArray s) (F0 m 34 ls []) := by
    intro v1_34 v0_34 H locs ls h hW hl
    refine lv_iload_n hx hb dJ6_numberOfTrailingZeros_0f7a4_34 rfl (lv_at hl 1 rfl) ?_
    refine lv_sipush (v := (256 : Int32)) hx hb dJ6_numberOfTrailingZeros_0f7a4_35 (by decide) ?_
    obtain ⟨ht_38, hf_38⟩ := of_ite h
    refine lv_icmp_le (tgt := 49) hx hb dJ6_numberOfTrailingZeros_0f7a4_38 (by decide) (fun c_38 => ?_) (fun c_38 => ?_)
    · have h := ht_38 c_38
      exact J1 v1_34 v0_34 _ _ _ h hW (lv_sub hl [0, 1] rfl)
    · have h := hf_38 c_38
      refine lv_iinc (v := (v1_34 + (8 : Int32))) (lv' := [(1, .int (v1_34 + (8 : Int32))), (0, .int v0_34)]) hx hb dJ6_numberOfTrailingZeros_0f7a4_41 hl (k := 0) rfl rfl (by decide) rfl (fun ls hl => ?_)
      refine lv_iload_n hx hb dJ6_numberOfTrailingZeros_0f7a4_44 rfl (lv_at hl 1 rfl) ?_
      refine lv_bipush (v := (8 : Int32)) hx hb dJ6_numberOfTrailingZeros_0f7a4_45 (by decide) ?_
      refine lv_iushr (v := (ushrI v0_34 (8 : Int32))) hx hb dJ6_numberOfTrailingZeros_0f7a4_47 rfl ?_
      obtain ⟨x_48, e_x_48, h⟩ := of_nm h
      refine x_topi e_x_48 ?_
      refine lv_istore_n (lv' := [(0, .int x_48), (1, .int (v1_34 + (8 : Int32)))]) hx hb dJ6_numberOfTrailingZeros_0f7a4_48 rfl hl (by decide) rfl (fun ls hl => ?_)
      exact J1 (v1_34 + (8 : Int32)) x_48 _ _ _ h hW (lv_sub hl [1, 0] rfl)
  refine lv_iload_n hx hb dJ6_numberOfTrailingZeros_0f7a4_0 rfl (lv_at hl 0 rfl) ?_
  refine lv_iconst (v := (-1 : Int32)) hx hb dJ6_numberOfTrailingZeros_0f7a4_1 (by decide) ?_
  refine lv_ixor hx hb dJ6_numberOfTrailingZeros_0f7a4_2 ?_
  refine lv_iload_n hx hb dJ6_numberOfTrailingZeros_0f7a4_3 rfl (lv_at hl 0 rfl) ?_
  refine lv_iconst (v := (1 : Int32)) hx hb dJ6_numberOfTrailingZeros_0f7a4_4 (by decide) ?_
  refine lv_isub hx hb dJ6_numberOfTrailingZeros_0f7a4_5 ?_
  refine lv_iand hx hb dJ6_numberOfTrailingZeros_0f7a4_6 ?_
  obtain ⟨x_7, e_x_7, h⟩ := of_nm h
  refine x_topi e_x_7 ?_
  refine lv_istore_n (lv' := [(0, .int x_7)]) hx hb dJ6_numberOfTrailingZeros_0f7a4_7 rfl hl (by decide) rfl (fun ls hl => ?_)
  refine lv_iload_n hx hb dJ6_numberOfTrailingZeros_0f7a4_8 rfl (lv_at hl 0 rfl) ?_
  obtain ⟨ht_9, hf_9⟩ := of_ite h
  refine lv_if_gt (tgt := 17) hx hb dJ6_numberOfTrailingZeros_0f7a4_9 (by decide) (fun c_9 => ?_) (fun c_9 => ?_)
  · have h := ht_9 c_9
    refine lv_iconst (v := (1 : Int32)) hx hb dJ6_numberOfTrailingZeros_0f7a4_17 (by decide) ?_
    refine lv_istore_n (lv' := [(1, .int (1 : Int32)), (0, .int x_7)]) hx hb dJ6_numberOfTrailingZeros_0f7a4_18 rfl hl (by decide) rfl (fun ls hl => ?_)
    refine lv_iload_n hx hb dJ6_numberOfTrailingZeros_0f7a4_19 rfl (lv_at hl 1 rfl) ?_
    refine lv_ldcw (v := (65536 : Int32)) hx hb hown (hts _ wd_566) dJ6_numberOfTrailingZeros_0f7a4_20 ?_
    obtain ⟨ht_23, hf_23⟩ := of_ite h
    refine lv_icmp_le (tgt := 34) hx hb dJ6_numberOfTrailingZeros_0f7a4_23 (by decide) (fun c_23 => ?_) (fun c_23 => ?_)
    · have h := ht_23 c_23
      exact J2 (1 : Int32) x_7 _ _ _ h hW (lv_sub hl [0, 1] rfl)
    · have h := hf_23 c_23
      refine lv_iinc (v := ((1 : Int32) + (16 : Int32))) (lv' := [(1, .int ((1 : Int32) + (16 : Int32))), (0, .int x_7)]) hx hb dJ6_numberOfTrailingZeros_0f7a4_26 hl (k := 0) rfl rfl (by decide) rfl (fun ls hl => ?_)
      refine lv_iload_n hx hb dJ6_numberOfTrailingZeros_0f7a4_29 rfl (lv_at hl 1 rfl) ?_
      refine lv_bipush (v := (16 : Int32)) hx hb dJ6_numberOfTrailingZeros_0f7a4_30 (by decide) ?_
      refine lv_iushr (v := (ushrI x_7 (16 : Int32))) hx hb dJ6_numberOfTrailingZeros_0f7a4_32 rfl ?_
      obtain ⟨x_33, e_x_33, h⟩ := of_nm h
      refine x_topi e_x_33 ?_
      refine lv_istore_n (lv' := [(0, .int x_33), (1, .int ((1 : Int32) + (16 : Int32)))]) hx hb dJ6_numberOfTrailingZeros_0f7a4_33 rfl hl (by decide) rfl (fun ls hl => ?_)
      exact J2 ((1 : Int32) + (16 : Int32)) x_33 _ _ _ h hW (lv_sub hl [1, 0] rfl)
  · have h := hf_9 c_9
    refine lv_iload_n hx hb dJ6_numberOfTrailingZeros_0f7a4_12 rfl (lv_at hl 0 rfl) ?_
    refine lv_bipush (v := (32 : Int32)) hx hb dJ6_numberOfTrailingZeros_0f7a4_13 (by decide) ?_
    refine lv_iand hx hb dJ6_numberOfTrailingZeros_0f7a4_15 ?_
    obtain rfl := Option.some.inj h
    exact x_reti F hr hW rfl dJ6_numberOfTrailingZeros_0f7a4_16
def f_X4_firstDark_11 (p_5 : Int32) : Nat → Int32 → TW → Option (Int32 × TW)
  | 0, _, _ => none
  | n0 + 1, v2_11, w_11 =>
    if (60 : Int32) < v2_11 then
    some ((-9 : Int32), w_11)
    else
    Option.bind (f_X4_hangers w_11) fun p_19 =>
    nm (p_5 &&& (p_19 ^^^ (-1 : Int32))) fun x_25 =>
    if x_25 = 0 then
    Option.bind (f_X1_passNight w_11.2.1) fun p_39 =>
    f_X4_firstDark_11 p_5 n0 (v2_11 + (1 : Int32)) (w_11.1, p_39, w_11.2.2.1, w_11.2.2.2.1, w_11.2.2.2.2.1, w_11.2.2.2.2.2.1, w_11.2.2.2.2.2.2)
    else
    Option.bind (f_J6_numberOfTrailingZeros_0f7a4 x_25) fun p_31 =>
    some (p_31, w_11)
def f_X4_firstDark (w : TW) : Option (Int32 × TW) :=
  Option.bind (f_X4_begin w) fun p_1 =>
    Option.bind (f_X4_hangers p_1) fun p_5 =>
    f_X4_firstDark_11 p_5 200 (0 : Int32) p_1
abbrev rmX4_firstDark : Room := { frames := 4, cells := 0, slots := 0, locals := 105 }
set_option maxRecDepth 100000 in
set_option maxHeartbeats 4000000 in
theorem c_X4_firstDark (l : Launch) (G : EnT) (q : Nat → Nat) (w : TW) (o : Int32 × TW) (h : f_X4_firstDark w = some o) : Mi l yX4_firstDark rmX4_firstDark cX4_firstDark 4 (some .int) G false [.ref (q 0)] (cTW G q w) o.1 (cTW G q o.2) := by
  refine Mi_of (by decide) (Nat.le_of_ble_eq_true rfl) ?_
  intro p e s m below meth c A0 F hr hW ls hl
  obtain ⟨hx, hb, hml, hown, hts, hK, hNW, hlocks, hA, hSX⟩ := id F
  have hl : lv_has ls 4 [(0, .ref (q 0))] := hl
  have hW : Wd G A0 s (cTW G q w) s.heap [] := hW
  show W p l e rmX4_firstDark s m ([.ref (q 0)] : List Value).toArray below meth c s.heap [] 0 0 (Qi below G (cTW G q o.2) o.1 A0 ([.ref (q 0)] : List Value).toArray s) (F0 m 0 ls [])
  refine lv_aload_n hx hb dX4_firstDark_0 rfl (lv_at hl 0 rfl) ?_
  obtain ⟨p_1, hc_1, h⟩ := of_bind h
  refine x_Vv (av := [.ref (q 0)]) (As := []) F hW (c_X4_begin l G q w _ hc_1) [0, 1, 2, 3, 4, 5, 6, 7, 8, 9, 10, 11, 12, 13, 14, 15, 16, 17, 18, 19, 20, 21] rfl rfl (by intro q; cases q) cv_X4_71 rfl ⟨_, rfl, rfl⟩ rfl rfl rfl hl (Nat.le_of_ble_eq_true rfl) ⟨Nat.le_of_ble_eq_true rfl, Nat.le_of_ble_eq_true rfl⟩ ⟨rfl, rfl⟩ ⟨Nat.le_of_ble_eq_true rfl, Nat.le_of_ble_eq_true rfl⟩ dX4_firstDark_1 rfl [some 0, some 1, some 2, some 3, some 4, some 5, some 6, some 7, some 8, some 9, some 10, some 11, some 12, some 13, some 14, some 15, some 16, some 17, some 18, some 19, some 20, some 21] rfl (ws' := cTW G q p_1) rfl (fun H locs hW => ?_)
  refine lv_aload_n hx hb dX4_firstDark_4 rfl (lv_at hl 0 rfl) ?_
  obtain ⟨p_5, hc_5, h⟩ := of_bind h
  refine x_Vi (av := [.ref (q 0)]) (As := []) F hW (c_X4_hangers l G q p_1 _ hc_5) [0, 1, 2, 3, 4, 5, 6, 7, 8, 9, 10, 11, 12, 13, 14, 15, 16, 17, 18, 19, 20, 21] rfl rfl (by intro q; cases q) cv_X4_74 rfl ⟨_, rfl, rfl⟩ rfl rfl rfl hl (Nat.le_of_ble_eq_true rfl) ⟨Nat.le_of_ble_eq_true rfl, Nat.le_of_ble_eq_true rfl⟩ ⟨rfl, rfl⟩ ⟨Nat.le_of_ble_eq_true rfl, Nat.le_of_ble_eq_true rfl⟩ dX4_firstDark_5 rfl [some 0, some 1, some 2, some 3, some 4, some 5, some 6, some 7, some 8, some 9, some 10, some 11, some 12, some 13, some 14, some 15, some 16, some 17, some 18, some 19, some 20, some 21] rfl (ws' := cTW G q p_1) rfl (fun H locs hW => ?_)
  refine lv_istore_n (lv' := [(1, .int p_5), (0, .ref (q 0))]) hx hb dX4_firstDark_8 rfl hl (by decide) rfl (fun ls hl => ?_)
  refine lv_iconst (v := (0 : Int32)) hx hb dX4_firstDark_9 (by decide) ?_
  refine lv_istore_n (lv' := [(2, .int (0 : Int32)), (1, .int p_5), (0, .ref (q 0))]) hx hb dX4_firstDark_10 rfl hl (by decide) rfl (fun ls hl => ?_)
  have L0 : ∀ (n0 : Nat) (v2_11 : Int32) (w_11 : TW) (H : Heap) (locs : List Loc) (ls : Array Slot), f_X4_firstDark_11 p_5 n0 v2_11 w_11 = some o → Wd G A0 s (cTW G q w_11) H locs → lv_has ls 4 [(2, .int v2_11), (1, .int p_5), (0, .ref (q 0))] → W p l e rmX4_firstDark s m ([.ref (q 0)] : List Value).toArray below meth c H locs 0 0 (Qi below G (cTW G q o.2) o.1 A0 ([.ref (q 0)] : List Value).toArray s) (F0 m 11 ls []) := by
    intro n0
    induction n0 with
    | zero => intro v2_11 w_11 H locs ls h; cases (show (none : Option (Int32 × TW)) = some o from h)
    | succ n0 ih0 =>
      intro v2_11 w_11 H locs ls h hW hl
      refine lv_iload_n hx hb dX4_firstDark_11 rfl (lv_at hl 0 rfl) ?_
      refine lv_bipush (v := (60 : Int32)) hx hb dX4_firstDark_12 (by decide) ?_
      obtain ⟨ht_14, hf_14⟩ := of_ite h
      refine lv_icmp_gt (tgt := 48) hx hb dX4_firstDark_14 (by decide) (fun c_14 => ?_) (fun c_14 => ?_)
      · have h := ht_14 c_14
        refine lv_bipush (v := (-9 : Int32)) hx hb dX4_firstDark_48 (by decide) ?_
        obtain rfl := Option.some.inj h
        exact x_reti F hr hW rfl dX4_firstDark_50
      · have h := hf_14 c_14
        refine lv_iload_n hx hb dX4_firstDark_17 rfl (lv_at hl 1 rfl) ?_
        refine lv_aload_n hx hb dX4_firstDark_18 rfl (lv_at hl 2 rfl) ?_
        obtain ⟨p_19, hc_19, h⟩ := of_bind h
        refine x_Vi (av := [.ref (q 0)]) (As := []) F hW (c_X4_hangers l G q w_11 _ hc_19) [0, 1, 2, 3, 4, 5, 6, 7, 8, 9, 10, 11, 12, 13, 14, 15, 16, 17, 18, 19, 20, 21] rfl rfl (by intro q; cases q) cv_X4_74 rfl ⟨_, rfl, rfl⟩ rfl rfl rfl hl (Nat.le_of_ble_eq_true rfl) ⟨Nat.le_of_ble_eq_true rfl, Nat.le_of_ble_eq_true rfl⟩ ⟨rfl, rfl⟩ ⟨Nat.le_of_ble_eq_true rfl, Nat.le_of_ble_eq_true rfl⟩ dX4_firstDark_19 rfl [some 0, some 1, some 2, some 3, some 4, some 5, some 6, some 7, some 8, some 9, some 10, some 11, some 12, some 13, some 14, some 15, some 16, some 17, some 18, some 19, some 20, some 21] rfl (ws' := cTW G q w_11) rfl (fun H locs hW => ?_)
        refine lv_iconst (v := (-1 : Int32)) hx hb dX4_firstDark_22 (by decide) ?_
        refine lv_ixor hx hb dX4_firstDark_23 ?_
        refine lv_iand hx hb dX4_firstDark_24 ?_
        obtain ⟨x_25, e_x_25, h⟩ := of_nm h
        refine x_topi e_x_25 ?_
        refine lv_istore_n (lv' := [(3, .int x_25), (2, .int v2_11), (1, .int p_5), (0, .ref (q 0))]) hx hb dX4_firstDark_25 rfl hl (by decide) rfl (fun ls hl => ?_)
        refine lv_iload_n hx hb dX4_firstDark_26 rfl (lv_at hl 0 rfl) ?_
        obtain ⟨ht_27, hf_27⟩ := of_ite h
        refine lv_if_eq (tgt := 35) hx hb dX4_firstDark_27 (by decide) (fun c_27 => ?_) (fun c_27 => ?_)
        · have h := ht_27 c_27
          refine lv_aload_n hx hb dX4_firstDark_35 rfl (lv_at hl 3 rfl) ?_
          refine x_get F hW 0 rfl fa_X4_18 rfl dX4_firstDark_36 ?_
          obtain ⟨p_39, hc_39, h⟩ := of_bind h
          refine x_Vv (av := [.ref (q 7)]) (As := []) F hW (c_X1_passNight l G (fun i => q (i + 7)) w_11.2.1 _ hc_39) [7, 8, 9, 10, 11, 12] rfl rfl (by intro q; cases q) cv_X4_64 rfl ⟨_, rfl, rfl⟩ rfl rfl rfl hl (Nat.le_of_ble_eq_true rfl) ⟨Nat.le_of_ble_eq_true rfl, Nat.le_of_ble_eq_true rfl⟩ ⟨rfl, rfl⟩ ⟨Nat.le_of_ble_eq_true rfl, Nat.le_of_ble_eq_true rfl⟩ dX4_firstDark_39 rfl [none, none, none, none, none, none, none, some 0, some 1, some 2, some 3, some 4, some 5, none, none, none, none, none, none, none, none, none] rfl (ws' := cTW G q (w_11.1, p_39, w_11.2.2.1, w_11.2.2.2.1, w_11.2.2.2.2.1, w_11.2.2.2.2.2.1, w_11.2.2.2.2.2.2)) rfl (fun H locs hW => ?_)
          refine lv_iinc (v := (v2_11 + (1 : Int32))) (lv' := [(2, .int (v2_11 + (1 : Int32))), (3, .int x_25), (1, .int p_5), (0, .ref (q 0))]) hx hb dX4_firstDark_42 hl (k := 1) rfl rfl (by decide) rfl (fun ls hl => ?_)
          refine lv_goto (tgt := 11) hx hb dX4_firstDark_45 (by decide) ?_
          exact ih0 (v2_11 + (1 : Int32)) (w_11.1, p_39, w_11.2.2.1, w_11.2.2.2.1, w_11.2.2.2.2.1, w_11.2.2.2.2.2.1, w_11.2.2.2.2.2.2) _ _ _ h hW (lv_sub hl [0, 2, 3] rfl)
        · have h := hf_27 c_27
          refine lv_iload_n hx hb dX4_firstDark_30 rfl (lv_at hl 0 rfl) ?_
          obtain ⟨p_31, hc_31, h⟩ := of_bind h
          refine x_Si (av := [.int x_25]) F hW (c_J6_numberOfTrailingZeros_0f7a4 l G x_25 _ hc_31) [] rfl rfl (by intro q; cases q) cs_X4_84 rfl rfl hl (Nat.le_of_ble_eq_true rfl) ⟨Nat.le_of_ble_eq_true rfl, Nat.le_of_ble_eq_true rfl⟩ ⟨rfl, rfl⟩ ⟨Nat.le_of_ble_eq_true rfl, Nat.le_of_ble_eq_true rfl⟩ dX4_firstDark_31 rfl [none, none, none, none, none, none, none, none, none, none, none, none, none, none, none, none, none, none, none, none, none, none] rfl (ws' := cTW G q w_11) rfl (fun H locs hW => ?_)
          obtain rfl := Option.some.inj h
          exact x_reti F hr hW rfl dX4_firstDark_34
  exact L0 200 (0 : Int32) p_1 _ _ _ h hW (lv_sub hl [0, 1, 2] rfl)
