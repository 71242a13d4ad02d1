def f_X4_wholeBehind_6 : Nat → Int32 → TW → Option (Int32 × TW)
  | 0, _, _ => none
  | n0 + 1, v1_6, w_6 =>
    if (60 : Int32) < v1_6 then
    some ((-9 : Int32), w_6)
    else
    Option.bind (f_X4_hangers w_6) fun p_13 =>
    Option.bind (f_X1_allHouses w_6.2.1) fun p_20 =>
    if p_13 = p_20 then
    some (v1_6, w_6)
    else
    Option.bind (f_X1_passNight w_6.2.1) fun p_32 =>
    f_X4_wholeBehind_6 n0 (v1_6 + (1 : Int32)) (w_6.1, p_32, w_6.2.2.1, w_6.2.2.2.1, w_6.2.2.2.2.1, w_6.2.2.2.2.2.1, w_6.2.2.2.2.2.2)
def f_X4_wholeBehind (w : TW) : Option (Int32 × TW) :=
  Option.bind (f_X4_begin w) fun p_1 =>
    f_X4_wholeBehind_6 200 (0 : Int32) p_1
abbrev rmX4_wholeBehind : Room := { frames := 4, cells := 0, slots := 0, locals := 105 }
set_option maxRecDepth 100000 in
set_option maxHeartbeats 4000000 in
theorem c_X4_wholeBehind (l : Launch) (G : EnT) (q : Nat → Nat) (w : TW) (o : Int32 × TW) (h : f_X4_wholeBehind w = some o) : Mi l yX4_wholeBehind rmX4_wholeBehind cX4_wholeBehind 2 (some .int) G false [.ref (q 0)] (cTW G q w) o.1 (cTW G q o.2) := by
  refine Mi_of (by decide) (Nat.le_of_ble_eq_true rfl) ?_
  intro p e s m below meth c A0 F hr hW ls hl
  obtain ⟨hx, hb, hml, hown, hts, hK, hNW, hlocks, hA, hSX⟩ := id F
  have hl : lv_has ls 2 [(0, .ref (q 0))] := hl
  have hW : Wd G A0 s (cTW G q w) s.heap [] := hW
  show W p l e rmX4_wholeBehind s m ([.ref (q 0)] : List Value).toArray below meth c s.heap [] 0 0 (Qi below G (cTW G q o.2) o.1 A0 ([.ref (q 0)] : List Value).toArray s) (F0 m 0 ls [])
  refine lv_aload_n hx hb dX4_wholeBehind_0 rfl (lv_at hl 0 rfl) ?_
  obtain ⟨p_1, hc_1, h⟩ := of_bind h
  refine x_Vv (av := [.ref (q 0)]) (As := []) F hW (c_X4_begin l G q w _ hc_1) [0, 1, 2, 3, 4, 5, 6, 7, 8, 9, 10, 11, 12, 13, 14, 15, 16, 17, 18, 19, 20, 21] rfl rfl (by intro q; cases q) cv_X4_71 rfl ⟨_, rfl, rfl⟩ rfl rfl rfl hl (Nat.le_of_ble_eq_true rfl) ⟨Nat.le_of_ble_eq_true rfl, Nat.le_of_ble_eq_true rfl⟩ ⟨rfl, rfl⟩ ⟨Nat.le_of_ble_eq_true rfl, Nat.le_of_ble_eq_true rfl⟩ dX4_wholeBehind_1 rfl [some 0, some 1, some 2, some 3, some 4, some 5, some 6, some 7, some 8, some 9, some 10, some 11, some 12, some 13, some 14, some 15, some 16, some 17, some 18, some 19, some 20, some 21] rfl (ws' := cTW G q p_1) rfl (fun H locs hW => ?_)
  refine lv_iconst (v := (0 : Int32)) hx hb dX4_wholeBehind_4 (by decide) ?_
  refine lv_istore_n (lv' := [(1, .int (0 : Int32)), (0, .ref (q 0))]) hx hb dX4_wholeBehind_5 rfl hl (by decide) rfl (fun ls hl => ?_)
  have L0 : ∀ (n0 : Nat) (v1_6 : Int32) (w_6 : TW) (H : Heap) (locs : List Loc) (ls : Array Slot), f_X4_wholeBehind_6 n0 v1_6 w_6 = some o → Wd G A0 s (cTW G q w_6) H locs → lv_has ls 2 [(1, .int v1_6), (0, .ref (q 0))] → W p l e rmX4_wholeBehind s m ([.ref (q 0)] : List Value).toArray below meth c H locs 0 0 (Qi below G (cTW G q o.2) o.1 A0 ([.ref (q 0)] : List Value).toArray s) (F0 m 6 ls []) := by
    intro n0
    induction n0 with
    | zero => intro v1_6 w_6 H locs ls h; cases (show (none : Option (Int32 × TW)) = some o from h)
    | succ n0 ih0 =>
      intro v1_6 w_6 H locs ls h hW hl
      refine lv_iload_n hx hb dX4_wholeBehind_6 rfl (lv_at hl 0 rfl) ?_
      refine lv_bipush (v := (60 : Int32)) hx hb dX4_wholeBehind_7 (by decide) ?_
      obtain ⟨ht_9, hf_9⟩ := of_ite h
      refine lv_icmp_gt (tgt := 41) hx hb dX4_wholeBehind_9 (by decide) (fun c_9 => ?_) (fun c_9 => ?_)
      · have h := ht_9 c_9
        refine lv_bipush (v := (-9 : Int32)) hx hb dX4_wholeBehind_41 (by decide) ?_
        obtain rfl := Option.some.inj h
        exact x_reti F hr hW rfl dX4_wholeBehind_43
      · have h := hf_9 c_9
        refine lv_aload_n hx hb dX4_wholeBehind_12 rfl (lv_at hl 1 rfl) ?_
        obtain ⟨p_13, hc_13, h⟩ := of_bind h
        refine x_Vi (av := [.ref (q 0)]) (As := []) F hW (c_X4_hangers l G q w_6 _ hc_13) [0, 1, 2, 3, 4, 5, 6, 7, 8, 9, 10, 11, 12, 13, 14, 15, 16, 17, 18, 19, 20, 21] rfl rfl (by intro q; cases q) cv_X4_74 rfl ⟨_, rfl, rfl⟩ rfl rfl rfl hl (Nat.le_of_ble_eq_true rfl) ⟨Nat.le_of_ble_eq_true rfl, Nat.le_of_ble_eq_true rfl⟩ ⟨rfl, rfl⟩ ⟨Nat.le_of_ble_eq_true rfl, Nat.le_of_ble_eq_true rfl⟩ dX4_wholeBehind_13 rfl [some 0, some 1, some 2, some 3, some 4, some 5, some 6, some 7, some 8, some 9, some 10, some 11, some 12, some 13, some 14, some 15, some 16, some 17, some 18, some 19, some 20, some 21] rfl (ws' := cTW G q w_6) rfl (fun H locs hW => ?_)
        refine lv_aload_n hx hb dX4_wholeBehind_16 rfl (lv_at hl 1 rfl) ?_
        refine x_get F hW 0 rfl fa_X4_18 rfl dX4_wholeBehind_17 ?_
        obtain ⟨p_20, hc_20, h⟩ := of_bind h
        refine x_Vi (av := [.ref (q 7)]) (As := []) F hW (c_X1_allHouses l G (fun i => q (i + 7)) w_6.2.1 _ hc_20) [7, 8, 9, 10, 11, 12] rfl rfl (by intro q; cases q) cv_X4_87 rfl ⟨_, rfl, rfl⟩ rfl rfl rfl hl (Nat.le_of_ble_eq_true rfl) ⟨Nat.le_of_ble_eq_true rfl, Nat.le_of_ble_eq_true rfl⟩ ⟨rfl, rfl⟩ ⟨Nat.le_of_ble_eq_true rfl, Nat.le_of_ble_eq_true rfl⟩ dX4_wholeBehind_20 rfl [none, none, none, none, none, none, none, some 0, some 1, some 2, some 3, some 4, some 5, none, none, none, none, none, none, none, none, none] rfl (ws' := cTW G q w_6) rfl (fun H locs hW => ?_)
        obtain ⟨ht_23, hf_23⟩ := of_ite h
        refine lv_icmp_ne (tgt := 28) hx hb dX4_wholeBehind_23 (by decide) (fun c_23 => ?_) (fun c_23 => ?_)
        · have h := hf_23 c_23
          refine lv_aload_n hx hb dX4_wholeBehind_28 rfl (lv_at hl 1 rfl) ?_
          refine x_get F hW 0 rfl fa_X4_18 rfl dX4_wholeBehind_29 ?_
          obtain ⟨p_32, hc_32, h⟩ := of_bind h
          refine x_Vv (av := [.ref (q 7)]) (As := []) F hW (c_X1_passNight l G (fun i => q (i + 7)) w_6.2.1 _ hc_32) [7, 8, 9, 10, 11, 12] rfl rfl (by intro q; cases q) cv_X4_64 rfl ⟨_, rfl, rfl⟩ rfl rfl rfl hl (Nat.le_of_ble_eq_true rfl) ⟨Nat.le_of_ble_eq_true rfl, Nat.le_of_ble_eq_true rfl⟩ ⟨rfl, rfl⟩ ⟨Nat.le_of_ble_eq_true rfl, Nat.le_of_ble_eq_true rfl⟩ dX4_wholeBehind_32 rfl [none, none, none, none, none, none, none, some 0, some 1, some 2, some 3, some 4, some 5, none, none, none, none, none, none, none, none, none] rfl (ws' := cTW G q (w_6.1, p_32, w_6.2.2.1, w_6.2.2.2.1, w_6.2.2.2.2.1, w_6.2.2.2.2.2.1, w_6.2.2.2.2.2.2)) rfl (fun H locs hW => ?_)
          refine lv_iinc (v := (v1_6 + (1 : Int32))) (lv' := [(1, .int (v1_6 + (1 : Int32))), (0, .ref (q 0))]) hx hb dX4_wholeBehind_35 hl (k := 0) rfl rfl (by decide) rfl (fun ls hl => ?_)
          refine lv_goto (tgt := 6) hx hb dX4_wholeBehind_38 (by decide) ?_
          exact ih0 (v1_6 + (1 : Int32)) (w_6.1, p_32, w_6.2.2.1, w_6.2.2.2.1, w_6.2.2.2.2.1, w_6.2.2.2.2.2.1, w_6.2.2.2.2.2.2) _ _ _ h hW (lv_sub hl [0, 1] rfl)
        · have h := ht_23 c_23
          refine lv_iload_n hx hb dX4_wholeBehind_26 rfl (lv_at hl 0 rfl) ?_
          obtain rfl := Option.some.inj h
          exact x_reti F hr hW rfl dX4_wholeBehind_27
  exact L0 200 (0 : Int32) p_1 _ _ _ h hW (lv_sub hl [0, 1] rfl)
def f_X4_seenBy (w : TW) (x1 : Int32) : Option (Int32 × TW) :=
  Option.bind (f_X4_begin w) fun p_1 =>
    if inR x1 8 then
    Option.bind (f_X5_has p_1.2.2.1.2.2.1 x1) fun p_21 =>
    if p_21 = 0 then
    some (((p_1.2.2.1.2.1 x1.toNatClampNeg) ||| (0 : Int32)), p_1)
    else
    some (((p_1.2.2.1.2.1 x1.toNatClampNeg) ||| (128 : Int32)), p_1)
    else none
abbrev rmX4_seenBy : Room := { frames := 4, cells := 0, slots := 0, locals := 105 }
set_option maxRecDepth 100000 in
set_option maxHeartbeats 4000000 in
theorem c_X4_seenBy (l : Launch) (G : EnT) (q : Nat → Nat) (w : TW) (x1 : Int32) (o : Int32 × TW) (h : f_X4_seenBy w x1 = some o) : Mi l yX4_seenBy rmX4_seenBy cX4_seenBy 2 (some .int) G false [.ref (q 0), .int x1] (cTW G q w) o.1 (cTW G q o.2) := by
  refine Mi_of (by decide) (Nat.le_of_ble_eq_true rfl) ?_
  intro p e s m below meth c A0 F hr hW ls hl
  obtain ⟨hx, hb, hml, hown, hts, hK, hNW, hlocks, hA, hSX⟩ := id F
  have hl : lv_has ls 2 [(0, .ref (q 0)), (1, .int x1)] := hl
  have hW : Wd G A0 s (cTW G q w) s.heap [] := hW
  show W p l e rmX4_seenBy s m ([.ref (q 0), .int x1] : List Value).toArray below meth c s.heap [] 0 0 (Qi below G (cTW G q o.2) o.1 A0 ([.ref (q 0), .int x1] : List Value).toArray s) (F0 m 0 ls [])
  refine lv_aload_n hx hb dX4_seenBy_0 rfl (lv_at hl 0 rfl) ?_
  obtain ⟨p_1, hc_1, h⟩ := of_bind h
  refine x_Vv (av := [.ref (q 0)]) (As := []) F hW (c_X4_begin l G q w _ hc_1) [0, 1, 2, 3, 4, 5, 6, 7, 8, 9, 10, 11, 12, 13, 14, 15, 16, 17, 18, 19, 20, 21] rfl rfl (by intro q; cases q) cv_X4_71 rfl ⟨_, rfl, rfl⟩ rfl rfl rfl hl (Nat.le_of_ble_eq_true rfl) ⟨Nat.le_of_ble_eq_true rfl, Nat.le_of_ble_eq_true rfl⟩ ⟨rfl, rfl⟩ ⟨Nat.le_of_ble_eq_true rfl, Nat.le_of_ble_eq_true rfl⟩ dX4_seenBy_1 rfl [some 0, some 1, some 2, some 3, some 4, some 5, some 6, some 7, some 8, some 9, some 10, some 11, some 12, some 13, some 14, some 15, some 16, some 17, some 18, some 19, some 20, some 21] rfl (ws' := cTW G q p_1) rfl (fun H locs hW => ?_)
  refine lv_aload_n hx hb dX4_seenBy_4 rfl (lv_at hl 0 rfl) ?_
  refine x_get F hW 0 rfl fa_X4_24 rfl dX4_seenBy_5 ?_
  refine x_get F hW 13 rfl fa_X4_90 rfl dX4_seenBy_8 ?_
  refine lv_iload_n hx hb dX4_seenBy_11 rfl (lv_at hl 1 rfl) ?_
  obtain ⟨g_12, h⟩ := of_guard h
  refine x_iald F hW 15 rfl g_12 dX4_seenBy_12 ?_
  refine lv_aload_n hx hb dX4_seenBy_13 rfl (lv_at hl 0 rfl) ?_
  refine x_get F hW 0 rfl fa_X4_24 rfl dX4_seenBy_14 ?_
  refine x_get F hW 13 rfl fa_X4_93 rfl dX4_seenBy_17 ?_
  refine lv_iload_n hx hb dX4_seenBy_20 rfl (lv_at hl 1 rfl) ?_
  obtain ⟨p_21, hc_21, h⟩ := of_bind h
  refine x_Ni (av := [.int p_1.2.2.1.2.2.1, .int x1]) F hW (c_X5_has l G p_1.2.2.1.2.2.1 x1 _ hc_21) [] rfl rfl (by intro q; cases q) cn_X4_80 rfl rfl hl (Nat.le_of_ble_eq_true rfl) ⟨Nat.le_of_ble_eq_true rfl, Nat.le_of_ble_eq_true rfl⟩ ⟨rfl, rfl⟩ ⟨Nat.le_of_ble_eq_true rfl, Nat.le_of_ble_eq_true rfl⟩ dX4_seenBy_21 rfl [none, none, none, none, none, none, none, none, none, none, none, none, none, none, none, none, none, none, none, none, none, none] rfl (ws' := cTW G q p_1) rfl (fun H locs hW => ?_)
  obtain ⟨ht_24, hf_24⟩ := of_ite h
  refine lv_if_eq (tgt := 33) hx hb dX4_seenBy_24 (by decide) (fun c_24 => ?_) (fun c_24 => ?_)
  · have h := ht_24 c_24
    refine lv_iconst (v := (0 : Int32)) hx hb dX4_seenBy_33 (by decide) ?_
    refine lv_ior hx hb dX4_seenBy_34 ?_
    obtain rfl := Option.some.inj h
    exact x_reti F hr hW rfl dX4_seenBy_35
  · have h := hf_24 c_24
    refine lv_sipush (v := (128 : Int32)) hx hb dX4_seenBy_27 (by decide) ?_
    refine lv_goto (tgt := 34) hx hb dX4_seenBy_30 (by decide) ?_
    refine lv_ior hx hb dX4_seenBy_34 ?_
    obtain rfl := Option.some.inj h
    exact x_reti F hr hW rfl dX4_seenBy_35
def f_X4_cellInTheWay_79 (x_64 : Int32) (w_41 : TW) (v3_41 : Int32) (t0_41 : Int32) (x_52 : Int32) : Nat → Int32 → Int32 → Int32 → Option (Int32 × TW)
  | 0, _, _, _ => none
  | n1 + 1, v9_79, v8_79, v7_79 =>
    if x_64 ≤ v9_79 then
    some (v7_79, w_41)
    else
    if inR v3_41 8 then
    if inR t0_41 8 then
    Option.bind (f_X3_aboveLine w_41.2.1 v9_79 x_52 (w_41.2.2.1.1 v3_41.toNatClampNeg) x_64 (w_41.2.2.1.1 t0_41.toNatClampNeg)) fun p_115 =>
    if v7_79 = (-9 : Int32) then
    f_X4_cellInTheWay_79 x_64 w_41 v3_41 t0_41 x_52 n1 (v9_79 + (1 : Int32)) p_115 v9_79
    else
    if p_115 ≤ v8_79 then
    f_X4_cellInTheWay_79 x_64 w_41 v3_41 t0_41 x_52 n1 (v9_79 + (1 : Int32)) v8_79 v7_79
    else
    f_X4_cellInTheWay_79 x_64 w_41 v3_41 t0_41 x_52 n1 (v9_79 + (1 : Int32)) p_115 v9_79
    else none
    else none
def f_X4_cellInTheWay_41 (v3_41 : Int32) (t0_41 : Int32) (w_41 : TW) : Option (Int32 × TW) :=
  if inR v3_41 8 then
    nm (w_41.2.1.2.2.2.1 v3_41.toNatClampNeg) fun x_52 =>
    if inR t0_41 8 then
    nm (w_41.2.1.2.2.2.1 t0_41.toNatClampNeg) fun x_64 =>
    nm (x_52 + (1 : Int32)) fun x_77 =>
    f_X4_cellInTheWay_79 x_64 w_41 v3_41 t0_41 x_52 200 x_77 (0 : Int32) (-9 : Int32)
    else none
    else none
def f_X4_cellInTheWay_30 (x1 : Int32) (x2 : Int32) (t0_30 : Int32) (w_30 : TW) : Option (Int32 × TW) :=
  if t0_30 = x1 then
    f_X4_cellInTheWay_41 t0_30 x2 w_30
    else
    f_X4_cellInTheWay_41 t0_30 x1 w_30
def f_X4_cellInTheWay (w : TW) (x1 : Int32) (x2 : Int32) : Option (Int32 × TW) :=
  Option.bind (f_X4_begin w) fun p_1 =>
    if inR x1 8 then
    if inR x2 8 then
    if (p_1.2.1.2.2.2.1 x2.toNatClampNeg) < (p_1.2.1.2.2.2.1 x1.toNatClampNeg) then
    f_X4_cellInTheWay_30 x1 x2 x2 p_1
    else
    f_X4_cellInTheWay_30 x1 x2 x1 p_1
    else none
    else none
abbrev rmX4_cellInTheWay : Room := { frames := 4, cells := 0, slots := 0, locals := 105 }
set_option maxRecDepth 100000 in
set_option maxHeartbeats 4000000 in
theorem c_X4_cellInTheWay (l : Launch) (G : EnT) (q : Nat → Nat) (w : TW) (x1 : Int32) (x2 : Int32) (o : Int32 × TW) (h : f_X4_cellInTheWay w x1 x2 = some o) : Mi l yX4_cellInTheWay rmX4_cellInTheWay cX4_cellInTheWay 11 (some .int) G false [.ref (q 0), .int x1, .int x2] (cTW G q w) o.1 (cTW G q o.2) := by
  refine Mi_of (by decide) (Nat.le_of_ble_eq_true rfl) ?_
  intro p e s m below meth c A0 F hr hW ls hl
  obtain ⟨hx, hb, hml, hown, hts, hK, hNW, hlocks, hA, hSX⟩ := id F
  have hl : lv_has ls 11 [(0, .ref (q 0)), (1, .int x1), (2, .int x2)] := hl
  have hW : Wd G A0 s (cTW G q w) s.heap [] := hW
  show W p l e rmX4_cellInTheWay s m ([.ref (q 0), .int x1, .int x2] : List Value).toArray below meth c s.heap [] 0 0 (Qi below G (cTW G q o.2) o.1 A0 ([.ref (q 0), .int x1, .int x2] : List Value).toArray s) (F0 m 0 ls [])
  have J0 : ∀ (v3_41 : Int32) (t0_41 : Int32) (w_41 : TW) (H : Heap) (locs : List Loc) (ls : Array Slot), f_X4_cellInTheWay_41 v3_41 t0_41 w_41 = some o → Wd G A0 s (cTW G q w_41) H locs → lv_has ls 11 [(3, .int v3_41), (0, .ref (q 0))] → W p l e rmX4_cellInTheWay s m ([.ref (q 0), .int x1, .int x2] : List Value).toArray below meth c H locs 0 0 (Qi below G (cTW G q o.2) o.1 A0 ([.ref (q 0), .int x1, .int x2] : List Value).toArray s) (F0 m 41 ls [.int t0_41]) := by
    intro v3_41 t0_41 w_41 H locs ls h hW hl
    refine lv_istore (lv' := [(4, .int t0_41), (3, .int v3_41), (0, .ref (q 0))]) hx hb dX4_cellInTheWay_41 hl (by decide) rfl (fun ls hl => ?_)
    refine lv_aload_n hx hb dX4_cellInTheWay_43 rfl (lv_at hl 2 rfl) ?_
    refine x_get F hW 0 rfl fa_X4_18 rfl dX4_cellInTheWay_44 ?_
    refine x_get F hW 7 rfl fa_X4_97 rfl dX4_cellInTheWay_47 ?_
    refine lv_iload_n hx hb dX4_cellInTheWay_50 rfl (lv_at hl 1 rfl) ?_
    obtain ⟨g_51, h⟩ := of_guard h
    refine x_iald F hW 11 rfl g_51 dX4_cellInTheWay_51 ?_
    obtain ⟨x_52, e_x_52, h⟩ := of_nm h
    refine x_topi e_x_52 ?_
    refine lv_istore (lv' := [(5, .int x_52), (4, .int t0_41), (3, .int v3_41), (0, .ref (q 0))]) hx hb dX4_cellInTheWay_52 hl (by decide) rfl (fun ls hl => ?_)
    refine lv_aload_n hx hb dX4_cellInTheWay_54 rfl (lv_at hl 3 rfl) ?_
    refine x_get F hW 0 rfl fa_X4_18 rfl dX4_cellInTheWay_55 ?_
    refine x_get F hW 7 rfl fa_X4_97 rfl dX4_cellInTheWay_58 ?_
    refine lv_iload hx hb dX4_cellInTheWay_61 (lv_at hl 1 rfl) ?_
    obtain ⟨g_63, h⟩ := of_guard h
    refine x_iald F hW 11 rfl g_63 dX4_cellInTheWay_63 ?_
    obtain ⟨x_64, e_x_64, h⟩ := of_nm h
    refine x_topi e_x_64 ?_
    refine lv_istore (lv' := [(6, .int x_64), (5, .int x_52), (4, .int t0_41), (3, .int v3_41), (0, .ref (q 0))]) hx hb dX4_cellInTheWay_64 hl (by decide) rfl (fun ls hl => ?_)
    refine lv_bipush (v := (-9 : Int32)) hx hb dX4_cellInTheWay_66 (by decide) ?_
    refine lv_istore (lv' := [(7, .int (-9 : Int32)), (6, .int x_64), (5, .int x_52), (4, .int t0_41), (3, .int v3_41), (0, .ref (q 0))]) hx hb dX4_cellInTheWay_68 hl (by decide) rfl (fun ls hl => ?_)
    refine lv_iconst (v := (0 : Int32)) hx hb dX4_cellInTheWay_70 (by decide) ?_
    refine lv_istore (lv' := [(8, .int (0 : Int32)), (7, .int (-9 : Int32)), (6, .int x_64), (5, .int x_52), (4, .int t0_41), (3, .int v3_41), (0, .ref (q 0))]) hx hb dX4_cellInTheWay_71 hl (by decide) rfl (fun ls hl => ?_)
    refine lv_iload hx hb dX4_cellInTheWay_73 (lv_at hl 3 rfl) ?_
    refine lv_iconst (v := (1 : Int32)) hx hb dX4_cellInTheWay_75 (by decide) ?_
    refine lv_iadd hx hb dX4_cellInTheWay_76 ?_
    obtain ⟨x_77, e_x_77, h⟩ := of_nm h
    refine x_topi e_x_77 ?_
    refine lv_istore (lv' := [(9, .int x_77), (8, .int (0 : Int32)), (7, .int (-9 : Int32)), (6, .int x_64), (5, .int x_52), (4, .int t0_41), (3, .int v3_41), (0, .ref (q 0))]) hx hb dX4_cellInTheWay_77 hl (by decide) rfl (fun ls hl => ?_)
    have L1 : ∀ (n1 : Nat) (v9_79 : Int32) (v8_79 : Int32) (v7_79 : Int32) (H : Heap) (locs : List Loc) (ls : Array Slot), f_X4_cellInTheWay_79 x_64 w_41 v3_41 t0_41 x_52 n1 v9_79 v8_79 v7_79 = some o → Wd G A0 s (cTW G q w_41) H locs → lv_has ls 11 [(9, .int v9_79), (8, .int v8_79), (7, .int v7_79), (6, .int x_64), (5, .int x_52), (4, .int t0_41), (3, .int v3_41), (0, .ref (q 0))] → W p l e rmX4_cellInTheWay s m ([.ref (q 0), .int x1, .int x2] : List Value).toArray below meth c H locs 0 0 (Qi below G (cTW G q o.2) o.1 A0 ([.ref (q 0), .int x1, .int x2] : List Value).toArray s) (F0 m 79 ls []) := by
      intro n1
      induction n1 with
      | zero => intro v9_79 v8_79 v7_79 H locs ls h; cases (show (none : Option (Int32 × TW)) = some o from h)
      | succ n1 ih1 =>
        intro v9_79 v8_79 v7_79 H locs ls h hW hl
        refine lv_iload hx hb dX4_cellInTheWay_79 (lv_at hl 0 rfl) ?_
        refine lv_iload hx hb dX4_cellInTheWay_81 (lv_at hl 3 rfl) ?_
        obtain ⟨ht_83, hf_83⟩ := of_ite h
        refine lv_icmp_ge (tgt := 148) hx hb dX4_cellInTheWay_83 (by decide) (fun c_83 => ?_) (fun c_83 => ?_)
        · have h := ht_83 c_83
          refine lv_iload hx hb dX4_cellInTheWay_148 (lv_at hl 2 rfl) ?_
          obtain rfl := Option.some.inj h
          exact x_reti F hr hW rfl dX4_cellInTheWay_150
        · have h := hf_83 c_83
          refine lv_aload_n hx hb dX4_cellInTheWay_86 rfl (lv_at hl 7 rfl) ?_
          refine x_get F hW 0 rfl fa_X4_18 rfl dX4_cellInTheWay_87 ?_
          refine lv_iload hx hb dX4_cellInTheWay_90 (lv_at hl 0 rfl) ?_
          refine lv_iload hx hb dX4_cellInTheWay_92 (lv_at hl 4 rfl) ?_
          refine lv_aload_n hx hb dX4_cellInTheWay_94 rfl (lv_at hl 7 rfl) ?_
          refine x_get F hW 0 rfl fa_X4_24 rfl dX4_cellInTheWay_95 ?_
          refine x_get F hW 13 rfl fa_X4_100 rfl dX4_cellInTheWay_98 ?_
          refine lv_iload_n hx hb dX4_cellInTheWay_101 rfl (lv_at hl 6 rfl) ?_
          obtain ⟨g_102, h⟩ := of_guard h
          refine x_iald F hW 14 rfl g_102 dX4_cellInTheWay_102 ?_
          refine lv_iload hx hb dX4_cellInTheWay_103 (lv_at hl 3 rfl) ?_
          refine lv_aload_n hx hb dX4_cellInTheWay_105 rfl (lv_at hl 7 rfl) ?_
          refine x_get F hW 0 rfl fa_X4_24 rfl dX4_cellInTheWay_106 ?_
          refine x_get F hW 13 rfl fa_X4_100 rfl dX4_cellInTheWay_109 ?_
          refine lv_iload hx hb dX4_cellInTheWay_112 (lv_at hl 5 rfl) ?_
          obtain ⟨g_114, h⟩ := of_guard h
          refine x_iald F hW 14 rfl g_114 dX4_cellInTheWay_114 ?_
          obtain ⟨p_115, hc_115, h⟩ := of_bind h
          refine x_Si (av := [.ref (q 7), .int v9_79, .int x_52, .int (w_41.2.2.1.1 v3_41.toNatClampNeg), .int x_64, .int (w_41.2.2.1.1 t0_41.toNatClampNeg)]) F hW (c_X3_aboveLine l G (fun i => q (i + 7)) w_41.2.1 v9_79 x_52 (w_41.2.2.1.1 v3_41.toNatClampNeg) x_64 (w_41.2.2.1.1 t0_41.toNatClampNeg) _ hc_115) [7, 8, 9, 10, 11, 12] rfl rfl (by intro q; cases q) cs_X4_103 rfl rfl hl (Nat.le_of_ble_eq_true rfl) ⟨Nat.le_of_ble_eq_true rfl, Nat.le_of_ble_eq_true rfl⟩ ⟨rfl, rfl⟩ ⟨Nat.le_of_ble_eq_true rfl, Nat.le_of_ble_eq_true rfl⟩ dX4_cellInTheWay_115 rfl [none, none, none, none, none, none, none, some 0, some 1, some 2, some 3, some 4, some 5, none, none, none, none, none, none, none, none, none] rfl (ws' := cTW G q w_41) rfl (fun H locs hW => ?_)
          refine lv_istore (lv' := [(10, .int p_115), (9, .int v9_79), (8, .int v8_79), (7, .int v7_79), (6, .int x_64), (5, .int x_52), (4, .int t0_41), (3, .int v3_41), (0, .ref (q 0))]) hx hb dX4_cellInTheWay_118 hl (by decide) rfl (fun ls hl => ?_)
          refine lv_iload hx hb dX4_cellInTheWay_120 (lv_at hl 3 rfl) ?_
          refine lv_bipush (v := (-9 : Int32)) hx hb dX4_cellInTheWay_122 (by decide) ?_
          obtain ⟨ht_124, hf_124⟩ := of_ite h
          refine lv_icmp_eq (tgt := 134) hx hb dX4_cellInTheWay_124 (by decide) (fun c_124 => ?_) (fun c_124 => ?_)
          · have h := ht_124 c_124
            refine lv_iload hx hb dX4_cellInTheWay_134 (lv_at hl 1 rfl) ?_
            refine lv_istore (lv' := [(7, .int v9_79), (10, .int p_115), (9, .int v9_79), (8, .int v8_79), (6, .int x_64), (5, .int x_52), (4, .int t0_41), (3, .int v3_41), (0, .ref (q 0))]) hx hb dX4_cellInTheWay_136 hl (by decide) rfl (fun ls hl => ?_)
            refine lv_iload hx hb dX4_cellInTheWay_138 (lv_at hl 1 rfl) ?_
            refine lv_istore (lv' := [(8, .int p_115), (7, .int v9_79), (10, .int p_115), (9, .int v9_79), (6, .int x_64), (5, .int x_52), (4, .int t0_41), (3, .int v3_41), (0, .ref (q 0))]) hx hb dX4_cellInTheWay_140 hl (by decide) rfl (fun ls hl => ?_)
            refine lv_iinc (v := (v9_79 + (1 : Int32))) (lv' := [(9, .int (v9_79 + (1 : Int32))), (8, .int p_115), (7, .int v9_79), (10, .int p_115), (6, .int x_64), (5, .int x_52), (4, .int t0_41), (3, .int v3_41), (0, .ref (q 0))]) hx hb dX4_cellInTheWay_142 hl (k := 3) rfl rfl (by decide) rfl (fun ls hl => ?_)
            refine lv_goto (tgt := 79) hx hb dX4_cellInTheWay_145 (by decide) ?_
            exact ih1 (v9_79 + (1 : Int32)) p_115 v9_79 _ _ _ h hW (lv_sub hl [0, 1, 2, 4, 5, 6, 7, 8] rfl)
          · have h := hf_124 c_124
            refine lv_iload hx hb dX4_cellInTheWay_127 (lv_at hl 0 rfl) ?_
            refine lv_iload hx hb dX4_cellInTheWay_129 (lv_at hl 2 rfl) ?_
            obtain ⟨ht_131, hf_131⟩ := of_ite h
            refine lv_icmp_le (tgt := 142) hx hb dX4_cellInTheWay_131 (by decide) (fun c_131 => ?_) (fun c_131 => ?_)
            · have h := ht_131 c_131
              refine lv_iinc (v := (v9_79 + (1 : Int32))) (lv' := [(9, .int (v9_79 + (1 : Int32))), (10, .int p_115), (8, .int v8_79), (7, .int v7_79), (6, .int x_64), (5, .int x_52), (4, .int t0_41), (3, .int v3_41), (0, .ref (q 0))]) hx hb dX4_cellInTheWay_142 hl (k := 1) rfl rfl (by decide) rfl (fun ls hl => ?_)
              refine lv_goto (tgt := 79) hx hb dX4_cellInTheWay_145 (by decide) ?_
              exact ih1 (v9_79 + (1 : Int32)) v8_79 v7_79 _ _ _ h hW (lv_sub hl [0, 2, 3, 4, 5, 6, 7, 8] rfl)
            · have h := hf_131 c_131
              refine lv_iload hx hb dX4_cellInTheWay_134 (lv_at hl 1 rfl) ?_
              refine lv_istore (lv' := [(7, .int v9_79), (10, .int p_115), (9, .int v9_79), (8, .int v8_79), (6, .int x_64), (5, .int x_52), (4, .int t0_41), (3, .int v3_41), (0, .ref (q 0))]) hx hb dX4_cellInTheWay_136 hl (by decide) rfl (fun ls hl => ?_)
              refine lv_iload hx hb dX4_cellInTheWay_138 (lv_at hl 1 rfl) ?_
              refine lv_istore (lv' := [(8, .int p_115), (7, .int v9_79), (10, .int p_115), (9, .int v9_79), (6, .int x_64), (5, .int x_52), (4, .int t0_41), (3, .int v3_41), (0, .ref (q 0))]) hx hb dX4_cellInTheWay_140 hl (by decide) rfl (fun ls hl => ?_)
              refine lv_iinc (v := (v9_79 + (1 : Int32))) (lv' := [(9, .int (v9_79 + (1 : Int32))), (8, .int p_115), (7, .int v9_79), (10, .int p_115), (6, .int x_64), (5, .int x_52), (4, .int t0_41), (3, .int v3_41), (0, .ref (q 0))]) hx hb dX4_cellInTheWay_142 hl (k := 3) rfl rfl (by decide) rfl (fun ls hl => ?_)
              refine lv_goto (tgt := 79) hx hb dX4_cellInTheWay_145 (by decide) ?_
              exact ih1 (v9_79 + (1 : Int32)) p_115 v9_79 _ _ _ h hW (lv_sub hl [0, 1, 2, 4, 5, 6, 7, 8] rfl)
    exact L1 200 x_77 (0 : Int32) (-9 : Int32) _ _ _ h hW (lv_sub hl [0, 1, 2, 3, 4, 5, 6, 7] rfl)
  have J2 : ∀ (t0_30 : Int32) (w_30 : TW) (H : Heap) (locs : List Loc) (ls : Array Slot), f_X4_cellInTheWay_30 x1 x2 t0_30 w_30 = some o → Wd G A0 s (cTW G q w_30) H locs → lv_has ls 11 [(0, .ref (q 0)), (1, .int x1), (2, .int x2)] → W p l e rmX4_cellInTheWay s m ([.ref (q 0), .int x1, .int x2] : List Value).toArray below meth c H locs 0 0 (Qi below G (cTW G q o.2) o.1 A0 ([.ref (q 0), .int x1, .int x2] : List Value).toArray s) (F0 m 30 ls [.int t0_30]) := by
    intro t0_30 w_30 H locs ls h hW hl
    refine lv_istore_n (lv' := [(3, .int t0_30), (0, .ref (q 0)), (1, .int x1), (2, .int x2)]) hx hb dX4_cellInTheWay_30 rfl hl (by decide) rfl (fun ls hl => ?_)
    refine lv_iload_n hx hb dX4_cellInTheWay_31 rfl (lv_at hl 0 rfl) ?_
    refine lv_iload_n hx hb dX4_cellInTheWay_32 rfl (lv_at hl 2 rfl) ?_
    obtain ⟨ht_33, hf_33⟩ := of_ite h
    refine lv_icmp_ne (tgt := 40) hx hb dX4_cellInTheWay_33 (by decide) (fun c_33 => ?_) (fun c_33 => ?_)
    · have h := hf_33 c_33
      refine lv_iload_n hx hb dX4_cellInTheWay_40 rfl (lv_at hl 2 rfl) ?_
      exact J0 t0_30 x1 w_30 _ _ _ h hW (lv_sub hl [0, 1] rfl)
    · have h := ht_33 c_33
      refine lv_iload_n hx hb dX4_cellInTheWay_36 rfl (lv_at hl 3 rfl) ?_
      refine lv_goto (tgt := 41) hx hb dX4_cellInTheWay_37 (by decide) ?_
      exact J0 t0_30 x2 w_30 _ _ _ h hW (lv_sub hl [0, 1] rfl)
  refine lv_aload_n hx hb dX4_cellInTheWay_0 rfl (lv_at hl 0 rfl) ?_
  obtain ⟨p_1, hc_1, h⟩ := of_bind h
  refine x_Vv (av := [.ref (q 0)]) (As := []) F hW (c_X4_begin l G q w _ hc_1) [0, 1, 2, 3, 4, 5, 6, 7, 8, 9, 10, 11, 12, 13, 14, 15, 16, 17, 18, 19, 20, 21] rfl rfl (by intro q; cases q) cv_X4_71 rfl ⟨_, rfl, rfl⟩ rfl rfl rfl hl (Nat.le_of_ble_eq_true rfl) ⟨Nat.le_of_ble_eq_true rfl, Nat.le_of_ble_eq_true rfl⟩ ⟨rfl, rfl⟩ ⟨Nat.le_of_ble_eq_true rfl, Nat.le_of_ble_eq_true rfl⟩ dX4_cellInTheWay_1 rfl [some 0, some 1, some 2, some 3, some 4, some 5, some 6, some 7, some 8, some 9, some 10, some 11, some 12, some 13, some 14, some 15, some 16, some 17, some 18, some 19, some 20, some 21] rfl (ws' := cTW G q p_1) rfl (fun H locs hW => ?_)
  refine lv_aload_n hx hb dX4_cellInTheWay_4 rfl (lv_at hl 0 rfl) ?_
  refine x_get F hW 0 rfl fa_X4_18 rfl dX4_cellInTheWay_5 ?_
  refine x_get F hW 7 rfl fa_X4_97 rfl dX4_cellInTheWay_8 ?_
  refine lv_iload_n hx hb dX4_cellInTheWay_11 rfl (lv_at hl 1 rfl) ?_
  obtain ⟨g_12, h⟩ := of_guard h
  refine x_iald F hW 11 rfl g_12 dX4_cellInTheWay_12 ?_
  refine lv_aload_n hx hb dX4_cellInTheWay_13 rfl (lv_at hl 0 rfl) ?_
  refine x_get F hW 0 rfl fa_X4_18 rfl dX4_cellInTheWay_14 ?_
  refine x_get F hW 7 rfl fa_X4_97 rfl dX4_cellInTheWay_17 ?_
  refine lv_iload_n hx hb dX4_cellInTheWay_20 rfl (lv_at hl 2 rfl) ?_
  obtain ⟨g_21, h⟩ := of_guard h
  refine x_iald F hW 11 rfl g_21 dX4_cellInTheWay_21 ?_
  obtain ⟨ht_22, hf_22⟩ := of_ite h
  refine lv_icmp_gt (tgt := 29) hx hb dX4_cellInTheWay_22 (by decide) (fun c_22 => ?_) (fun c_22 => ?_)
  · have h := ht_22 c_22
    refine lv_iload_n hx hb dX4_cellInTheWay_29 rfl (lv_at hl 2 rfl) ?_
    exact J2 x2 p_1 _ _ _ h hW (lv_sub hl [0, 1, 2] rfl)
  · have h := hf_22 c_22
    refine lv_iload_n hx hb dX4_cellInTheWay_25 rfl (lv_at hl 1 rfl) ?_
    refine lv_goto (tgt := 30) hx hb dX4_cellInTheWay_26 (by decide) ?_
    exact J2 x1 p_1 _ _ _ h hW (lv_sub hl [0, 1, 2] rfl)
def f_X4_leastCandle_12 (x_9 : Int32) (w : TW) : Nat → Int32 → Option (Int32)
  | 0, _ => none
  | n0 + 1, v3_12 =>
    if (30 : Int32) < v3_12 then
    some (-9 : Int32)
    else
    if inR x_9 20 then
    Option.bind (f_X3_isOpen w.1 x_9 ((w.1.1 x_9.toNatClampNeg) + v3_12) (20 : Int32) (0 : Int32)) fun p_37 =>
    if p_37 = 0 then
    f_X4_leastCandle_12 x_9 w n0 (v3_12 + (1 : Int32))
    else
    some v3_12
    else none
def f_X4_leastCandle (w : TW) (x1 : Int32) : Option (Int32) :=
  if inR x1 8 then
    nm (w.1.2.2.2.1 x1.toNatClampNeg) fun x_9 =>
    f_X4_leastCandle_12 x_9 w 200 (0 : Int32)
    else none
abbrev rmX4_leastCandle : Room := { frames := 2, cells := 0, slots := 0, locals := 55 }
set_option maxRecDepth 100000 in
set_option maxHeartbeats 4000000 in
theorem c_X4_leastCandle (l : Launch) (G : EnT) (q : Nat → Nat) (w : TW) (x1 : Int32) (o : Int32) (h : f_X4_leastCandle w x1 = some o) : Mi l yX4_leastCandle rmX4_leastCandle cX4_leastCandle 4 (some .int) G false [.ref (q 0), .int x1] (cTW G q w) o (cTW G q w) := by
  refine Mi_of (by decide) (Nat.le_of_ble_eq_true rfl) ?_
  intro p e s m below meth c A0 F hr hW ls hl
  obtain ⟨hx, hb, hml, hown, hts, hK, hNW, hlocks, hA, hSX⟩ := id F
  have hl : lv_has ls 4 [(0, .ref (q 0)), (1, .int x1)] := hl
  have hW : Wd G A0 s (cTW G q w) s.heap [] := hW
  show W p l e rmX4_leastCandle s m ([.ref (q 0), .int x1] : List Value).toArray below meth c s.heap [] 0 0 (Qi below G (cTW G q w) o A0 ([.ref (q 0), .int x1] : List Value).toArray s) (F0 m 0 ls [])
  refine lv_aload_n hx hb dX4_leastCandle_0 rfl (lv_at hl 0 rfl) ?_
  refine x_get F hW 0 rfl fa_X4_12 rfl dX4_leastCandle_1 ?_
  refine x_get F hW 1 rfl fa_X4_97 rfl dX4_leastCandle_4 ?_
  refine lv_iload_n hx hb dX4_leastCandle_7 rfl (lv_at hl 1 rfl) ?_
  obtain ⟨g_8, h⟩ := of_guard h
  refine x_iald F hW 5 rfl g_8 dX4_leastCandle_8 ?_
  obtain ⟨x_9, e_x_9, h⟩ := of_nm h
  refine x_topi e_x_9 ?_
  refine lv_istore_n (lv' := [(2, .int x_9), (0, .ref (q 0)), (1, .int x1)]) hx hb dX4_leastCandle_9 rfl hl (by decide) rfl (fun ls hl => ?_)
  refine lv_iconst (v := (0 : Int32)) hx hb dX4_leastCandle_10 (by decide) ?_
  refine lv_istore_n (lv' := [(3, .int (0 : Int32)), (2, .int x_9), (0, .ref (q 0)), (1, .int x1)]) hx hb dX4_leastCandle_11 rfl hl (by decide) rfl (fun ls hl => ?_)
  have L0 : ∀ (n0 : Nat) (v3_12 : Int32) (H : Heap) (locs : List Loc) (ls : Array Slot), f_X4_leastCandle_12 x_9 w n0 v3_12 = some o → Wd G A0 s (cTW G q w) H locs → lv_has ls 4 [(3, .int v3_12), (2, .int x_9), (0, .ref (q 0))] → W p l e rmX4_leastCandle s m ([.ref (q 0), .int x1] : List Value).toArray below meth c H locs 0 0 (Qi below G (cTW G q w) o A0 ([.ref (q 0), .int x1] : List Value).toArray s) (F0 m 12 ls []) := by
    intro n0
    induction n0 with
    | zero => intro v3_12 H locs ls h; cases (show (none : Option (Int32)) = some o from h)
    | succ n0 ih0 =>
      intro v3_12 H locs ls h hW hl
      refine lv_iload_n hx hb dX4_leastCandle_12 rfl (lv_at hl 0 rfl) ?_
      refine lv_bipush (v := (30 : Int32)) hx hb dX4_leastCandle_13 (by decide) ?_
      obtain ⟨ht_15, hf_15⟩ := of_ite h
      refine lv_icmp_gt (tgt := 51) hx hb dX4_leastCandle_15 (by decide) (fun c_15 => ?_) (fun c_15 => ?_)
      · have h := ht_15 c_15
        refine lv_bipush (v := (-9 : Int32)) hx hb dX4_leastCandle_51 (by decide) ?_
        obtain rfl := Option.some.inj h
        exact x_reti F hr hW rfl dX4_leastCandle_53
      · have h := hf_15 c_15
        refine lv_aload_n hx hb dX4_leastCandle_18 rfl (lv_at hl 2 rfl) ?_
        refine x_get F hW 0 rfl fa_X4_12 rfl dX4_leastCandle_19 ?_
        refine lv_iload_n hx hb dX4_leastCandle_22 rfl (lv_at hl 1 rfl) ?_
        refine lv_aload_n hx hb dX4_leastCandle_23 rfl (lv_at hl 2 rfl) ?_
        refine x_get F hW 0 rfl fa_X4_12 rfl dX4_leastCandle_24 ?_
        refine x_get F hW 1 rfl fa_X4_107 rfl dX4_leastCandle_27 ?_
        refine lv_iload_n hx hb dX4_leastCandle_30 rfl (lv_at hl 1 rfl) ?_
        obtain ⟨g_31, h⟩ := of_guard h
        refine x_iald F hW 2 rfl g_31 dX4_leastCandle_31 ?_
        refine lv_iload_n hx hb dX4_leastCandle_32 rfl (lv_at hl 0 rfl) ?_
        refine lv_iadd hx hb dX4_leastCandle_33 ?_
        refine lv_bipush (v := (20 : Int32)) hx hb dX4_leastCandle_34 (by decide) ?_
        refine lv_iconst (v := (0 : Int32)) hx hb dX4_leastCandle_36 (by decide) ?_
        obtain ⟨p_37, hc_37, h⟩ := of_bind h
        refine x_Si (av := [.ref (q 1), .int x_9, .int ((w.1.1 x_9.toNatClampNeg) + v3_12), .int (20 : Int32), .int (0 : Int32)]) F hW (c_X3_isOpen l G (fun i => q (i + 1)) w.1 x_9 ((w.1.1 x_9.toNatClampNeg) + v3_12) (20 : Int32) (0 : Int32) _ hc_37) [1, 2, 3, 4, 5, 6] rfl rfl (by intro q; cases q) cs_X4_110 rfl rfl hl (Nat.le_of_ble_eq_true rfl) ⟨Nat.le_of_ble_eq_true rfl, Nat.le_of_ble_eq_true rfl⟩ ⟨rfl, rfl⟩ ⟨Nat.le_of_ble_eq_true rfl, Nat.le_of_ble_eq_true rfl⟩ dX4_leastCandle_37 rfl [none, some 0, some 1, some 2, some 3, some 4, some 5, none, none, none, none, none, none, none, none, none, none, none, none, none, none, none] rfl (ws' := cTW G q w) rfl (fun H locs hW => ?_)
        obtain ⟨ht_40, hf_40⟩ := of_ite h
        refine lv_if_eq (tgt := 45) hx hb dX4_leastCandle_40 (by decide) (fun c_40 => ?_) (fun c_40 => ?_)
        · have h := ht_40 c_40
          refine lv_iinc (v := (v3_12 + (1 : Int32))) (lv' := [(3, .int (v3_12 + (1 : Int32))), (2, .int x_9), (0, .ref (q 0))]) hx hb dX4_leastCandle_45 hl (k := 0) rfl rfl (by decide) rfl (fun ls hl => ?_)
          refine lv_goto (tgt := 12) hx hb dX4_leastCandle_48 (by decide) ?_
          exact ih0 (v3_12 + (1 : Int32)) _ _ _ h hW (lv_sub hl [0, 1, 2] rfl)
        · have h := hf_40 c_40
          refine lv_iload_n hx hb dX4_leastCandle_43 rfl (lv_at hl 0 rfl) ?_
          obtain rfl := Option.some.inj h
          exact x_reti F hr hW rfl dX4_leastCandle_44
  exact L0 200 (0 : Int32) _ _ _ h hW (lv_sub hl [0, 1, 2] rfl)
def f_X4_hangingWithout (w : TW) (x1 : Int32) (x2 : Int32) : Option (Int32) :=
  Option.bind (f_X3_hanging w.2.2.1 (x1 &&& (((1 : Int32) <<< (x2 &&& 31)) ^^^ (-1 : Int32)))) fun p_11 =>
    Option.bind (f_J6_bitCount_0f7a4 p_11) fun p_14 =>
    some p_14
abbrev rmX4_hangingWithout : Room := { frames := 3, cells := 0, slots := 0, locals := 69 }
set_option maxRecDepth 100000 in
set_option maxHeartbeats 4000000 in
theorem c_X4_hangingWithout (l : Launch) (G : EnT) (q : Nat → Nat) (w : TW) (x1 : Int32) (x2 : Int32) (o : Int32) (h : f_X4_hangingWithout w x1 x2 = some o) : Mi l yX4_hangingWithout rmX4_hangingWithout cX4_hangingWithout 3 (some .int) G false [.ref (q 0), .int x1, .int x2] (cTW G q w) o (cTW G q w) := by
  refine Mi_of (by decide) (Nat.le_of_ble_eq_true rfl) ?_
  intro p e s m below meth c A0 F hr hW ls hl
  obtain ⟨hx, hb, hml, hown, hts, hK, hNW, hlocks, hA, hSX⟩ := id F
  have hl : lv_has ls 3 [(0, .ref (q 0)), (1, .int x1), (2, .int x2)] := hl
  have hW : Wd G A0 s (cTW G q w) s.heap [] := hW
  show W p l e rmX4_hangingWithout s m ([.ref (q 0), .int x1, .int x2] : List Value).toArray below meth c s.heap [] 0 0 (Qi below G (cTW G q w) o A0 ([.ref (q 0), .int x1, .int x2] : List Value).toArray s) (F0 m 0 ls [])
  refine lv_aload_n hx hb dX4_hangingWithout_0 rfl (lv_at hl 0 rfl) ?_
  refine x_get F hW 0 rfl fa_X4_24 rfl dX4_hangingWithout_1 ?_
  refine lv_iload_n hx hb dX4_hangingWithout_4 rfl (lv_at hl 1 rfl) ?_
  refine lv_iconst (v := (1 : Int32)) hx hb dX4_hangingWithout_5 (by decide) ?_
  refine lv_iload_n hx hb dX4_hangingWithout_6 rfl (lv_at hl 2 rfl) ?_
  refine lv_ishl hx hb dX4_hangingWithout_7 ?_
  refine lv_iconst (v := (-1 : Int32)) hx hb dX4_hangingWithout_8 (by decide) ?_
  refine lv_ixor hx hb dX4_hangingWithout_9 ?_
  refine lv_iand hx hb dX4_hangingWithout_10 ?_
  obtain ⟨p_11, hc_11, h⟩ := of_bind h
  refine x_Vi (av := [.ref (q 13), .int (x1 &&& (((1 : Int32) <<< (x2 &&& 31)) ^^^ (-1 : Int32)))]) (As := [.int (x1 &&& (((1 : Int32) <<< (x2 &&& 31)) ^^^ (-1 : Int32)))]) F hW (c_X3_hanging l G (fun i => q (i + 13)) w.2.2.1 (x1 &&& (((1 : Int32) <<< (x2 &&& 31)) ^^^ (-1 : Int32))) _ hc_11) [13, 14, 15] rfl rfl (by intro q; cases q) cv_X4_55 rfl ⟨_, rfl, rfl⟩ rfl rfl rfl hl (Nat.le_of_ble_eq_true rfl) ⟨Nat.le_of_ble_eq_true rfl, Nat.le_of_ble_eq_true rfl⟩ ⟨rfl, rfl⟩ ⟨Nat.le_of_ble_eq_true rfl, Nat.le_of_ble_eq_true rfl⟩ dX4_hangingWithout_11 rfl [none, none, none, none, none, none, none, none, none, none, none, none, none, some 0, some 1, some 2, none, none, none, none, none, none] rfl (ws' := cTW G q w) rfl (fun H locs hW => ?_)
  obtain ⟨p_14, hc_14, h⟩ := of_bind h
  refine x_Si (av := [.int p_11]) F hW (c_J6_bitCount_0f7a4 l G p_11 _ hc_14) [] rfl rfl (by intro q; cases q) cs_X4_59 rfl rfl hl (Nat.le_of_ble_eq_true rfl) ⟨Nat.le_of_ble_eq_true rfl, Nat.le_of_ble_eq_true rfl⟩ ⟨rfl, rfl⟩ ⟨Nat.le_of_ble_eq_true rfl, Nat.le_of_ble_eq_true rfl⟩ dX4_hangingWithout_14 rfl [none, none, none, none, none, none, none, none, none, none, none, none, none, none, none, none, none, none, none, none, none, none] rfl (ws' := cTW G q w) rfl (fun H locs hW => ?_)
  obtain rfl := Option.some.inj h
  exact x_reti F hr hW rfl dX4_hangingWithout_17
def f_X4_cutHouse_20 (p_8 : Int32) : Nat → Int32 → Int32 → Int32 → TW → Option (Int32 × TW)
  | 0, _, _, _, _ => none
  | n0 + 1, v4_20, v3_20, v2_20, w_20 =>
    if w_20.2.1.2.2.2.2.2.1 ≤ v4_20 then
    some (v2_20, w_20)
    else
    Option.bind (f_X5_has p_8 v4_20) fun p_35 =>
    if p_35 = 0 then
    f_X4_cutHouse_20 p_8 n0 (v4_20 + (1 : Int32)) v3_20 v2_20 w_20
    else
    Option.bind (f_X4_hangingWithout w_20 p_8 v4_20) fun p_45 =>
    if v2_20 = (-9 : Int32) then
    f_X4_cutHouse_20 p_8 n0 (v4_20 + (1 : Int32)) p_45 v4_20 w_20
    else
    if v3_20 ≤ p_45 then
    f_X4_cutHouse_20 p_8 n0 (v4_20 + (1 : Int32)) v3_20 v2_20 w_20
    else
    f_X4_cutHouse_20 p_8 n0 (v4_20 + (1 : Int32)) p_45 v4_20 w_20
def f_X4_cutHouse (w : TW) : Option (Int32 × TW) :=
  Option.bind (f_X4_begin w) fun p_1 =>
    Option.bind (f_X1_lit p_1.2.1) fun p_8 =>
    f_X4_cutHouse_20 p_8 200 (0 : Int32) (0 : Int32) (-9 : Int32) p_1
abbrev rmX4_cutHouse : Room := { frames := 4, cells := 0, slots := 0, locals := 105 }
set_option maxRecDepth 100000 in
set_option maxHeartbeats 4000000 in
theorem c_X4_cutHouse (l : Launch) (G : EnT) (q : Nat → Nat) (w : TW) (o : Int32 × TW) (h : f_X4_cutHouse w = some o) : Mi l yX4_cutHouse rmX4_cutHouse cX4_cutHouse 6 (some .int) G false [.ref (q 0)] (cTW G q w) o.1 (cTW G q o.2) := by
  refine Mi_of (by decide) (Nat.le_of_ble_eq_true rfl) ?_
  intro p e s m below meth c A0 F hr hW ls hl
  obtain ⟨hx, hb, hml, hown, hts, hK, hNW, hlocks, hA, hSX⟩ := id F
  have hl : lv_has ls 6 [(0, .ref (q 0))] := hl
  have hW : Wd G A0 s (cTW G q w) s.heap [] := hW
  show W p l e rmX4_cutHouse s m ([.ref (q 0)] : List Value).toArray below meth c s.heap [] 0 0 (Qi below G (cTW G q o.2) o.1 A0 ([.ref (q 0)] : List Value).toArray s) (F0 m 0 ls [])
  refine lv_aload_n hx hb dX4_cutHouse_0 rfl (lv_at hl 0 rfl) ?_
  obtain ⟨p_1, hc_1, h⟩ := of_bind h
  refine x_Vv (av := [.ref (q 0)]) (As := []) F hW (c_X4_begin l G q w _ hc_1) [0, 1, 2, 3, 4, 5, 6, 7, 8, 9, 10, 11, 12, 13, 14, 15, 16, 17, 18, 19, 20, 21] rfl rfl (by intro q; cases q) cv_X4_71 rfl ⟨_, rfl, rfl⟩ rfl rfl rfl hl (Nat.le_of_ble_eq_true rfl) ⟨Nat.le_of_ble_eq_true rfl, Nat.le_of_ble_eq_true rfl⟩ ⟨rfl, rfl⟩ ⟨Nat.le_of_ble_eq_true rfl, Nat.le_of_ble_eq_true rfl⟩ dX4_cutHouse_1 rfl [some 0, some 1, some 2, some 3, some 4, some 5, some 6, some 7, some 8, some 9, some 10, some 11, some 12, some 13, some 14, some 15, some 16, some 17, some 18, some 19, some 20, some 21] rfl (ws' := cTW G q p_1) rfl (fun H locs hW => ?_)
  refine lv_aload_n hx hb dX4_cutHouse_4 rfl (lv_at hl 0 rfl) ?_
  refine x_get F hW 0 rfl fa_X4_18 rfl dX4_cutHouse_5 ?_
  obtain ⟨p_8, hc_8, h⟩ := of_bind h
  refine x_Vi (av := [.ref (q 7)]) (As := []) F hW (c_X1_lit l G (fun i => q (i + 7)) p_1.2.1 _ hc_8) [7, 8, 9, 10, 11, 12] rfl rfl (by intro q; cases q) cv_X4_51 rfl ⟨_, rfl, rfl⟩ rfl rfl rfl hl (Nat.le_of_ble_eq_true rfl) ⟨Nat.le_of_ble_eq_true rfl, Nat.le_of_ble_eq_true rfl⟩ ⟨rfl, rfl⟩ ⟨Nat.le_of_ble_eq_true rfl, Nat.le_of_ble_eq_true rfl⟩ dX4_cutHouse_8 rfl [none, none, none, none, none, none, none, some 0, some 1, some 2, some 3, some 4, some 5, none, none, none, none, none, none, none, none, none] rfl (ws' := cTW G q p_1) rfl (fun H locs hW => ?_)
  refine lv_istore_n (lv' := [(1, .int p_8), (0, .ref (q 0))]) hx hb dX4_cutHouse_11 rfl hl (by decide) rfl (fun ls hl => ?_)
  refine lv_bipush (v := (-9 : Int32)) hx hb dX4_cutHouse_12 (by decide) ?_
  refine lv_istore_n (lv' := [(2, .int (-9 : Int32)), (1, .int p_8), (0, .ref (q 0))]) hx hb dX4_cutHouse_14 rfl hl (by decide) rfl (fun ls hl => ?_)
  refine lv_iconst (v := (0 : Int32)) hx hb dX4_cutHouse_15 (by decide) ?_
  refine lv_istore_n (lv' := [(3, .int (0 : Int32)), (2, .int (-9 : Int32)), (1, .int p_8), (0, .ref (q 0))]) hx hb dX4_cutHouse_16 rfl hl (by decide) rfl (fun ls hl => ?_)
  refine lv_iconst (v := (0 : Int32)) hx hb dX4_cutHouse_17 (by decide) ?_
  refine lv_istore (lv' := [(4, .int (0 : Int32)), (3, .int (0 : Int32)), (2, .int (-9 : Int32)), (1, .int p_8), (0, .ref (q 0))]) hx hb dX4_cutHouse_18 hl (by decide) rfl (fun ls hl => ?_)
  have L0 : ∀ (n0 : Nat) (v4_20 : Int32) (v3_20 : Int32) (v2_20 : Int32) (w_20 : TW) (H : Heap) (locs : List Loc) (ls : Array Slot), f_X4_cutHouse_20 p_8 n0 v4_20 v3_20 v2_20 w_20 = some o → Wd G A0 s (cTW G q w_20) H locs → lv_has ls 6 [(4, .int v4_20), (3, .int v3_20), (2, .int v2_20), (1, .int p_8), (0, .ref (q 0))] → W p l e rmX4_cutHouse s m ([.ref (q 0)] : List Value).toArray below meth c H locs 0 0 (Qi below G (cTW G q o.2) o.1 A0 ([.ref (q 0)] : List Value).toArray s) (F0 m 20 ls []) := by
    intro n0
    induction n0 with
    | zero => intro v4_20 v3_20 v2_20 w_20 H locs ls h; cases (show (none : Option (Int32 × TW)) = some o from h)
    | succ n0 ih0 =>
      intro v4_20 v3_20 v2_20 w_20 H locs ls h hW hl
      refine lv_iload hx hb dX4_cutHouse_20 (lv_at hl 0 rfl) ?_
      refine lv_aload_n hx hb dX4_cutHouse_22 rfl (lv_at hl 4 rfl) ?_
      refine x_get F hW 0 rfl fa_X4_18 rfl dX4_cutHouse_23 ?_
      refine x_get F hW 7 rfl fa_X4_114 rfl dX4_cutHouse_26 ?_
      obtain ⟨ht_29, hf_29⟩ := of_ite h
      refine lv_icmp_ge (tgt := 74) hx hb dX4_cutHouse_29 (by decide) (fun c_29 => ?_) (fun c_29 => ?_)
      · have h := ht_29 c_29
        refine lv_iload_n hx hb dX4_cutHouse_74 rfl (lv_at hl 2 rfl) ?_
        obtain rfl := Option.some.inj h
        exact x_reti F hr hW rfl dX4_cutHouse_75
      · have h := hf_29 c_29
        refine lv_iload_n hx hb dX4_cutHouse_32 rfl (lv_at hl 3 rfl) ?_
        refine lv_iload hx hb dX4_cutHouse_33 (lv_at hl 0 rfl) ?_
        obtain ⟨p_35, hc_35, h⟩ := of_bind h
        refine x_Ni (av := [.int p_8, .int v4_20]) F hW (c_X5_has l G p_8 v4_20 _ hc_35) [] rfl rfl (by intro q; cases q) cn_X4_80 rfl rfl hl (Nat.le_of_ble_eq_true rfl) ⟨Nat.le_of_ble_eq_true rfl, Nat.le_of_ble_eq_true rfl⟩ ⟨rfl, rfl⟩ ⟨Nat.le_of_ble_eq_true rfl, Nat.le_of_ble_eq_true rfl⟩ dX4_cutHouse_35 rfl [none, none, none, none, none, none, none, none, none, none, none, none, none, none, none, none, none, none, none, none, none, none] rfl (ws' := cTW G q w_20) rfl (fun H locs hW => ?_)
        obtain ⟨ht_38, hf_38⟩ := of_ite h
        refine lv_if_eq (tgt := 68) hx hb dX4_cutHouse_38 (by decide) (fun c_38 => ?_) (fun c_38 => ?_)
        · have h := ht_38 c_38
          refine lv_iinc (v := (v4_20 + (1 : Int32))) (lv' := [(4, .int (v4_20 + (1 : Int32))), (3, .int v3_20), (2, .int v2_20), (1, .int p_8), (0, .ref (q 0))]) hx hb dX4_cutHouse_68 hl (k := 0) rfl rfl (by decide) rfl (fun ls hl => ?_)
          refine lv_goto (tgt := 20) hx hb dX4_cutHouse_71 (by decide) ?_
          exact ih0 (v4_20 + (1 : Int32)) v3_20 v2_20 w_20 _ _ _ h hW (lv_sub hl [0, 1, 2, 3, 4] rfl)
        · have h := hf_38 c_38
          refine lv_aload_n hx hb dX4_cutHouse_41 rfl (lv_at hl 4 rfl) ?_
          refine lv_iload_n hx hb dX4_cutHouse_42 rfl (lv_at hl 3 rfl) ?_
          refine lv_iload hx hb dX4_cutHouse_43 (lv_at hl 0 rfl) ?_
          obtain ⟨p_45, hc_45, h⟩ := of_bind h
          refine x_Vi (av := [.ref (q 0), .int p_8, .int v4_20]) (As := [.int p_8, .int v4_20]) F hW (c_X4_hangingWithout l G q w_20 p_8 v4_20 _ hc_45) [0, 1, 2, 3, 4, 5, 6, 7, 8, 9, 10, 11, 12, 13, 14, 15, 16, 17, 18, 19, 20, 21] rfl rfl (by intro q; cases q) cv_X4_117 rfl ⟨_, rfl, rfl⟩ rfl rfl rfl hl (Nat.le_of_ble_eq_true rfl) ⟨Nat.le_of_ble_eq_true rfl, Nat.le_of_ble_eq_true rfl⟩ ⟨rfl, rfl⟩ ⟨Nat.le_of_ble_eq_true rfl, Nat.le_of_ble_eq_true rfl⟩ dX4_cutHouse_45 rfl [some 0, some 1, some 2, some 3, some 4, some 5, some 6, some 7, some 8, some 9, some 10, some 11, some 12, some 13, some 14, some 15, some 16, some 17, some 18, some 19, some 20, some 21] rfl (ws' := cTW G q w_20) rfl (fun H locs hW => ?_)
          refine lv_istore (lv' := [(5, .int p_45), (4, .int v4_20), (3, .int v3_20), (2, .int v2_20), (1, .int p_8), (0, .ref (q 0))]) hx hb dX4_cutHouse_48 hl (by decide) rfl (fun ls hl => ?_)
          refine lv_iload_n hx hb dX4_cutHouse_50 rfl (lv_at hl 3 rfl) ?_
          refine lv_bipush (v := (-9 : Int32)) hx hb dX4_cutHouse_51 (by decide) ?_
          obtain ⟨ht_53, hf_53⟩ := of_ite h
          refine lv_icmp_eq (tgt := 62) hx hb dX4_cutHouse_53 (by decide) (fun c_53 => ?_) (fun c_53 => ?_)
          · have h := ht_53 c_53
            refine lv_iload hx hb dX4_cutHouse_62 (lv_at hl 1 rfl) ?_
            refine lv_istore_n (lv' := [(2, .int v4_20), (5, .int p_45), (4, .int v4_20), (3, .int v3_20), (1, .int p_8), (0, .ref (q 0))]) hx hb dX4_cutHouse_64 rfl hl (by decide) rfl (fun ls hl => ?_)
            refine lv_iload hx hb dX4_cutHouse_65 (lv_at hl 1 rfl) ?_
            refine lv_istore_n (lv' := [(3, .int p_45), (2, .int v4_20), (5, .int p_45), (4, .int v4_20), (1, .int p_8), (0, .ref (q 0))]) hx hb dX4_cutHouse_67 rfl hl (by decide) rfl (fun ls hl => ?_)
            refine lv_iinc (v := (v4_20 + (1 : Int32))) (lv' := [(4, .int (v4_20 + (1 : Int32))), (3, .int p_45), (2, .int v4_20), (5, .int p_45), (1, .int p_8), (0, .ref (q 0))]) hx hb dX4_cutHouse_68 hl (k := 3) rfl rfl (by decide) rfl (fun ls hl => ?_)
            refine lv_goto (tgt := 20) hx hb dX4_cutHouse_71 (by decide) ?_
            exact ih0 (v4_20 + (1 : Int32)) p_45 v4_20 w_20 _ _ _ h hW (lv_sub hl [0, 1, 2, 4, 5] rfl)
          · have h := hf_53 c_53
            refine lv_iload hx hb dX4_cutHouse_56 (lv_at hl 0 rfl) ?_
            refine lv_iload_n hx hb dX4_cutHouse_58 rfl (lv_at hl 2 rfl) ?_
            obtain ⟨ht_59, hf_59⟩ := of_ite h
            refine lv_icmp_ge (tgt := 68) hx hb dX4_cutHouse_59 (by decide) (fun c_59 => ?_) (fun c_59 => ?_)
            · have h := ht_59 c_59
              refine lv_iinc (v := (v4_20 + (1 : Int32))) (lv' := [(4, .int (v4_20 + (1 : Int32))), (5, .int p_45), (3, .int v3_20), (2, .int v2_20), (1, .int p_8), (0, .ref (q 0))]) hx hb dX4_cutHouse_68 hl (k := 1) rfl rfl (by decide) rfl (fun ls hl => ?_)
              refine lv_goto (tgt := 20) hx hb dX4_cutHouse_71 (by decide) ?_
              exact ih0 (v4_20 + (1 : Int32)) v3_20 v2_20 w_20 _ _ _ h hW (lv_sub hl [0, 2, 3, 4, 5] rfl)
            · have h := hf_59 c_59
              refine lv_iload hx hb dX4_cutHouse_62 (lv_at hl 1 rfl) ?_
              refine lv_istore_n (lv' := [(2, .int v4_20), (5, .int p_45), (4, .int v4_20), (3, .int v3_20), (1, .int p_8), (0, .ref (q 0))]) hx hb dX4_cutHouse_64 rfl hl (by decide) rfl (fun ls hl => ?_)
              refine lv_iload hx hb dX4_cutHouse_65 (lv_at hl 1 rfl) ?_
              refine lv_istore_n (lv' := [(3, .int p_45), (2, .int v4_20), (5, .int p_45), (4, .int v4_20), (1, .int p_8), (0, .ref (q 0))]) hx hb dX4_cutHouse_67 rfl hl (by decide) rfl (fun ls hl => ?_)
              refine lv_iinc (v := (v4_20 + (1 : Int32))) (lv' := [(4, .int (v4_20 + (1 : Int32))), (3, .int p_45), (2, .int v4_20), (5, .int p_45), (1, .int p_8), (0, .ref (q 0))]) hx hb dX4_cutHouse_68 hl (k := 3) rfl rfl (by decide) rfl (fun ls hl => ?_)
              refine lv_goto (tgt := 20) hx hb dX4_cutHouse_71 (by decide) ?_
              exact ih0 (v4_20 + (1 : Int32)) p_45 v4_20 w_20 _ _ _ h hW (lv_sub hl [0, 1, 2, 4, 5] rfl)
  exact L0 200 (0 : Int32) (0 : Int32) (-9 : Int32) p_1 _ _ _ h hW (lv_sub hl [0, 1, 2, 3, 4] rfl)
def f_X4_hangingAfterCut (w : TW) : Option (Int32 × TW) :=
  Option.bind (f_X4_cutHouse w) fun p_1 =>
    nm p_1.1 fun x_4 =>
    if x_4 = (-9 : Int32) then
    some ((-9 : Int32), p_1.2)
    else
    Option.bind (f_X1_lit p_1.2.2.1) fun p_21 =>
    Option.bind (f_X4_hangingWithout p_1.2 p_21 x_4) fun p_25 =>
    some (p_25, p_1.2)
abbrev rmX4_hangingAfterCut : Room := { frames := 5, cells := 0, slots := 0, locals := 130 }
set_option maxRecDepth 100000 in
set_option maxHeartbeats 4000000 in
theorem c_X4_hangingAfterCut (l : Launch) (G : EnT) (q : Nat → Nat) (w : TW) (o : Int32 × TW) (h : f_X4_hangingAfterCut w = some o) : Mi l yX4_hangingAfterCut rmX4_hangingAfterCut cX4_hangingAfterCut 2 (some .int) G false [.ref (q 0)] (cTW G q w) o.1 (cTW G q o.2) := by
  refine Mi_of (by decide) (Nat.le_of_ble_eq_true rfl) ?_
  intro p e s m below meth c A0 F hr hW ls hl
  obtain ⟨hx, hb, hml, hown, hts, hK, hNW, hlocks, hA, hSX⟩ := id F
  have hl : lv_has ls 2 [(0, .ref (q 0))] := hl
  have hW : Wd G A0 s (cTW G q w) s.heap [] := hW
  show W p l e rmX4_hangingAfterCut s m ([.ref (q 0)] : List Value).toArray below meth c s.heap [] 0 0 (Qi below G (cTW G q o.2) o.1 A0 ([.ref (q 0)] : List Value).toArray s) (F0 m 0 ls [])
  refine lv_aload_n hx hb dX4_hangingAfterCut_0 rfl (lv_at hl 0 rfl) ?_
  obtain ⟨p_1, hc_1, h⟩ := of_bind h
  refine x_Vi (av := [.ref (q 0)]) (As := []) F hW (c_X4_cutHouse l G q w _ hc_1) [0, 1, 2, 3, 4, 5, 6, 7, 8, 9, 10, 11, 12, 13, 14, 15, 16, 17, 18, 19, 20, 21] rfl rfl (by intro q; cases q) cv_X4_121 rfl ⟨_, rfl, rfl⟩ rfl rfl rfl hl (Nat.le_of_ble_eq_true rfl) ⟨Nat.le_of_ble_eq_true rfl, Nat.le_of_ble_eq_true rfl⟩ ⟨rfl, rfl⟩ ⟨Nat.le_of_ble_eq_true rfl, Nat.le_of_ble_eq_true rfl⟩ dX4_hangingAfterCut_1 rfl [some 0, some 1, some 2, some 3, some 4, some 5, some 6, some 7, some 8, some 9, some 10, some 11, some 12, some 13, some 14, some 15, some 16, some 17, some 18, some 19, some 20, some 21] rfl (ws' := cTW G q p_1.2) rfl (fun H locs hW => ?_)
  obtain ⟨x_4, e_x_4, h⟩ := of_nm h
  refine x_topi e_x_4 ?_
  refine lv_istore_n (lv' := [(1, .int x_4), (0, .ref (q 0))]) hx hb dX4_hangingAfterCut_4 rfl hl (by decide) rfl (fun ls hl => ?_)
  refine lv_iload_n hx hb dX4_hangingAfterCut_5 rfl (lv_at hl 0 rfl) ?_
  refine lv_bipush (v := (-9 : Int32)) hx hb dX4_hangingAfterCut_6 (by decide) ?_
  obtain ⟨ht_8, hf_8⟩ := of_ite h
  refine lv_icmp_ne (tgt := 16) hx hb dX4_hangingAfterCut_8 (by decide) (fun c_8 => ?_) (fun c_8 => ?_)
  · have h := hf_8 c_8
    refine lv_aload_n hx hb dX4_hangingAfterCut_16 rfl (lv_at hl 1 rfl) ?_
    refine lv_aload_n hx hb dX4_hangingAfterCut_17 rfl (lv_at hl 1 rfl) ?_
    refine x_get F hW 0 rfl fa_X4_18 rfl dX4_hangingAfterCut_18 ?_
    obtain ⟨p_21, hc_21, h⟩ := of_bind h
    refine x_Vi (av := [.ref (q 7)]) (As := []) F hW (c_X1_lit l G (fun i => q (i + 7)) p_1.2.2.1 _ hc_21) [7, 8, 9, 10, 11, 12] rfl rfl (by intro q; cases q) cv_X4_51 rfl ⟨_, rfl, rfl⟩ rfl rfl rfl hl (Nat.le_of_ble_eq_true rfl) ⟨Nat.le_of_ble_eq_true rfl, Nat.le_of_ble_eq_true rfl⟩ ⟨rfl, rfl⟩ ⟨Nat.le_of_ble_eq_true rfl, Nat.le_of_ble_eq_true rfl⟩ dX4_hangingAfterCut_21 rfl [none, none, none, none, none, none, none, some 0, some 1, some 2, some 3, some 4, some 5, none, none, none, none, none, none, none, none, none] rfl (ws' := cTW G q p_1.2) rfl (fun H locs hW => ?_)
    refine lv_iload_n hx hb dX4_hangingAfterCut_24 rfl (lv_at hl 0 rfl) ?_
    obtain ⟨p_25, hc_25, h⟩ := of_bind h
    refine x_Vi (av := [.ref (q 0), .int p_21, .int x_4]) (As := [.int p_21, .int x_4]) F hW (c_X4_hangingWithout l G q p_1.2 p_21 x_4 _ hc_25) [0, 1, 2, 3, 4, 5, 6, 7, 8, 9, 10, 11, 12, 13, 14, 15, 16, 17, 18, 19, 20, 21] rfl rfl (by intro q; cases q) cv_X4_117 rfl ⟨_, rfl, rfl⟩ rfl rfl rfl hl (Nat.le_of_ble_eq_true rfl) ⟨Nat.le_of_ble_eq_true rfl, Nat.le_of_ble_eq_true rfl⟩ ⟨rfl, rfl⟩ ⟨Nat.le_of_ble_eq_true rfl, Nat.le_of_ble_eq_true rfl⟩ dX4_hangingAfterCut_25 rfl [some 0, some 1, some 2, some 3, some 4, some 5, some 6, some 7, some 8, some 9, some 10, some 11, some 12, some 13, some 14, some 15, some 16, some 17, some 18, some 19, some 20, some 21] rfl (ws' := cTW G q p_1.2) rfl (fun H locs hW => ?_)
    obtain rfl := Option.some.inj h
    exact x_reti F hr hW rfl dX4_hangingAfterCut_28
  · have h := ht_8 c_8
    refine lv_bipush (v := (-9 : Int32)) hx hb dX4_hangingAfterCut_11 (by decide) ?_
    refine lv_goto (tgt := 28) hx hb dX4_hangingAfterCut_13 (by decide) ?_
    obtain rfl := Option.some.inj h
    exact x_reti F hr hW rfl dX4_hangingAfterCut_28
def f_X4_needed_26 (p_8 : Int32) (p_17 : Int32) : Nat → Int32 → Int32 → TW → Option (Int32 × TW)
  | 0, _, _, _ => none
  | n0 + 1, v4_26, v3_26, w_26 =>
    if w_26.2.1.2.2.2.2.2.1 ≤ v4_26 then
    some (v3_26, w_26)
    else
    Option.bind (f_X3_hanging w_26.2.2.1 (p_8 &&& (((1 : Int32) <<< (v4_26 &&& 31)) ^^^ (-1 : Int32)))) fun p_51 =>
    nm (p_17 &&& (p_51 ^^^ (-1 : Int32))) fun x_57 =>
    if (x_57 &&& (((1 : Int32) <<< (v4_26 &&& 31)) ^^^ (-1 : Int32))) = 0 then
    f_X4_needed_26 p_8 p_17 n0 (v4_26 + (1 : Int32)) v3_26 w_26
    else
    nm (v3_26 ||| ((1 : Int32) <<< (v4_26 &&& 31))) fun x_77 =>
    f_X4_needed_26 p_8 p_17 n0 (v4_26 + (1 : Int32)) x_77 w_26
def f_X4_needed (w : TW) : Option (Int32 × TW) :=
  Option.bind (f_X4_begin w) fun p_1 =>
    Option.bind (f_X1_lit p_1.2.1) fun p_8 =>
    Option.bind (f_X3_hanging p_1.2.2.1 p_8) fun p_17 =>
    f_X4_needed_26 p_8 p_17 200 (0 : Int32) (0 : Int32) p_1
abbrev rmX4_needed : Room := { frames := 4, cells := 0, slots := 0, locals := 105 }
set_option maxRecDepth 100000 in
set_option maxHeartbeats 4000000 in
theorem c_X4_needed (l : Launch) (G : EnT) (q : Nat → Nat) (w : TW) (o : Int32 × TW) (h : f_X4_needed w = some o) : Mi l yX4_needed rmX4_needed cX4_needed 6 (some .int) G false [.ref (q 0)] (cTW G q w) o.1 (cTW G q o.2) := by
  refine Mi_of (by decide) (Nat.le_of_ble_eq_true rfl) ?_
  intro p e s m below meth c A0 F hr hW ls hl
  obtain ⟨hx, hb, hml, hown, hts, hK, hNW, hlocks, hA, hSX⟩ := id F
  have hl : lv_has ls 6 [(0, .ref (q 0))] := hl
  have hW : Wd G A0 s (cTW G q w) s.heap [] := hW
  show W p l e rmX4_needed s m ([.ref (q 0)] : List Value).toArray below meth c s.heap [] 0 0 (Qi below G (cTW G q o.2) o.1 A0 ([.ref (q 0)] : List Value).toArray s) (F0 m 0 ls [])
  refine lv_aload_n hx hb dX4_needed_0 rfl (lv_at hl 0 rfl) ?_
  obtain ⟨p_1, hc_1, h⟩ := of_bind h
  refine x_Vv (av := [.ref (q 0)]) (As := []) F hW (c_X4_begin l G q w _ hc_1) [0, 1, 2, 3, 4, 5, 6, 7, 8, 9, 10, 11, 12, 13, 14, 15, 16, 17, 18, 19, 20, 21] rfl rfl (by intro q; cases q) cv_X4_71 rfl ⟨_, rfl, rfl⟩ rfl rfl rfl hl (Nat.le_of_ble_eq_true rfl) ⟨Nat.le_of_ble_eq_true rfl, Nat.le_of_ble_eq_true rfl⟩ ⟨rfl, rfl⟩ ⟨Nat.le_of_ble_eq_true rfl, Nat.le_of_ble_eq_true rfl⟩ dX4_needed_1 rfl [some 0, some 1, some 2, some 3, some 4, some 5, some 6, some 7, some 8, some 9, some 10, some 11, some 12, some 13, some 14, some 15, some 16, some 17, some 18, some 19, some 20, some 21] rfl (ws' := cTW G q p_1) rfl (fun H locs hW => ?_)
  refine lv_aload_n hx hb dX4_needed_4 rfl (lv_at hl 0 rfl) ?_
  refine x_get F hW 0 rfl fa_X4_18 rfl dX4_needed_5 ?_
  obtain ⟨p_8, hc_8, h⟩ := of_bind h
  refine x_Vi (av := [.ref (q 7)]) (As := []) F hW (c_X1_lit l G (fun i => q (i + 7)) p_1.2.1 _ hc_8) [7, 8, 9, 10, 11, 12] rfl rfl (by intro q; cases q) cv_X4_51 rfl ⟨_, rfl, rfl⟩ rfl rfl rfl hl (Nat.le_of_ble_eq_true rfl) ⟨Nat.le_of_ble_eq_true rfl, Nat.le_of_ble_eq_true rfl⟩ ⟨rfl, rfl⟩ ⟨Nat.le_of_ble_eq_true rfl, Nat.le_of_ble_eq_true rfl⟩ dX4_needed_8 rfl [none, none, none, none, none, none, none, some 0, some 1, some 2, some 3, some 4, some 5, none, none, none, none, none, none, none, none, none] rfl (ws' := cTW G q p_1) rfl (fun H locs hW => ?_)
  refine lv_istore_n (lv' := [(1, .int p_8), (0, .ref (q 0))]) hx hb dX4_needed_11 rfl hl (by decide) rfl (fun ls hl => ?_)
  refine lv_aload_n hx hb dX4_needed_12 rfl (lv_at hl 1 rfl) ?_
  refine x_get F hW 0 rfl fa_X4_24 rfl dX4_needed_13 ?_
  refine lv_iload_n hx hb dX4_needed_16 rfl (lv_at hl 0 rfl) ?_
  obtain ⟨p_17, hc_17, h⟩ := of_bind h
  refine x_Vi (av := [.ref (q 13), .int p_8]) (As := [.int p_8]) F hW (c_X3_hanging l G (fun i => q (i + 13)) p_1.2.2.1 p_8 _ hc_17) [13, 14, 15] rfl rfl (by intro q; cases q) cv_X4_55 rfl ⟨_, rfl, rfl⟩ rfl rfl rfl hl (Nat.le_of_ble_eq_true rfl) ⟨Nat.le_of_ble_eq_true rfl, Nat.le_of_ble_eq_true rfl⟩ ⟨rfl, rfl⟩ ⟨Nat.le_of_ble_eq_true rfl, Nat.le_of_ble_eq_true rfl⟩ dX4_needed_17 rfl [none, none, none, none, none, none, none, none, none, none, none, none, none, some 0, some 1, some 2, none, none, none, none, none, none] rfl (ws' := cTW G q p_1) rfl (fun H locs hW => ?_)
  refine lv_istore_n (lv' := [(2, .int p_17), (1, .int p_8), (0, .ref (q 0))]) hx hb dX4_needed_20 rfl hl (by decide) rfl (fun ls hl => ?_)
  refine lv_iconst (v := (0 : Int32)) hx hb dX4_needed_21 (by decide) ?_
  refine lv_istore_n (lv' := [(3, .int (0 : Int32)), (2, .int p_17), (1, .int p_8), (0, .ref (q 0))]) hx hb dX4_needed_22 rfl hl (by decide) rfl (fun ls hl => ?_)
  refine lv_iconst (v := (0 : Int32)) hx hb dX4_needed_23 (by decide) ?_
  refine lv_istore (lv' := [(4, .int (0 : Int32)), (3, .int (0 : Int32)), (2, .int p_17), (1, .int p_8), (0, .ref (q 0))]) hx hb dX4_needed_24 hl (by decide) rfl (fun ls hl => ?_)
  have L0 : ∀ (n0 : Nat) (v4_26 : Int32) (v3_26 : Int32) (w_26 : TW) (H : Heap) (locs : List Loc) (ls : Array Slot), f_X4_needed_26 p_8 p_17 n0 v4_26 v3_26 w_26 = some o → Wd G A0 s (cTW G q w_26) H locs → lv_has ls 6 [(4, .int v4_26), (3, .int v3_26), (2, .int p_17), (1, .int p_8), (0, .ref (q 0))] → W p l e rmX4_needed s m ([.ref (q 0)] : List Value).toArray below meth c H locs 0 0 (Qi below G (cTW G q o.2) o.1 A0 ([.ref (q 0)] : List Value).toArray s) (F0 m 26 ls []) := by
    intro n0
    induction n0 with
    | zero => intro v4_26 v3_26 w_26 H locs ls h; cases (show (none : Option (Int32 × TW)) = some o from h)
    | succ n0 ih0 =>
      intro v4_26 v3_26 w_26 H locs ls h hW hl
      refine lv_iload hx hb dX4_needed_26 (lv_at hl 0 rfl) ?_
      refine lv_aload_n hx hb dX4_needed_28 rfl (lv_at hl 4 rfl) ?_
      refine x_get F hW 0 rfl fa_X4_18 rfl dX4_needed_29 ?_
      refine x_get F hW 7 rfl fa_X4_114 rfl dX4_needed_32 ?_
      obtain ⟨ht_35, hf_35⟩ := of_ite h
      refine lv_icmp_ge (tgt := 84) hx hb dX4_needed_35 (by decide) (fun c_35 => ?_) (fun c_35 => ?_)
      · have h := ht_35 c_35
        refine lv_iload_n hx hb dX4_needed_84 rfl (lv_at hl 1 rfl) ?_
        obtain rfl := Option.some.inj h
        exact x_reti F hr hW rfl dX4_needed_85
      · have h := hf_35 c_35
        refine lv_iload_n hx hb dX4_needed_38 rfl (lv_at hl 2 rfl) ?_
        refine lv_aload_n hx hb dX4_needed_39 rfl (lv_at hl 4 rfl) ?_
        refine x_get F hW 0 rfl fa_X4_24 rfl dX4_needed_40 ?_
        refine lv_iload_n hx hb dX4_needed_43 rfl (lv_at hl 3 rfl) ?_
        refine lv_iconst (v := (1 : Int32)) hx hb dX4_needed_44 (by decide) ?_
        refine lv_iload hx hb dX4_needed_45 (lv_at hl 0 rfl) ?_
        refine lv_ishl hx hb dX4_needed_47 ?_
        refine lv_iconst (v := (-1 : Int32)) hx hb dX4_needed_48 (by decide) ?_
        refine lv_ixor hx hb dX4_needed_49 ?_
        refine lv_iand hx hb dX4_needed_50 ?_
        obtain ⟨p_51, hc_51, h⟩ := of_bind h
        refine x_Vi (av := [.ref (q 13), .int (p_8 &&& (((1 : Int32) <<< (v4_26 &&& 31)) ^^^ (-1 : Int32)))]) (As := [.int (p_8 &&& (((1 : Int32) <<< (v4_26 &&& 31)) ^^^ (-1 : Int32)))]) F hW (c_X3_hanging l G (fun i => q (i + 13)) w_26.2.2.1 (p_8 &&& (((1 : Int32) <<< (v4_26 &&& 31)) ^^^ (-1 : Int32))) _ hc_51) [13, 14, 15] rfl rfl (by intro q; cases q) cv_X4_55 rfl ⟨_, rfl, rfl⟩ rfl rfl rfl hl (Nat.le_of_ble_eq_true rfl) ⟨Nat.le_of_ble_eq_true rfl, Nat.le_of_ble_eq_true rfl⟩ ⟨rfl, rfl⟩ ⟨Nat.le_of_ble_eq_true rfl, Nat.le_of_ble_eq_true rfl⟩ dX4_needed_51 rfl [none, none, none, none, none, none, none, none, none, none, none, none, none, some 0, some 1, some 2, none, none, none, none, none, none] rfl (ws' := cTW G q w_26) rfl (fun H locs hW => ?_)
        refine lv_iconst (v := (-1 : Int32)) hx hb dX4_needed_54 (by decide) ?_
        refine lv_ixor hx hb dX4_needed_55 ?_
        refine lv_iand hx hb dX4_needed_56 ?_
        obtain ⟨x_57, e_x_57, h⟩ := of_nm h
        refine x_topi e_x_57 ?_
        refine lv_istore (lv' := [(5, .int x_57), (4, .int v4_26), (3, .int v3_26), (2, .int p_17), (1, .int p_8), (0, .ref (q 0))]) hx hb dX4_needed_57 hl (by decide) rfl (fun ls hl => ?_)
        refine lv_iload hx hb dX4_needed_59 (lv_at hl 0 rfl) ?_
        refine lv_iconst (v := (1 : Int32)) hx hb dX4_needed_61 (by decide) ?_
        refine lv_iload hx hb dX4_needed_62 (lv_at hl 1 rfl) ?_
        refine lv_ishl hx hb dX4_needed_64 ?_
        refine lv_iconst (v := (-1 : Int32)) hx hb dX4_needed_65 (by decide) ?_
        refine lv_ixor hx hb dX4_needed_66 ?_
        refine lv_iand hx hb dX4_needed_67 ?_
        obtain ⟨ht_68, hf_68⟩ := of_ite h
        refine lv_if_eq (tgt := 78) hx hb dX4_needed_68 (by decide) (fun c_68 => ?_) (fun c_68 => ?_)
        · have h := ht_68 c_68
          refine lv_iinc (v := (v4_26 + (1 : Int32))) (lv' := [(4, .int (v4_26 + (1 : Int32))), (5, .int x_57), (3, .int v3_26), (2, .int p_17), (1, .int p_8), (0, .ref (q 0))]) hx hb dX4_needed_78 hl (k := 1) rfl rfl (by decide) rfl (fun ls hl => ?_)
          refine lv_goto (tgt := 26) hx hb dX4_needed_81 (by decide) ?_
          exact ih0 (v4_26 + (1 : Int32)) v3_26 w_26 _ _ _ h hW (lv_sub hl [0, 2, 3, 4, 5] rfl)
        · have h := hf_68 c_68
          refine lv_iload_n hx hb dX4_needed_71 rfl (lv_at hl 2 rfl) ?_
          refine lv_iconst (v := (1 : Int32)) hx hb dX4_needed_72 (by decide) ?_
          refine lv_iload hx hb dX4_needed_73 (lv_at hl 1 rfl) ?_
          refine lv_ishl hx hb dX4_needed_75 ?_
          refine lv_ior hx hb dX4_needed_76 ?_
          obtain ⟨x_77, e_x_77, h⟩ := of_nm h
          refine x_topi e_x_77 ?_
          refine lv_istore_n (lv' := [(3, .int x_77), (5, .int x_57), (4, .int v4_26), (2, .int p_17), (1, .int p_8), (0, .ref (q 0))]) hx hb dX4_needed_77 rfl hl (by decide) rfl (fun ls hl => ?_)
          refine lv_iinc (v := (v4_26 + (1 : Int32))) (lv' := [(4, .int (v4_26 + (1 : Int32))), (3, .int x_77), (5, .int x_57), (2, .int p_17), (1, .int p_8), (0, .ref (q 0))]) hx hb dX4_needed_78 hl (k := 2) rfl rfl (by decide) rfl (fun ls hl => ?_)
          refine lv_goto (tgt := 26) hx hb dX4_needed_81 (by decide) ?_
          exact ih0 (v4_26 + (1 : Int32)) x_77 w_26 _ _ _ h hW (lv_sub hl [0, 1, 3, 4, 5] rfl)
  exact L0 200 (0 : Int32) (0 : Int32) p_1 _ _ _ h hW (lv_sub hl [0, 1, 2, 3, 4] rfl)
def f_X4_hangingIfBuilt (w : TW) (x1 : Int32) : Option (Int32 × TW) :=
  Option.bind (f_X1_become w.2.1 w.1) fun p_8 =>
    Option.bind (f_X1_addHouse p_8 (0 : Int32) (0 : Int32) x1) fun p_18 =>
    Option.bind (f_X3_lookOver w.2.2.1 p_18.2) fun p_30 =>
    Option.bind (f_X4_hangers (w.1, p_18.2, p_30, w.2.2.2.1, w.2.2.2.2.1, w.2.2.2.2.2.1, w.2.2.2.2.2.2)) fun p_34 =>
    Option.bind (f_J6_bitCount_0f7a4 p_34) fun p_37 =>
    some (p_37, (w.1, p_18.2, p_30, w.2.2.2.1, w.2.2.2.2.1, w.2.2.2.2.2.1, w.2.2.2.2.2.2))
abbrev rmX4_hangingIfBuilt : Room := { frames := 4, cells := 0, slots := 0, locals := 99 }
set_option maxRecDepth 100000 in
set_option maxHeartbeats 4000000 in
theorem c_X4_hangingIfBuilt (l : Launch) (G : EnT) (q : Nat → Nat) (w : TW) (x1 : Int32) (o : Int32 × TW) (h : f_X4_hangingIfBuilt w x1 = some o) : Mi l yX4_hangingIfBuilt rmX4_hangingIfBuilt cX4_hangingIfBuilt 2 (some .int) G false [.ref (q 0), .int x1] (cTW G q w) o.1 (cTW G q o.2) := by
  refine Mi_of (by decide) (Nat.le_of_ble_eq_true rfl) ?_
  intro p e s m below meth c A0 F hr hW ls hl
  obtain ⟨hx, hb, hml, hown, hts, hK, hNW, hlocks, hA, hSX⟩ := id F
  have hl : lv_has ls 2 [(0, .ref (q 0)), (1, .int x1)] := hl
  have hW : Wd G A0 s (cTW G q w) s.heap [] := hW
  show W p l e rmX4_hangingIfBuilt s m ([.ref (q 0), .int x1] : List Value).toArray below meth c s.heap [] 0 0 (Qi below G (cTW G q o.2) o.1 A0 ([.ref (q 0), .int x1] : List Value).toArray s) (F0 m 0 ls [])
  refine lv_aload_n hx hb dX4_hangingIfBuilt_0 rfl (lv_at hl 0 rfl) ?_
  refine x_get F hW 0 rfl fa_X4_18 rfl dX4_hangingIfBuilt_1 ?_
  refine lv_aload_n hx hb dX4_hangingIfBuilt_4 rfl (lv_at hl 0 rfl) ?_
  refine x_get F hW 0 rfl fa_X4_12 rfl dX4_hangingIfBuilt_5 ?_
  obtain ⟨p_8, hc_8, h⟩ := of_bind h
  refine x_Vv (av := [.ref (q 7), .ref (q 1)]) (As := [.ref (q 1)]) F hW (c_X1_become l G (fun i => q (i + 7)) w.2.1 (fun i => q (i + 1)) w.1 _ hc_8) [7, 8, 9, 10, 11, 12, 1, 2, 3, 4, 5, 6] rfl rfl (by intro q; cases q) cv_X4_41 rfl ⟨_, rfl, rfl⟩ rfl rfl rfl hl (Nat.le_of_ble_eq_true rfl) ⟨Nat.le_of_ble_eq_true rfl, Nat.le_of_ble_eq_true rfl⟩ ⟨rfl, rfl⟩ ⟨Nat.le_of_ble_eq_true rfl, Nat.le_of_ble_eq_true rfl⟩ dX4_hangingIfBuilt_8 rfl [none, some 6, some 7, some 8, some 9, some 10, some 11, some 0, some 1, some 2, some 3, some 4, some 5, none, none, none, none, none, none, none, none, none] rfl (ws' := cTW G q (w.1, p_8, w.2.2.1, w.2.2.2.1, w.2.2.2.2.1, w.2.2.2.2.2.1, w.2.2.2.2.2.2)) rfl (fun H locs hW => ?_)
  refine lv_aload_n hx hb dX4_hangingIfBuilt_11 rfl (lv_at hl 0 rfl) ?_
  refine x_get F hW 0 rfl fa_X4_18 rfl dX4_hangingIfBuilt_12 ?_
  refine lv_iconst (v := (0 : Int32)) hx hb dX4_hangingIfBuilt_15 (by decide) ?_
  refine lv_iconst (v := (0 : Int32)) hx hb dX4_hangingIfBuilt_16 (by decide) ?_
  refine lv_iload_n hx hb dX4_hangingIfBuilt_17 rfl (lv_at hl 1 rfl) ?_
  obtain ⟨p_18, hc_18, h⟩ := of_bind h
  refine x_Vi (av := [.ref (q 7), .int (0 : Int32), .int (0 : Int32), .int x1]) (As := [.int (0 : Int32), .int (0 : Int32), .int x1]) F hW (c_X1_addHouse l G (fun i => q (i + 7)) p_8 (0 : Int32) (0 : Int32) x1 _ hc_18) [7, 8, 9, 10, 11, 12] rfl rfl (by intro q; cases q) cv_X4_127 rfl ⟨_, rfl, rfl⟩ rfl rfl rfl hl (Nat.le_of_ble_eq_true rfl) ⟨Nat.le_of_ble_eq_true rfl, Nat.le_of_ble_eq_true rfl⟩ ⟨rfl, rfl⟩ ⟨Nat.le_of_ble_eq_true rfl, Nat.le_of_ble_eq_true rfl⟩ dX4_hangingIfBuilt_18 rfl [none, none, none, none, none, none, none, some 0, some 1, some 2, some 3, some 4, some 5, none, none, none, none, none, none, none, none, none] rfl (ws' := cTW G q (w.1, p_18.2, w.2.2.1, w.2.2.2.1, w.2.2.2.2.1, w.2.2.2.2.2.1, w.2.2.2.2.2.2)) rfl (fun H locs hW => ?_)
  refine lv_pop hx hb dX4_hangingIfBuilt_21 rfl ?_
  refine lv_aload_n hx hb dX4_hangingIfBuilt_22 rfl (lv_at hl 0 rfl) ?_
  refine x_get F hW 0 rfl fa_X4_24 rfl dX4_hangingIfBuilt_23 ?_
  refine lv_aload_n hx hb dX4_hangingIfBuilt_26 rfl (lv_at hl 0 rfl) ?_
  refine x_get F hW 0 rfl fa_X4_18 rfl dX4_hangingIfBuilt_27 ?_
  obtain ⟨p_30, hc_30, h⟩ := of_bind h
  refine x_Vv (av := [.ref (q 13), .ref (q 7)]) (As := [.ref (q 7)]) F hW (c_X3_lookOver l G (fun i => q (i + 13)) w.2.2.1 (fun i => q (i + 7)) p_18.2 _ hc_30) [13, 14, 15, 7, 8, 9, 10, 11, 12] rfl rfl (by intro q; cases q) cv_X4_131 rfl ⟨_, rfl, rfl⟩ rfl rfl rfl hl (Nat.le_of_ble_eq_true rfl) ⟨Nat.le_of_ble_eq_true rfl, Nat.le_of_ble_eq_true rfl⟩ ⟨rfl, rfl⟩ ⟨Nat.le_of_ble_eq_true rfl, Nat.le_of_ble_eq_true rfl⟩ dX4_hangingIfBuilt_30 rfl [none, none, none, none, none, none, none, some 3, some 4, some 5, some 6, some 7, some 8, some 0, some 1, some 2, none, none, none, none, none, none] rfl (ws' := cTW G q (w.1, p_18.2, p_30, w.2.2.2.1, w.2.2.2.2.1, w.2.2.2.2.2.1, w.2.2.2.2.2.2)) rfl (fun H locs hW => ?_)
  refine lv_aload_n hx hb dX4_hangingIfBuilt_33 rfl (lv_at hl 0 rfl) ?_
  obtain ⟨p_34, hc_34, h⟩ := of_bind h
  refine x_Vi (av := [.ref (q 0)]) (As := []) F hW (c_X4_hangers l G q (w.1, p_18.2, p_30, w.2.2.2.1, w.2.2.2.2.1, w.2.2.2.2.2.1, w.2.2.2.2.2.2) _ hc_34) [0, 1, 2, 3, 4, 5, 6, 7, 8, 9, 10, 11, 12, 13, 14, 15, 16, 17, 18, 19, 20, 21] rfl rfl (by intro q; cases q) cv_X4_74 rfl ⟨_, rfl, rfl⟩ rfl rfl rfl hl (Nat.le_of_ble_eq_true rfl) ⟨Nat.le_of_ble_eq_true rfl, Nat.le_of_ble_eq_true rfl⟩ ⟨rfl, rfl⟩ ⟨Nat.le_of_ble_eq_true rfl, Nat.le_of_ble_eq_true rfl⟩ dX4_hangingIfBuilt_34 rfl [some 0, some 1, some 2, some 3, some 4, some 5, some 6, some 7, some 8, some 9, some 10, some 11, some 12, some 13, some 14, some 15, some 16, some 17, some 18, some 19, some 20, some 21] rfl (ws' := cTW G q (w.1, p_18.2, p_30, w.2.2.2.1, w.2.2.2.2.1, w.2.2.2.2.2.1, w.2.2.2.2.2.2)) rfl (fun H locs hW => ?_)
  obtain ⟨p_37, hc_37, h⟩ := of_bind h
  refine x_Si (av := [.int p_34]) F hW (c_J6_bitCount_0f7a4 l G p_34 _ hc_37) [] rfl rfl (by intro q; cases q) cs_X4_59 rfl rfl hl (Nat.le_of_ble_eq_true rfl) ⟨Nat.le_of_ble_eq_true rfl, Nat.le_of_ble_eq_true rfl⟩ ⟨rfl, rfl⟩ ⟨Nat.le_of_ble_eq_true rfl, Nat.le_of_ble_eq_true rfl⟩ dX4_hangingIfBuilt_37 rfl [none, none, none, none, none, none, none, none, none, none, none, none, none, none, none, none, none, none, none, none, none, none] rfl (ws' := cTW G q (w.1, p_18.2, p_30, w.2.2.2.1, w.2.2.2.2.1, w.2.2.2.2.2.1, w.2.2.2.2.2.2)) rfl (fun H locs hW => ?_)
  obtain rfl := Option.some.inj h
  exact x_reti F hr hW rfl dX4_hangingIfBuilt_40
def f_X4_buildCell_6 : Nat → Int32 → Int32 → Int32 → TW → Option (Int32 × TW)
  | 0, _, _, _, _ => none
  | n0 + 1, v3_6, v2_6, v1_6, w_6 =>
    if (20 : Int32) ≤ v3_6 then
    some (v1_6, w_6)
    else
    Option.bind (f_X4_hangingIfBuilt w_6 v3_6) fun p_14 =>
    nm p_14.1 fun x_17 =>
    if x_17 ≤ v2_6 then
    f_X4_buildCell_6 n0 (v3_6 + (1 : Int32)) v2_6 v1_6 p_14.2
    else
    f_X4_buildCell_6 n0 (v3_6 + (1 : Int32)) x_17 v3_6 p_14.2
def f_X4_buildCell (w : TW) : Option (Int32 × TW) :=
  f_X4_buildCell_6 200 (0 : Int32) (0 : Int32) (0 : Int32) w
abbrev rmX4_buildCell : Room := { frames := 5, cells := 0, slots := 0, locals := 120 }
set_option maxRecDepth 100000 in
set_option maxHeartbeats 4000000 in
theorem c_X4_buildCell (l : Launch) (G : EnT) (q : Nat → Nat) (w : TW) (o : Int32 × TW) (h : f_X4_buildCell w = some o) : Mi l yX4_buildCell rmX4_buildCell cX4_buildCell 5 (some .int) G false [.ref (q 0)] (cTW G q w) o.1 (cTW G q o.2) := by
  refine Mi_of (by decide) (Nat.le_of_ble_eq_true rfl) ?_
  intro p e s m below meth c A0 F hr hW ls hl
  obtain ⟨hx, hb, hml, hown, hts, hK, hNW, hlocks, hA, hSX⟩ := id F
  have hl : lv_has ls 5 [(0, .ref (q 0))] := hl
  have hW : Wd G A0 s (cTW G q w) s.heap [] := hW
  show W p l e rmX4_buildCell s m ([.ref (q 0)] : List Value).toArray below meth c s.heap [] 0 0 (Qi below G (cTW G q o.2) o.1 A0 ([.ref (q 0)] : List Value).toArray s) (F0 m 0 ls [])
  refine lv_iconst (v := (0 : Int32)) hx hb dX4_buildCell_0 (by decide) ?_
  refine lv_istore_n (lv' := [(1, .int (0 : Int32)), (0, .ref (q 0))]) hx hb dX4_buildCell_1 rfl hl (by decide) rfl (fun ls hl => ?_)
  refine lv_iconst (v := (0 : Int32)) hx hb dX4_buildCell_2 (by decide) ?_
  refine lv_istore_n (lv' := [(2, .int (0 : Int32)), (1, .int (0 : Int32)), (0, .ref (q 0))]) hx hb dX4_buildCell_3 rfl hl (by decide) rfl (fun ls hl => ?_)
  refine lv_iconst (v := (0 : Int32)) hx hb dX4_buildCell_4 (by decide) ?_
  refine lv_istore_n (lv' := [(3, .int (0 : Int32)), (2, .int (0 : Int32)), (1, .int (0 : Int32)), (0, .ref (q 0))]) hx hb dX4_buildCell_5 rfl hl (by decide) rfl (fun ls hl => ?_)
  have L0 : ∀ (n0 : Nat) (v3_6 : Int32) (v2_6 : Int32) (v1_6 : Int32) (w_6 : TW) (H : Heap) (locs : List Loc) (ls : Array Slot), f_X4_buildCell_6 n0 v3_6 v2_6 v1_6 w_6 = some o → Wd G A0 s (cTW G q w_6) H locs → lv_has ls 5 [(3, .int v3_6), (2, .int v2_6), (1, .int v1_6), (0, .ref (q 0))] → W p l e rmX4_buildCell s m ([.ref (q 0)] : List Value).toArray below meth c H locs 0 0 (Qi below G (cTW G q o.2) o.1 A0 ([.ref (q 0)] : List Value).toArray s) (F0 m 6 ls []) := by
    intro n0
    induction n0 with
    | zero => intro v3_6 v2_6 v1_6 w_6 H locs ls h; cases (show (none : Option (Int32 × TW)) = some o from h)
    | succ n0 ih0 =>
      intro v3_6 v2_6 v1_6 w_6 H locs ls h hW hl
      refine lv_iload_n hx hb dX4_buildCell_6 rfl (lv_at hl 0 rfl) ?_
      refine lv_bipush (v := (20 : Int32)) hx hb dX4_buildCell_7 (by decide) ?_
      obtain ⟨ht_9, hf_9⟩ := of_ite h
      refine lv_icmp_ge (tgt := 36) hx hb dX4_buildCell_9 (by decide) (fun c_9 => ?_) (fun c_9 => ?_)
      · have h := ht_9 c_9
        refine lv_iload_n hx hb dX4_buildCell_36 rfl (lv_at hl 2 rfl) ?_
        obtain rfl := Option.some.inj h
        exact x_reti F hr hW rfl dX4_buildCell_37
      · have h := hf_9 c_9
        refine lv_aload_n hx hb dX4_buildCell_12 rfl (lv_at hl 3 rfl) ?_
        refine lv_iload_n hx hb dX4_buildCell_13 rfl (lv_at hl 0 rfl) ?_
        obtain ⟨p_14, hc_14, h⟩ := of_bind h
        refine x_Vi (av := [.ref (q 0), .int v3_6]) (As := [.int v3_6]) F hW (c_X4_hangingIfBuilt l G q w_6 v3_6 _ hc_14) [0, 1, 2, 3, 4, 5, 6, 7, 8, 9, 10, 11, 12, 13, 14, 15, 16, 17, 18, 19, 20, 21] rfl rfl (by intro q; cases q) cv_X4_124 rfl ⟨_, rfl, rfl⟩ rfl rfl rfl hl (Nat.le_of_ble_eq_true rfl) ⟨Nat.le_of_ble_eq_true rfl, Nat.le_of_ble_eq_true rfl⟩ ⟨rfl, rfl⟩ ⟨Nat.le_of_ble_eq_true rfl, Nat.le_of_ble_eq_true rfl⟩ dX4_buildCell_14 rfl [some 0, some 1, some 2, some 3, some 4, some 5, some 6, some 7, some 8, some 9, some 10, some 11, some 12, some 13, some 14, some 15, some 16, some 17, some 18, some 19, some 20, some 21] rfl (ws' := cTW G q p_14.2) rfl (fun H locs hW => ?_)
        obtain ⟨x_17, e_x_17, h⟩ := of_nm h
        refine x_topi e_x_17 ?_
        refine lv_istore (lv' := [(4, .int x_17), (3, .int v3_6), (2, .int v2_6), (1, .int v1_6), (0, .ref (q 0))]) hx hb dX4_buildCell_17 hl (by decide) rfl (fun ls hl => ?_)
        refine lv_iload hx hb dX4_buildCell_19 (lv_at hl 0 rfl) ?_
        refine lv_iload_n hx hb dX4_buildCell_21 rfl (lv_at hl 2 rfl) ?_
        obtain ⟨ht_22, hf_22⟩ := of_ite h
        refine lv_icmp_le (tgt := 30) hx hb dX4_buildCell_22 (by decide) (fun c_22 => ?_) (fun c_22 => ?_)
        · have h := ht_22 c_22
          refine lv_iinc (v := (v3_6 + (1 : Int32))) (lv' := [(3, .int (v3_6 + (1 : Int32))), (4, .int x_17), (2, .int v2_6), (1, .int v1_6), (0, .ref (q 0))]) hx hb dX4_buildCell_30 hl (k := 1) rfl rfl (by decide) rfl (fun ls hl => ?_)
          refine lv_goto (tgt := 6) hx hb dX4_buildCell_33 (by decide) ?_
          exact ih0 (v3_6 + (1 : Int32)) v2_6 v1_6 p_14.2 _ _ _ h hW (lv_sub hl [0, 2, 3, 4] rfl)
        · have h := hf_22 c_22
          refine lv_iload_n hx hb dX4_buildCell_25 rfl (lv_at hl 1 rfl) ?_
          refine lv_istore_n (lv' := [(1, .int v3_6), (4, .int x_17), (3, .int v3_6), (2, .int v2_6), (0, .ref (q 0))]) hx hb dX4_buildCell_26 rfl hl (by decide) rfl (fun ls hl => ?_)
          refine lv_iload hx hb dX4_buildCell_27 (lv_at hl 1 rfl) ?_
          refine lv_istore_n (lv' := [(2, .int x_17), (1, .int v3_6), (4, .int x_17), (3, .int v3_6), (0, .ref (q 0))]) hx hb dX4_buildCell_29 rfl hl (by decide) rfl (fun ls hl => ?_)
          refine lv_iinc (v := (v3_6 + (1 : Int32))) (lv' := [(3, .int (v3_6 + (1 : Int32))), (2, .int x_17), (1, .int v3_6), (4, .int x_17), (0, .ref (q 0))]) hx hb dX4_buildCell_30 hl (k := 3) rfl rfl (by decide) rfl (fun ls hl => ?_)
          refine lv_goto (tgt := 6) hx hb dX4_buildCell_33 (by decide) ?_
          exact ih0 (v3_6 + (1 : Int32)) x_17 v3_6 p_14.2 _ _ _ h hW (lv_sub hl [0, 1, 2, 4] rfl)
  exact L0 200 (0 : Int32) (0 : Int32) (0 : Int32) w _ _ _ h hW (lv_sub hl [0, 1, 2, 3] rfl)
def f_X4_cellToFell_17 : Nat → Int32 → Int32 → Int32 → TW → Option (Int32 × TW)
  | 0, _, _, _, _ => none
  | n0 + 1, v3_17, v2_17, v1_17, w_17 =>
    if (20 : Int32) ≤ v3_17 then
    some (v1_17, w_17)
    else
    Option.bind (f_X1_become w_17.2.1 w_17.1) fun p_31 =>
    Option.bind (f_X1_putHeight p_31 v3_17 (0 : Int32)) fun p_40 =>
    Option.bind (f_X3_lookOver w_17.2.2.1 p_40.2) fun p_52 =>
    Option.bind (f_X4_hangers (w_17.1, p_40.2, p_52, w_17.2.2.2.1, w_17.2.2.2.2.1, w_17.2.2.2.2.2.1, w_17.2.2.2.2.2.2)) fun p_56 =>
    Option.bind (f_J6_bitCount_0f7a4 p_56) fun p_59 =>
    if p_59 ≤ v2_17 then
    f_X4_cellToFell_17 n0 (v3_17 + (1 : Int32)) v2_17 v1_17 (w_17.1, p_40.2, p_52, w_17.2.2.2.1, w_17.2.2.2.2.1, w_17.2.2.2.2.2.1, w_17.2.2.2.2.2.2)
    else
    f_X4_cellToFell_17 n0 (v3_17 + (1 : Int32)) p_59 v3_17 (w_17.1, p_40.2, p_52, w_17.2.2.2.1, w_17.2.2.2.2.1, w_17.2.2.2.2.2.1, w_17.2.2.2.2.2.2)
def f_X4_cellToFell (w : TW) : Option (Int32 × TW) :=
  Option.bind (f_X4_begin w) fun p_1 =>
    Option.bind (f_X4_hangers p_1) fun p_8 =>
    Option.bind (f_J6_bitCount_0f7a4 p_8) fun p_11 =>
    f_X4_cellToFell_17 200 (0 : Int32) p_11 (-9 : Int32) p_1
abbrev rmX4_cellToFell : Room := { frames := 4, cells := 0, slots := 0, locals := 105 }
set_option maxRecDepth 100000 in
set_option maxHeartbeats 4000000 in
theorem c_X4_cellToFell (l : Launch) (G : EnT) (q : Nat → Nat) (w : TW) (o : Int32 × TW) (h : f_X4_cellToFell w = some o) : Mi l yX4_cellToFell rmX4_cellToFell cX4_cellToFell 5 (some .int) G false [.ref (q 0)] (cTW G q w) o.1 (cTW G q o.2) := by
  refine Mi_of (by decide) (Nat.le_of_ble_eq_true rfl) ?_
  intro p e s m below meth c A0 F hr hW ls hl
  obtain ⟨hx, hb, hml, hown, hts, hK, hNW, hlocks, hA, hSX⟩ := id F
  have hl : lv_has ls 5 [(0, .ref (q 0))] := hl
  have hW : Wd G A0 s (cTW G q w) s.heap [] := hW
  show W p l e rmX4_cellToFell s m ([.ref (q 0)] : List Value).toArray below meth c s.heap [] 0 0 (Qi below G (cTW G q o.2) o.1 A0 ([.ref (q 0)] : List Value).toArray s) (F0 m 0 ls [])
  refine lv_aload_n hx hb dX4_cellToFell_0 rfl (lv_at hl 0 rfl) ?_
  obtain ⟨p_1, hc_1, h⟩ := of_bind h
  refine x_Vv (av := [.ref (q 0)]) (As := []) F hW (c_X4_begin l G q w _ hc_1) [0, 1, 2, 3, 4, 5, 6, 7, 8, 9, 10, 11, 12, 13, 14, 15, 16, 17, 18, 19, 20, 21] rfl rfl (by intro q; cases q) cv_X4_71 rfl ⟨_, rfl, rfl⟩ rfl rfl rfl hl (Nat.le_of_ble_eq_true rfl) ⟨Nat.le_of_ble_eq_true rfl, Nat.le_of_ble_eq_true rfl⟩ ⟨rfl, rfl⟩ ⟨Nat.le_of_ble_eq_true rfl, Nat.le_of_ble_eq_true rfl⟩ dX4_cellToFell_1 rfl [some 0, some 1, some 2, some 3, some 4, some 5, some 6, some 7, some 8, some 9, some 10, some 11, some 12, some 13, some 14, some 15, some 16, some 17, some 18, some 19, some 20, some 21] rfl (ws' := cTW G q p_1) rfl (fun H locs hW => ?_)
  refine lv_bipush (v := (-9 : Int32)) hx hb dX4_cellToFell_4 (by decide) ?_
  refine lv_istore_n (lv' := [(1, .int (-9 : Int32)), (0, .ref (q 0))]) hx hb dX4_cellToFell_6 rfl hl (by decide) rfl (fun ls hl => ?_)
  refine lv_aload_n hx hb dX4_cellToFell_7 rfl (lv_at hl 1 rfl) ?_
  obtain ⟨p_8, hc_8, h⟩ := of_bind h
  refine x_Vi (av := [.ref (q 0)]) (As := []) F hW (c_X4_hangers l G q p_1 _ hc_8) [0, 1, 2, 3, 4, 5, 6, 7, 8, 9, 10, 11, 12, 13, 14, 15, 16, 17, 18, 19, 20, 21] rfl rfl (by intro q; cases q) cv_X4_74 rfl ⟨_, rfl, rfl⟩ rfl rfl rfl hl (Nat.le_of_ble_eq_true rfl) ⟨Nat.le_of_ble_eq_true rfl, Nat.le_of_ble_eq_true rfl⟩ ⟨rfl, rfl⟩ ⟨Nat.le_of_ble_eq_true rfl, Nat.le_of_ble_eq_true rfl⟩ dX4_cellToFell_8 rfl [some 0, some 1, some 2, some 3, some 4, some 5, some 6, some 7, some 8, some 9, some 10, some 11, some 12, some 13, some 14, some 15, some 16, some 17, some 18, some 19, some 20, some 21] rfl (ws' := cTW G q p_1) rfl (fun H locs hW => ?_)
  obtain ⟨p_11, hc_11, h⟩ := of_bind h
  refine x_Si (av := [.int p_8]) F hW (c_J6_bitCount_0f7a4 l G p_8 _ hc_11) [] rfl rfl (by intro q; cases q) cs_X4_59 rfl rfl hl (Nat.le_of_ble_eq_true rfl) ⟨Nat.le_of_ble_eq_true rfl, Nat.le_of_ble_eq_true rfl⟩ ⟨rfl, rfl⟩ ⟨Nat.le_of_ble_eq_true rfl, Nat.le_of_ble_eq_true rfl⟩ dX4_cellToFell_11 rfl [none, none, none, none, none, none, none, none, none, none, none, none, none, none, none, none, none, none, none, none, none, none] rfl (ws' := cTW G q p_1) rfl (fun H locs hW => ?_)
  refine lv_istore_n (lv' := [(2, .int p_11), (1, .int (-9 : Int32)), (0, .ref (q 0))]) hx hb dX4_cellToFell_14 rfl hl (by decide) rfl (fun ls hl => ?_)
  refine lv_iconst (v := (0 : Int32)) hx hb dX4_cellToFell_15 (by decide) ?_
  refine lv_istore_n (lv' := [(3, .int (0 : Int32)), (2, .int p_11), (1, .int (-9 : Int32)), (0, .ref (q 0))]) hx hb dX4_cellToFell_16 rfl hl (by decide) rfl (fun ls hl => ?_)
  have L0 : ∀ (n0 : Nat) (v3_17 : Int32) (v2_17 : Int32) (v1_17 : Int32) (w_17 : TW) (H : Heap) (locs : List Loc) (ls : Array Slot), f_X4_cellToFell_17 n0 v3_17 v2_17 v1_17 w_17 = some o → Wd G A0 s (cTW G q w_17) H locs → lv_has ls 5 [(3, .int v3_17), (2, .int v2_17), (1, .int v1_17), (0, .ref (q 0))] → W p l e rmX4_cellToFell s m ([.ref (q 0)] : List Value).toArray below meth c H locs 0 0 (Qi below G (cTW G q o.2) o.1 A0 ([.ref (q 0)] : List Value).toArray s) (F0 m 17 ls []) := by
    intro n0
    induction n0 with
    | zero => intro v3_17 v2_17 v1_17 w_17 H locs ls h; cases (show (none : Option (Int32 × TW)) = some o from h)
    | succ n0 ih0 =>
      intro v3_17 v2_17 v1_17 w_17 H locs ls h hW hl
      refine lv_iload_n hx hb dX4_cellToFell_17 rfl (lv_at hl 0 rfl) ?_
      refine lv_bipush (v := (20 : Int32)) hx hb dX4_cellToFell_18 (by decide) ?_
      obtain ⟨ht_20, hf_20⟩ := of_ite h
      refine lv_icmp_ge (tgt := 81) hx hb dX4_cellToFell_20 (by decide) (fun c_20 => ?_) (fun c_20 => ?_)
      · have h := ht_20 c_20
        refine lv_iload_n hx hb dX4_cellToFell_81 rfl (lv_at hl 2 rfl) ?_
        obtain rfl := Option.some.inj h
        exact x_reti F hr hW rfl dX4_cellToFell_82
      · have h := hf_20 c_20
        refine lv_aload_n hx hb dX4_cellToFell_23 rfl (lv_at hl 3 rfl) ?_
        refine x_get F hW 0 rfl fa_X4_18 rfl dX4_cellToFell_24 ?_
        refine lv_aload_n hx hb dX4_cellToFell_27 rfl (lv_at hl 3 rfl) ?_
        refine x_get F hW 0 rfl fa_X4_12 rfl dX4_cellToFell_28 ?_
        obtain ⟨p_31, hc_31, h⟩ := of_bind h
        refine x_Vv (av := [.ref (q 7), .ref (q 1)]) (As := [.ref (q 1)]) F hW (c_X1_become l G (fun i => q (i + 7)) w_17.2.1 (fun i => q (i + 1)) w_17.1 _ hc_31) [7, 8, 9, 10, 11, 12, 1, 2, 3, 4, 5, 6] rfl rfl (by intro q; cases q) cv_X4_41 rfl ⟨_, rfl, rfl⟩ rfl rfl rfl hl (Nat.le_of_ble_eq_true rfl) ⟨Nat.le_of_ble_eq_true rfl, Nat.le_of_ble_eq_true rfl⟩ ⟨rfl, rfl⟩ ⟨Nat.le_of_ble_eq_true rfl, Nat.le_of_ble_eq_true rfl⟩ dX4_cellToFell_31 rfl [none, some 6, some 7, some 8, some 9, some 10, some 11, some 0, some 1, some 2, some 3, some 4, some 5, none, none, none, none, none, none, none, none, none] rfl (ws' := cTW G q (w_17.1, p_31, w_17.2.2.1, w_17.2.2.2.1, w_17.2.2.2.2.1, w_17.2.2.2.2.2.1, w_17.2.2.2.2.2.2)) rfl (fun H locs hW => ?_)
        refine lv_aload_n hx hb dX4_cellToFell_34 rfl (lv_at hl 3 rfl) ?_
        refine x_get F hW 0 rfl fa_X4_18 rfl dX4_cellToFell_35 ?_
        refine lv_iload_n hx hb dX4_cellToFell_38 rfl (lv_at hl 0 rfl) ?_
        refine lv_iconst (v := (0 : Int32)) hx hb dX4_cellToFell_39 (by decide) ?_
        obtain ⟨p_40, hc_40, h⟩ := of_bind h
        refine x_Vi (av := [.ref (q 7), .int v3_17, .int (0 : Int32)]) (As := [.int v3_17, .int (0 : Int32)]) F hW (c_X1_putHeight l G (fun i => q (i + 7)) p_31 v3_17 (0 : Int32) _ hc_40) [7, 8, 9, 10, 11, 12] rfl rfl (by intro q; cases q) cv_X4_134 rfl ⟨_, rfl, rfl⟩ rfl rfl rfl hl (Nat.le_of_ble_eq_true rfl) ⟨Nat.le_of_ble_eq_true rfl, Nat.le_of_ble_eq_true rfl⟩ ⟨rfl, rfl⟩ ⟨Nat.le_of_ble_eq_true rfl, Nat.le_of_ble_eq_true rfl⟩ dX4_cellToFell_40 rfl [none, none, none, none, none, none, none, some 0, some 1, some 2, some 3, some 4, some 5, none, none, none, none, none, none, none, none, none] rfl (ws' := cTW G q (w_17.1, p_40.2, w_17.2.2.1, w_17.2.2.2.1, w_17.2.2.2.2.1, w_17.2.2.2.2.2.1, w_17.2.2.2.2.2.2)) rfl (fun H locs hW => ?_)
        refine lv_pop hx hb dX4_cellToFell_43 rfl ?_
        refine lv_aload_n hx hb dX4_cellToFell_44 rfl (lv_at hl 3 rfl) ?_
        refine x_get F hW 0 rfl fa_X4_24 rfl dX4_cellToFell_45 ?_
        refine lv_aload_n hx hb dX4_cellToFell_48 rfl (lv_at hl 3 rfl) ?_
        refine x_get F hW 0 rfl fa_X4_18 rfl dX4_cellToFell_49 ?_
        obtain ⟨p_52, hc_52, h⟩ := of_bind h
        refine x_Vv (av := [.ref (q 13), .ref (q 7)]) (As := [.ref (q 7)]) F hW (c_X3_lookOver l G (fun i => q (i + 13)) w_17.2.2.1 (fun i => q (i + 7)) p_40.2 _ hc_52) [13, 14, 15, 7, 8, 9, 10, 11, 12] rfl rfl (by intro q; cases q) cv_X4_131 rfl ⟨_, rfl, rfl⟩ rfl rfl rfl hl (Nat.le_of_ble_eq_true rfl) ⟨Nat.le_of_ble_eq_true rfl, Nat.le_of_ble_eq_true rfl⟩ ⟨rfl, rfl⟩ ⟨Nat.le_of_ble_eq_true rfl, Nat.le_of_ble_eq_true rfl⟩ dX4_cellToFell_52 rfl [none, none, none, none, none, none, none, some 3, some 4, some 5, some 6, some 7, some 8, some 0, some 1, some 2, none, none, none, none, none, none] rfl (ws' := cTW G q (w_17.1, p_40.2, p_52, w_17.2.2.2.1, w_17.2.2.2.2.1, w_17.2.2.2.2.2.1, w_17.2.2.2.2.2.2)) rfl (fun H locs hW => ?_)
        refine lv_aload_n hx hb dX4_cellToFell_55 rfl (lv_at hl 3 rfl) ?_
        obtain ⟨p_56, hc_56, h⟩ := of_bind h
        refine x_Vi (av := [.ref (q 0)]) (As := []) F hW (c_X4_hangers l G q (w_17.1, p_40.2, p_52, w_17.2.2.2.1, w_17.2.2.2.2.1, w_17.2.2.2.2.2.1, w_17.2.2.2.2.2.2) _ hc_56) [0, 1, 2, 3, 4, 5, 6, 7, 8, 9, 10, 11, 12, 13, 14, 15, 16, 17, 18, 19, 20, 21] rfl rfl (by intro q; cases q) cv_X4_74 rfl ⟨_, rfl, rfl⟩ rfl rfl rfl hl (Nat.le_of_ble_eq_true rfl) ⟨Nat.le_of_ble_eq_true rfl, Nat.le_of_ble_eq_true rfl⟩ ⟨rfl, rfl⟩ ⟨Nat.le_of_ble_eq_true rfl, Nat.le_of_ble_eq_true rfl⟩ dX4_cellToFell_56 rfl [some 0, some 1, some 2, some 3, some 4, some 5, some 6, some 7, some 8, some 9, some 10, some 11, some 12, some 13, some 14, some 15, some 16, some 17, some 18, some 19, some 20, some 21] rfl (ws' := cTW G q (w_17.1, p_40.2, p_52, w_17.2.2.2.1, w_17.2.2.2.2.1, w_17.2.2.2.2.2.1, w_17.2.2.2.2.2.2)) rfl (fun H locs hW => ?_)
        obtain ⟨p_59, hc_59, h⟩ := of_bind h
        refine x_Si (av := [.int p_56]) F hW (c_J6_bitCount_0f7a4 l G p_56 _ hc_59) [] rfl rfl (by intro q; cases q) cs_X4_59 rfl rfl hl (Nat.le_of_ble_eq_true rfl) ⟨Nat.le_of_ble_eq_true rfl, Nat.le_of_ble_eq_true rfl⟩ ⟨rfl, rfl⟩ ⟨Nat.le_of_ble_eq_true rfl, Nat.le_of_ble_eq_true rfl⟩ dX4_cellToFell_59 rfl [none, none, none, none, none, none, none, none, none, none, none, none, none, none, none, none, none, none, none, none, none, none] rfl (ws' := cTW G q (w_17.1, p_40.2, p_52, w_17.2.2.2.1, w_17.2.2.2.2.1, w_17.2.2.2.2.2.1, w_17.2.2.2.2.2.2)) rfl (fun H locs hW => ?_)
        refine lv_istore (lv' := [(4, .int p_59), (3, .int v3_17), (2, .int v2_17), (1, .int v1_17), (0, .ref (q 0))]) hx hb dX4_cellToFell_62 hl (by decide) rfl (fun ls hl => ?_)
        refine lv_iload hx hb dX4_cellToFell_64 (lv_at hl 0 rfl) ?_
        refine lv_iload_n hx hb dX4_cellToFell_66 rfl (lv_at hl 2 rfl) ?_
        obtain ⟨ht_67, hf_67⟩ := of_ite h
        refine lv_icmp_le (tgt := 75) hx hb dX4_cellToFell_67 (by decide) (fun c_67 => ?_) (fun c_67 => ?_)
        · have h := ht_67 c_67
          refine lv_iinc (v := (v3_17 + (1 : Int32))) (lv' := [(3, .int (v3_17 + (1 : Int32))), (4, .int p_59), (2, .int v2_17), (1, .int v1_17), (0, .ref (q 0))]) hx hb dX4_cellToFell_75 hl (k := 1) rfl rfl (by decide) rfl (fun ls hl => ?_)
          refine lv_goto (tgt := 17) hx hb dX4_cellToFell_78 (by decide) ?_
          exact ih0 (v3_17 + (1 : Int32)) v2_17 v1_17 (w_17.1, p_40.2, p_52, w_17.2.2.2.1, w_17.2.2.2.2.1, w_17.2.2.2.2.2.1, w_17.2.2.2.2.2.2) _ _ _ h hW (lv_sub hl [0, 2, 3, 4] rfl)
        · have h := hf_67 c_67
          refine lv_iload_n hx hb dX4_cellToFell_70 rfl (lv_at hl 1 rfl) ?_
          refine lv_istore_n (lv' := [(1, .int v3_17), (4, .int p_59), (3, .int v3_17), (2, .int v2_17), (0, .ref (q 0))]) hx hb dX4_cellToFell_71 rfl hl (by decide) rfl (fun ls hl => ?_)
          refine lv_iload hx hb dX4_cellToFell_72 (lv_at hl 1 rfl) ?_
          refine lv_istore_n (lv' := [(2, .int p_59), (1, .int v3_17), (4, .int p_59), (3, .int v3_17), (0, .ref (q 0))]) hx hb dX4_cellToFell_74 rfl hl (by decide) rfl (fun ls hl => ?_)
          refine lv_iinc (v := (v3_17 + (1 : Int32))) (lv' := [(3, .int (v3_17 + (1 : Int32))), (2, .int p_59), (1, .int v3_17), (4, .int p_59), (0, .ref (q 0))]) hx hb dX4_cellToFell_75 hl (k := 3) rfl rfl (by decide) rfl (fun ls hl => ?_)
          refine lv_goto (tgt := 17) hx hb dX4_cellToFell_78 (by decide) ?_
          exact ih0 (v3_17 + (1 : Int32)) p_59 v3_17 (w_17.1, p_40.2, p_52, w_17.2.2.2.1, w_17.2.2.2.2.1, w_17.2.2.2.2.2.1, w_17.2.2.2.2.2.2) _ _ _ h hW (lv_sub hl [0, 1, 2, 4] rfl)
  exact L0 200 (0 : Int32) p_11 (-9 : Int32) p_1 _ _ _ h hW (lv_sub hl [0, 1, 2, 3] rfl)
def f_X4_houseToRaise_17 : Nat → Int32 → Int32 → Int32 → TW → Option (Int32 × TW)
  | 0, _, _, _, _ => none
  | n0 + 1, v3_17, v2_17, v1_17, w_17 =>
    if w_17.2.1.2.2.2.2.2.1 ≤ v3_17 then
    some (v1_17, w_17)
    else
    Option.bind (f_X3_measure w_17.2.2.1 w_17.2.1) fun p_36 =>
    if inR v3_17 8 then
    if inR v3_17 8 then
    Option.bind (f_X3_look ((upd p_36.1 v3_17.toNatClampNeg ((p_36.1 v3_17.toNatClampNeg) + (3 : Int32))), p_36.2.1, p_36.2.2.1, p_36.2.2.2) w_17.2.1) fun p_60 =>
    Option.bind (f_X4_hangers (w_17.1, w_17.2.1, p_60, w_17.2.2.2.1, w_17.2.2.2.2.1, w_17.2.2.2.2.2.1, w_17.2.2.2.2.2.2)) fun p_64 =>
    Option.bind (f_J6_bitCount_0f7a4 p_64) fun p_67 =>
    if p_67 ≤ v2_17 then
    f_X4_houseToRaise_17 n0 (v3_17 + (1 : Int32)) v2_17 v1_17 (w_17.1, w_17.2.1, p_60, w_17.2.2.2.1, w_17.2.2.2.2.1, w_17.2.2.2.2.2.1, w_17.2.2.2.2.2.2)
    else
    f_X4_houseToRaise_17 n0 (v3_17 + (1 : Int32)) p_67 v3_17 (w_17.1, w_17.2.1, p_60, w_17.2.2.2.1, w_17.2.2.2.2.1, w_17.2.2.2.2.2.1, w_17.2.2.2.2.2.2)
    else none
    else none
def f_X4_houseToRaise (w : TW) : Option (Int32 × TW) :=
  Option.bind (f_X4_begin w) fun p_1 =>
    Option.bind (f_X4_hangers p_1) fun p_8 =>
    Option.bind (f_J6_bitCount_0f7a4 p_8) fun p_11 =>
    f_X4_houseToRaise_17 200 (0 : Int32) p_11 (-9 : Int32) p_1
abbrev rmX4_houseToRaise : Room := { frames := 4, cells := 0, slots := 0, locals := 105 }
set_option maxRecDepth 100000 in
set_option maxHeartbeats 4000000 in
theorem c_X4_houseToRaise (l : Launch) (G : EnT) (q : Nat → Nat) (w : TW) (o : Int32 × TW) (h : f_X4_houseToRaise w = some o) : Mi l yX4_houseToRaise rmX4_houseToRaise cX4_houseToRaise 5 (some .int) G false [.ref (q 0)] (cTW G q w) o.1 (cTW G q o.2) := by
  refine Mi_of (by decide) (Nat.le_of_ble_eq_true rfl) ?_
  intro p e s m below meth c A0 F hr hW ls hl
  obtain ⟨hx, hb, hml, hown, hts, hK, hNW, hlocks, hA, hSX⟩ := id F
  have hl : lv_has ls 5 [(0, .ref (q 0))] := hl
  have hW : Wd G A0 s (cTW G q w) s.heap [] := hW
  show W p l e rmX4_houseToRaise s m ([.ref (q 0)] : List Value).toArray below meth c s.heap [] 0 0 (Qi below G (cTW G q o.2) o.1 A0 ([.ref (q 0)] : List Value).toArray s) (F0 m 0 ls [])
  refine lv_aload_n hx hb dX4_houseToRaise_0 rfl (lv_at hl 0 rfl) ?_
  obtain ⟨p_1, hc_1, h⟩ := of_bind h
  refine x_Vv (av := [.ref (q 0)]) (As := []) F hW (c_X4_begin l G q w _ hc_1) [0, 1, 2, 3, 4, 5, 6, 7, 8, 9, 10, 11, 12, 13, 14, 15, 16, 17, 18, 19, 20, 21] rfl rfl (by intro q; cases q) cv_X4_71 rfl ⟨_, rfl, rfl⟩ rfl rfl rfl hl (Nat.le_of_ble_eq_true rfl) ⟨Nat.le_of_ble_eq_true rfl, Nat.le_of_ble_eq_true rfl⟩ ⟨rfl, rfl⟩ ⟨Nat.le_of_ble_eq_true rfl, Nat.le_of_ble_eq_true rfl⟩ dX4_houseToRaise_1 rfl [some 0, some 1, some 2, some 3, some 4, some 5, some 6, some 7, some 8, some 9, some 10, some 11, some 12, some 13, some 14, some 15, some 16, some 17, some 18, some 19, some 20, some 21] rfl (ws' := cTW G q p_1) rfl (fun H locs hW => ?_)
  refine lv_bipush (v := (-9 : Int32)) hx hb dX4_houseToRaise_4 (by decide) ?_
  refine lv_istore_n (lv' := [(1, .int (-9 : Int32)), (0, .ref (q 0))]) hx hb dX4_houseToRaise_6 rfl hl (by decide) rfl (fun ls hl => ?_)
  refine lv_aload_n hx hb dX4_houseToRaise_7 rfl (lv_at hl 1 rfl) ?_
  obtain ⟨p_8, hc_8, h⟩ := of_bind h
  refine x_Vi (av := [.ref (q 0)]) (As := []) F hW (c_X4_hangers l G q p_1 _ hc_8) [0, 1, 2, 3, 4, 5, 6, 7, 8, 9, 10, 11, 12, 13, 14, 15, 16, 17, 18, 19, 20, 21] rfl rfl (by intro q; cases q) cv_X4_74 rfl ⟨_, rfl, rfl⟩ rfl rfl rfl hl (Nat.le_of_ble_eq_true rfl) ⟨Nat.le_of_ble_eq_true rfl, Nat.le_of_ble_eq_true rfl⟩ ⟨rfl, rfl⟩ ⟨Nat.le_of_ble_eq_true rfl, Nat.le_of_ble_eq_true rfl⟩ dX4_houseToRaise_8 rfl [some 0, some 1, some 2, some 3, some 4, some 5, some 6, some 7, some 8, some 9, some 10, some 11, some 12, some 13, some 14, some 15, some 16, some 17, some 18, some 19, some 20, some 21] rfl (ws' := cTW G q p_1) rfl (fun H locs hW => ?_)
  obtain ⟨p_11, hc_11, h⟩ := of_bind h
  refine x_Si (av := [.int p_8]) F hW (c_J6_bitCount_0f7a4 l G p_8 _ hc_11) [] rfl rfl (by intro q; cases q) cs_X4_59 rfl rfl hl (Nat.le_of_ble_eq_true rfl) ⟨Nat.le_of_ble_eq_true rfl, Nat.le_of_ble_eq_true rfl⟩ ⟨rfl, rfl⟩ ⟨Nat.le_of_ble_eq_true rfl, Nat.le_of_ble_eq_true rfl⟩ dX4_houseToRaise_11 rfl [none, none, none, none, none, none, none, none, none, none, none, none, none, none, none, none, none, none, none, none, none, none] rfl (ws' := cTW G q p_1) rfl (fun H locs hW => ?_)
  refine lv_istore_n (lv' := [(2, .int p_11), (1, .int (-9 : Int32)), (0, .ref (q 0))]) hx hb dX4_houseToRaise_14 rfl hl (by decide) rfl (fun ls hl => ?_)
  refine lv_iconst (v := (0 : Int32)) hx hb dX4_houseToRaise_15 (by decide) ?_
  refine lv_istore_n (lv' := [(3, .int (0 : Int32)), (2, .int p_11), (1, .int (-9 : Int32)), (0, .ref (q 0))]) hx hb dX4_houseToRaise_16 rfl hl (by decide) rfl (fun ls hl => ?_)
  have L0 : ∀ (n0 : Nat) (v3_17 : Int32) (v2_17 : Int32) (v1_17 : Int32) (w_17 : TW) (H : Heap) (locs : List Loc) (ls : Array Slot), f_X4_houseToRaise_17 n0 v3_17 v2_17 v1_17 w_17 = some o → Wd G A0 s (cTW G q w_17) H locs → lv_has ls 5 [(3, .int v3_17), (2, .int v2_17), (1, .int v1_17), (0, .ref (q 0))] → W p l e rmX4_houseToRaise s m ([.ref (q 0)] : List Value).toArray below meth c H locs 0 0 (Qi below G (cTW G q o.2) o.1 A0 ([.ref (q 0)] : List Value).toArray s) (F0 m 17 ls []) := by
    intro n0
    induction n0 with
    | zero => intro v3_17 v2_17 v1_17 w_17 H locs ls h; cases (show (none : Option (Int32 × TW)) = some o from h)
    | succ n0 ih0 =>
      intro v3_17 v2_17 v1_17 w_17 H locs ls h hW hl
      refine lv_iload_n hx hb dX4_houseToRaise_17 rfl (lv_at hl 0 rfl) ?_
      refine lv_aload_n hx hb dX4_houseToRaise_18 rfl (lv_at hl 3 rfl) ?_
      refine x_get F hW 0 rfl fa_X4_18 rfl dX4_houseToRaise_19 ?_
      refine x_get F hW 7 rfl fa_X4_114 rfl dX4_houseToRaise_22 ?_
      obtain ⟨ht_25, hf_25⟩ := of_ite h
      refine lv_icmp_ge (tgt := 89) hx hb dX4_houseToRaise_25 (by decide) (fun c_25 => ?_) (fun c_25 => ?_)
      · have h := ht_25 c_25
        refine lv_iload_n hx hb dX4_houseToRaise_89 rfl (lv_at hl 2 rfl) ?_
        obtain rfl := Option.some.inj h
        exact x_reti F hr hW rfl dX4_houseToRaise_90
      · have h := hf_25 c_25
        refine lv_aload_n hx hb dX4_houseToRaise_28 rfl (lv_at hl 3 rfl) ?_
        refine x_get F hW 0 rfl fa_X4_24 rfl dX4_houseToRaise_29 ?_
        refine lv_aload_n hx hb dX4_houseToRaise_32 rfl (lv_at hl 3 rfl) ?_
        refine x_get F hW 0 rfl fa_X4_18 rfl dX4_houseToRaise_33 ?_
        obtain ⟨p_36, hc_36, h⟩ := of_bind h
        refine x_Vv (av := [.ref (q 13), .ref (q 7)]) (As := [.ref (q 7)]) F hW (c_X3_measure l G (fun i => q (i + 13)) w_17.2.2.1 (fun i => q (i + 7)) w_17.2.1 _ hc_36) [13, 14, 15, 7, 8, 9, 10, 11, 12] rfl rfl (by intro q; cases q) cv_X4_45 rfl ⟨_, rfl, rfl⟩ rfl rfl rfl hl (Nat.le_of_ble_eq_true rfl) ⟨Nat.le_of_ble_eq_true rfl, Nat.le_of_ble_eq_true rfl⟩ ⟨rfl, rfl⟩ ⟨Nat.le_of_ble_eq_true rfl, Nat.le_of_ble_eq_true rfl⟩ dX4_houseToRaise_36 rfl [none, none, none, none, none, none, none, some 3, some 4, some 5, some 6, some 7, some 8, some 0, some 1, some 2, none, none, none, none, none, none] rfl (ws' := cTW G q (w_17.1, w_17.2.1, p_36, w_17.2.2.2.1, w_17.2.2.2.2.1, w_17.2.2.2.2.2.1, w_17.2.2.2.2.2.2)) rfl (fun H locs hW => ?_)
        refine lv_aload_n hx hb dX4_houseToRaise_39 rfl (lv_at hl 3 rfl) ?_
        refine x_get F hW 0 rfl fa_X4_24 rfl dX4_houseToRaise_40 ?_
        refine x_get F hW 13 rfl fa_X4_100 rfl dX4_houseToRaise_43 ?_
        refine lv_iload_n hx hb dX4_houseToRaise_46 rfl (lv_at hl 0 rfl) ?_
        refine lv_dup2_11 hx hb dX4_houseToRaise_47 rfl rfl ?_
        obtain ⟨g_48, h⟩ := of_guard h
        refine x_iald F hW 14 rfl g_48 dX4_houseToRaise_48 ?_
        refine lv_iconst (v := (3 : Int32)) hx hb dX4_houseToRaise_49 (by decide) ?_
        refine lv_iadd hx hb dX4_houseToRaise_50 ?_
        obtain ⟨g_51, h⟩ := of_guard h
        refine x_iast F hW 14 rfl g_51 (ws' := cTW G q (w_17.1, w_17.2.1, ((upd p_36.1 v3_17.toNatClampNeg ((p_36.1 v3_17.toNatClampNeg) + (3 : Int32))), p_36.2.1, p_36.2.2.1, p_36.2.2.2), w_17.2.2.2.1, w_17.2.2.2.2.1, w_17.2.2.2.2.2.1, w_17.2.2.2.2.2.2)) rfl dX4_houseToRaise_51 (fun H locs hW => ?_)
        refine lv_aload_n hx hb dX4_houseToRaise_52 rfl (lv_at hl 3 rfl) ?_
        refine x_get F hW 0 rfl fa_X4_24 rfl dX4_houseToRaise_53 ?_
        refine lv_aload_n hx hb dX4_houseToRaise_56 rfl (lv_at hl 3 rfl) ?_
        refine x_get F hW 0 rfl fa_X4_18 rfl dX4_houseToRaise_57 ?_
        obtain ⟨p_60, hc_60, h⟩ := of_bind h
        refine x_Vv (av := [.ref (q 13), .ref (q 7)]) (As := [.ref (q 7)]) F hW (c_X3_look l G (fun i => q (i + 13)) ((upd p_36.1 v3_17.toNatClampNeg ((p_36.1 v3_17.toNatClampNeg) + (3 : Int32))), p_36.2.1, p_36.2.2.1, p_36.2.2.2) (fun i => q (i + 7)) w_17.2.1 _ hc_60) [13, 14, 15, 7, 8, 9, 10, 11, 12] rfl rfl (by intro q; cases q) cv_X4_48 rfl ⟨_, rfl, rfl⟩ rfl rfl rfl hl (Nat.le_of_ble_eq_true rfl) ⟨Nat.le_of_ble_eq_true rfl, Nat.le_of_ble_eq_true rfl⟩ ⟨rfl, rfl⟩ ⟨Nat.le_of_ble_eq_true rfl, Nat.le_of_ble_eq_true rfl⟩ dX4_houseToRaise_60 rfl [none, none, none, none, none, none, none, some 3, some 4, some 5, some 6, some 7, some 8, some 0, some 1, some 2, none, none, none, none, none, none] rfl (ws' := cTW G q (w_17.1, w_17.2.1, p_60, w_17.2.2.2.1, w_17.2.2.2.2.1, w_17.2.2.2.2.2.1, w_17.2.2.2.2.2.2)) rfl (fun H locs hW => ?_)
        refine lv_aload_n hx hb dX4_houseToRaise_63 rfl (lv_at hl 3 rfl) ?_
        obtain ⟨p_64, hc_64, h⟩ := of_bind h
        refine x_Vi (av := [.ref (q 0)]) (As := []) F hW (c_X4_hangers l G q (w_17.1, w_17.2.1, p_60, w_17.2.2.2.1, w_17.2.2.2.2.1, w_17.2.2.2.2.2.1, w_17.2.2.2.2.2.2) _ hc_64) [0, 1, 2, 3, 4, 5, 6, 7, 8, 9, 10, 11, 12, 13, 14, 15, 16, 17, 18, 19, 20, 21] rfl rfl (by intro q; cases q) cv_X4_74 rfl ⟨_, rfl, rfl⟩ rfl rfl rfl hl (Nat.le_of_ble_eq_true rfl) ⟨Nat.le_of_ble_eq_true rfl, Nat.le_of_ble_eq_true rfl⟩ ⟨rfl, rfl⟩ ⟨Nat.le_of_ble_eq_true rfl, Nat.le_of_ble_eq_true rfl⟩ dX4_houseToRaise_64 rfl [some 0, some 1, some 2, some 3, some 4, some 5, some 6, some 7, some 8, some 9, some 10, some 11, some 12, some 13, some 14, some 15, some 16, some 17, some 18, some 19, some 20, some 21] rfl (ws' := cTW G q (w_17.1, w_17.2.1, p_60, w_17.2.2.2.1, w_17.2.2.2.2.1, w_17.2.2.2.2.2.1, w_17.2.2.2.2.2.2)) rfl (fun H locs hW => ?_)
        obtain ⟨p_67, hc_67, h⟩ := of_bind h
        refine x_Si (av := [.int p_64]) F hW (c_J6_bitCount_0f7a4 l G p_64 _ hc_67) [] rfl rfl (by intro q; cases q) cs_X4_59 rfl rfl hl (Nat.le_of_ble_eq_true rfl) ⟨Nat.le_of_ble_eq_true rfl, Nat.le_of_ble_eq_true rfl⟩ ⟨rfl, rfl⟩ ⟨Nat.le_of_ble_eq_true rfl, Nat.le_of_ble_eq_true rfl⟩ dX4_houseToRaise_67 rfl [none, none, none, none, none, none, none, none, none, none, none, none, none, none, none, none, none, none, none, none, none, none] rfl (ws' := cTW G q (w_17.1, w_17.2.1, p_60, w_17.2.2.2.1, w_17.2.2.2.2.1, w_17.2.2.2.2.2.1, w_17.2.2.2.2.2.2)) rfl (fun H locs hW => ?_)
        refine lv_istore (lv' := [(4, .int p_67), (3, .int v3_17), (2, .int v2_17), (1, .int v1_17), (0, .ref (q 0))]) hx hb dX4_houseToRaise_70 hl (by decide) rfl (fun ls hl => ?_)
        refine lv_iload hx hb dX4_houseToRaise_72 (lv_at hl 0 rfl) ?_
        refine lv_iload_n hx hb dX4_houseToRaise_74 rfl (lv_at hl 2 rfl) ?_
        obtain ⟨ht_75, hf_75⟩ := of_ite h
        refine lv_icmp_le (tgt := 83) hx hb dX4_houseToRaise_75 (by decide) (fun c_75 => ?_) (fun c_75 => ?_)
        · have h := ht_75 c_75
          refine lv_iinc (v := (v3_17 + (1 : Int32))) (lv' := [(3, .int (v3_17 + (1 : Int32))), (4, .int p_67), (2, .int v2_17), (1, .int v1_17), (0, .ref (q 0))]) hx hb dX4_houseToRaise_83 hl (k := 1) rfl rfl (by decide) rfl (fun ls hl => ?_)
          refine lv_goto (tgt := 17) hx hb dX4_houseToRaise_86 (by decide) ?_
          exact ih0 (v3_17 + (1 : Int32)) v2_17 v1_17 (w_17.1, w_17.2.1, p_60, w_17.2.2.2.1, w_17.2.2.2.2.1, w_17.2.2.2.2.2.1, w_17.2.2.2.2.2.2) _ _ _ h hW (lv_sub hl [0, 2, 3, 4] rfl)
        · have h := hf_75 c_75
          refine lv_iload_n hx hb dX4_houseToRaise_78 rfl (lv_at hl 1 rfl) ?_
          refine lv_istore_n (lv' := [(1, .int v3_17), (4, .int p_67), (3, .int v3_17), (2, .int v2_17), (0, .ref (q 0))]) hx hb dX4_houseToRaise_79 rfl hl (by decide) rfl (fun ls hl => ?_)
          refine lv_iload hx hb dX4_houseToRaise_80 (lv_at hl 1 rfl) ?_
          refine lv_istore_n (lv' := [(2, .int p_67), (1, .int v3_17), (4, .int p_67), (3, .int v3_17), (0, .ref (q 0))]) hx hb dX4_houseToRaise_82 rfl hl (by decide) rfl (fun ls hl => ?_)
          refine lv_iinc (v := (v3_17 + (1 : Int32))) (lv' := [(3, .int (v3_17 + (1 : Int32))), (2, .int p_67), (1, .int v3_17), (4, .int p_67), (0, .ref (q 0))]) hx hb dX4_houseToRaise_83 hl (k := 3) rfl rfl (by decide) rfl (fun ls hl => ?_)
          refine lv_goto (tgt := 17) hx hb dX4_houseToRaise_86 (by decide) ?_
          exact ih0 (v3_17 + (1 : Int32)) p_67 v3_17 (w_17.1, w_17.2.1, p_60, w_17.2.2.2.1, w_17.2.2.2.2.1, w_17.2.2.2.2.2.1, w_17.2.2.2.2.2.2) _ _ _ h hW (lv_sub hl [0, 1, 2, 4] rfl)
  exact L0 200 (0 : Int32) p_11 (-9 : Int32) p_1 _ _ _ h hW (lv_sub hl [0, 1, 2, 3] rfl)
def f_X4_togetherIfCalled (w : TW) (x1 : Int32) (x2 : Int32) : Option (Int32 × TW) :=
  Option.bind (f_X1_become w.2.1 w.1) fun p_8 =>
    Option.bind (f_X4_hangTogether (w.1, (p_8.1, p_8.2.1, p_8.2.2.1, p_8.2.2.2.1, p_8.2.2.2.2.1, p_8.2.2.2.2.2.1, x1, p_8.2.2.2.2.2.2.2.1, p_8.2.2.2.2.2.2.2.2), w.2.2.1, w.2.2.2.1, w.2.2.2.2.1, w.2.2.2.2.2.1, w.2.2.2.2.2.2) x2) fun p_21 =>
    some (p_21.1, p_21.2)
abbrev rmX4_togetherIfCalled : Room := { frames := 4, cells := 0, slots := 0, locals := 92 }
set_option maxRecDepth 100000 in
set_option maxHeartbeats 4000000 in
theorem c_X4_togetherIfCalled (l : Launch) (G : EnT) (q : Nat → Nat) (w : TW) (x1 : Int32) (x2 : Int32) (o : Int32 × TW) (h : f_X4_togetherIfCalled w x1 x2 = some o) : Mi l yX4_togetherIfCalled rmX4_togetherIfCalled cX4_togetherIfCalled 3 (some .int) G false [.ref (q 0), .int x1, .int x2] (cTW G q w) o.1 (cTW G q o.2) := by
  refine Mi_of (by decide) (Nat.le_of_ble_eq_true rfl) ?_
  intro p e s m below meth c A0 F hr hW ls hl
  obtain ⟨hx, hb, hml, hown, hts, hK, hNW, hlocks, hA, hSX⟩ := id F
  have hl : lv_has ls 3 [(0, .ref (q 0)), (1, .int x1), (2, .int x2)] := hl
  have hW : Wd G A0 s (cTW G q w) s.heap [] := hW
  show W p l e rmX4_togetherIfCalled s m ([.ref (q 0), .int x1, .int x2] : List Value).toArray below meth c s.heap [] 0 0 (Qi below G (cTW G q o.2) o.1 A0 ([.ref (q 0), .int x1, .int x2] : List Value).toArray s) (F0 m 0 ls [])
  refine lv_aload_n hx hb dX4_togetherIfCalled_0 rfl (lv_at hl 0 rfl) ?_
  refine x_get F hW 0 rfl fa_X4_18 rfl dX4_togetherIfCalled_1 ?_
  refine lv_aload_n hx hb dX4_togetherIfCalled_4 rfl (lv_at hl 0 rfl) ?_
  refine x_get F hW 0 rfl fa_X4_12 rfl dX4_togetherIfCalled_5 ?_
  obtain ⟨p_8, hc_8, h⟩ := of_bind h
  refine x_Vv (av := [.ref (q 7), .ref (q 1)]) (As := [.ref (q 1)]) F hW (c_X1_become l G (fun i => q (i + 7)) w.2.1 (fun i => q (i + 1)) w.1 _ hc_8) [7, 8, 9, 10, 11, 12, 1, 2, 3, 4, 5, 6] rfl rfl (by intro q; cases q) cv_X4_41 rfl ⟨_, rfl, rfl⟩ rfl rfl rfl hl (Nat.le_of_ble_eq_true rfl) ⟨Nat.le_of_ble_eq_true rfl, Nat.le_of_ble_eq_true rfl⟩ ⟨rfl, rfl⟩ ⟨Nat.le_of_ble_eq_true rfl, Nat.le_of_ble_eq_true rfl⟩ dX4_togetherIfCalled_8 rfl [none, some 6, some 7, some 8, some 9, some 10, some 11, some 0, some 1, some 2, some 3, some 4, some 5, none, none, none, none, none, none, none, none, none] rfl (ws' := cTW G q (w.1, p_8, w.2.2.1, w.2.2.2.1, w.2.2.2.2.1, w.2.2.2.2.2.1, w.2.2.2.2.2.2)) rfl (fun H locs hW => ?_)
  refine lv_aload_n hx hb dX4_togetherIfCalled_11 rfl (lv_at hl 0 rfl) ?_
  refine x_get F hW 0 rfl fa_X4_18 rfl dX4_togetherIfCalled_12 ?_
  refine lv_iload_n hx hb dX4_togetherIfCalled_15 rfl (lv_at hl 1 rfl) ?_
  refine x_put F hW 7 rfl fp_X4_140 rfl rfl (Nat.le_of_ble_eq_true rfl) (ws' := cTW G q (w.1, (p_8.1, p_8.2.1, p_8.2.2.1, p_8.2.2.2.1, p_8.2.2.2.2.1, p_8.2.2.2.2.2.1, x1, p_8.2.2.2.2.2.2.2.1, p_8.2.2.2.2.2.2.2.2), w.2.2.1, w.2.2.2.1, w.2.2.2.2.1, w.2.2.2.2.2.1, w.2.2.2.2.2.2)) rfl dX4_togetherIfCalled_16 (fun H locs hW => ?_)
  refine lv_aload_n hx hb dX4_togetherIfCalled_19 rfl (lv_at hl 0 rfl) ?_
  refine lv_iload_n hx hb dX4_togetherIfCalled_20 rfl (lv_at hl 2 rfl) ?_
  obtain ⟨p_21, hc_21, h⟩ := of_bind h
  refine x_Vi (av := [.ref (q 0), .int x2]) (As := [.int x2]) F hW (c_X4_hangTogether l G q (w.1, (p_8.1, p_8.2.1, p_8.2.2.1, p_8.2.2.2.1, p_8.2.2.2.2.1, p_8.2.2.2.2.2.1, x1, p_8.2.2.2.2.2.2.2.1, p_8.2.2.2.2.2.2.2.2), w.2.2.1, w.2.2.2.1, w.2.2.2.2.1, w.2.2.2.2.2.1, w.2.2.2.2.2.2) x2 _ hc_21) [0, 1, 2, 3, 4, 5, 6, 7, 8, 9, 10, 11, 12, 13, 14, 15, 16, 17, 18, 19, 20, 21] rfl rfl (by intro q; cases q) cv_X4_143 rfl ⟨_, rfl, rfl⟩ rfl rfl rfl hl (Nat.le_of_ble_eq_true rfl) ⟨Nat.le_of_ble_eq_true rfl, Nat.le_of_ble_eq_true rfl⟩ ⟨rfl, rfl⟩ ⟨Nat.le_of_ble_eq_true rfl, Nat.le_of_ble_eq_true rfl⟩ dX4_togetherIfCalled_21 rfl [some 0, some 1, some 2, some 3, some 4, some 5, some 6, some 7, some 8, some 9, some 10, some 11, some 12, some 13, some 14, some 15, some 16, some 17, some 18, some 19, some 20, some 21] rfl (ws' := cTW G q p_21.2) rfl (fun H locs hW => ?_)
  obtain rfl := Option.some.inj h
  exact x_reti F hr hW rfl dX4_togetherIfCalled_24
