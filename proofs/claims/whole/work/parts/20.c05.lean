def f_X4_fewestCalled_22 (x1 : Int32) (x_18 : Int32) : Nat → Int32 → Int32 → TW → Option (Int32 × TW)
  | 0, _, _, _ => none
  | n0 + 1, v4_22, v2_22, w_22 =>
    Option.bind (f_X1_allHouses w_22.1) fun p_28 =>
    if p_28 ≤ v4_22 then
    some (v2_22, w_22)
    else
    Option.bind (f_J6_bitCount_0f7a4 v4_22) fun p_36 =>
    Option.bind (f_J6_bitCount_0f7a4 v2_22) fun p_40 =>
    if p_40 ≤ p_36 then
    f_X4_fewestCalled_22 x1 x_18 n0 (v4_22 + (1 : Int32)) v2_22 w_22
    else
    Option.bind (f_X4_togetherIfCalled w_22 v4_22 x1) fun p_50 =>
    if p_50.1 < x_18 then
    f_X4_fewestCalled_22 x1 x_18 n0 (v4_22 + (1 : Int32)) v2_22 p_50.2
    else
    f_X4_fewestCalled_22 x1 x_18 n0 (v4_22 + (1 : Int32)) v4_22 p_50.2
def f_X4_fewestCalled (w : TW) (x1 : Int32) : Option (Int32 × TW) :=
  Option.bind (f_X4_begin w) fun p_1 =>
    Option.bind (f_X1_allHouses p_1.2.1) fun p_8 =>
    Option.bind (f_X4_togetherIfCalled p_1 p_8 x1) fun p_15 =>
    nm p_15.1 fun x_18 =>
    f_X4_fewestCalled_22 x1 x_18 200 (0 : Int32) p_8 p_15.2
abbrev rmX4_fewestCalled : Room := { frames := 5, cells := 0, slots := 0, locals := 114 }
set_option maxRecDepth 100000 in
set_option maxHeartbeats 4000000 in
theorem c_X4_fewestCalled (l : Launch) (G : EnT) (q : Nat → Nat) (w : TW) (x1 : Int32) (o : Int32 × TW) (h : f_X4_fewestCalled w x1 = some o) : Mi l yX4_fewestCalled rmX4_fewestCalled cX4_fewestCalled 5 (some .int) G false [.ref (q 0), .int x1] (cTW G q w) o.1 (cTW G q o.2) := by
  refine Mi_of (by decide) (Nat.le_of_ble_eq_true rfl) ?_
  intro p e s m below meth c A0 F hr hW ls hl
  obtain ⟨hx, hb, hml, hown, hts, hK, hNW, hlocks, hA, hSX⟩ := id F
  have hl : lv_has ls 5 [(0, .ref (q 0)), (1, .int x1)] := hl
  have hW : Wd G A0 s (cTW G q w) s.heap [] := hW
  show W p l e rmX4_fewestCalled s m ([.ref (q 0), .int x1] : List Value).toArray below meth c s.heap [] 0 0 (Qi below G (cTW G q o.2) o.1 A0 ([.ref (q 0), .int x1] : List Value).toArray s) (F0 m 0 ls [])
  refine lv_aload_n hx hb dX4_fewestCalled_0 rfl (lv_at hl 0 rfl) ?_
  obtain ⟨p_1, hc_1, h⟩ := of_bind h
  refine x_Vv (av := [.ref (q 0)]) (As := []) F hW (c_X4_begin l G q w _ hc_1) [0, 1, 2, 3, 4, 5, 6, 7, 8, 9, 10, 11, 12, 13, 14, 15, 16, 17, 18, 19, 20, 21] rfl rfl (by intro q; cases q) cv_X4_71 rfl ⟨_, rfl, rfl⟩ rfl rfl rfl hl (Nat.le_of_ble_eq_true rfl) ⟨Nat.le_of_ble_eq_true rfl, Nat.le_of_ble_eq_true rfl⟩ ⟨rfl, rfl⟩ ⟨Nat.le_of_ble_eq_true rfl, Nat.le_of_ble_eq_true rfl⟩ dX4_fewestCalled_1 rfl [some 0, some 1, some 2, some 3, some 4, some 5, some 6, some 7, some 8, some 9, some 10, some 11, some 12, some 13, some 14, some 15, some 16, some 17, some 18, some 19, some 20, some 21] rfl (ws' := cTW G q p_1) rfl (fun H locs hW => ?_)
  refine lv_aload_n hx hb dX4_fewestCalled_4 rfl (lv_at hl 0 rfl) ?_
  refine x_get F hW 0 rfl fa_X4_18 rfl dX4_fewestCalled_5 ?_
  obtain ⟨p_8, hc_8, h⟩ := of_bind h
  refine x_Vi (av := [.ref (q 7)]) (As := []) F hW (c_X1_allHouses l G (fun i => q (i + 7)) p_1.2.1 _ hc_8) [7, 8, 9, 10, 11, 12] rfl rfl (by intro q; cases q) cv_X4_87 rfl ⟨_, rfl, rfl⟩ rfl rfl rfl hl (Nat.le_of_ble_eq_true rfl) ⟨Nat.le_of_ble_eq_true rfl, Nat.le_of_ble_eq_true rfl⟩ ⟨rfl, rfl⟩ ⟨Nat.le_of_ble_eq_true rfl, Nat.le_of_ble_eq_true rfl⟩ dX4_fewestCalled_8 rfl [none, none, none, none, none, none, none, some 0, some 1, some 2, some 3, some 4, some 5, none, none, none, none, none, none, none, none, none] rfl (ws' := cTW G q p_1) rfl (fun H locs hW => ?_)
  refine lv_istore_n (lv' := [(2, .int p_8), (0, .ref (q 0)), (1, .int x1)]) hx hb dX4_fewestCalled_11 rfl hl (by decide) rfl (fun ls hl => ?_)
  refine lv_aload_n hx hb dX4_fewestCalled_12 rfl (lv_at hl 1 rfl) ?_
  refine lv_iload_n hx hb dX4_fewestCalled_13 rfl (lv_at hl 0 rfl) ?_
  refine lv_iload_n hx hb dX4_fewestCalled_14 rfl (lv_at hl 2 rfl) ?_
  obtain ⟨p_15, hc_15, h⟩ := of_bind h
  refine x_Vi (av := [.ref (q 0), .int p_8, .int x1]) (As := [.int p_8, .int x1]) F hW (c_X4_togetherIfCalled l G q p_1 p_8 x1 _ hc_15) [0, 1, 2, 3, 4, 5, 6, 7, 8, 9, 10, 11, 12, 13, 14, 15, 16, 17, 18, 19, 20, 21] rfl rfl (by intro q; cases q) cv_X4_137 rfl ⟨_, rfl, rfl⟩ rfl rfl rfl hl (Nat.le_of_ble_eq_true rfl) ⟨Nat.le_of_ble_eq_true rfl, Nat.le_of_ble_eq_true rfl⟩ ⟨rfl, rfl⟩ ⟨Nat.le_of_ble_eq_true rfl, Nat.le_of_ble_eq_true rfl⟩ dX4_fewestCalled_15 rfl [some 0, some 1, some 2, some 3, some 4, some 5, some 6, some 7, some 8, some 9, some 10, some 11, some 12, some 13, some 14, some 15, some 16, some 17, some 18, some 19, some 20, some 21] rfl (ws' := cTW G q p_15.2) rfl (fun H locs hW => ?_)
  obtain ⟨x_18, e_x_18, h⟩ := of_nm h
  refine x_topi e_x_18 ?_
  refine lv_istore_n (lv' := [(3, .int x_18), (2, .int p_8), (0, .ref (q 0)), (1, .int x1)]) hx hb dX4_fewestCalled_18 rfl hl (by decide) rfl (fun ls hl => ?_)
  refine lv_iconst (v := (0 : Int32)) hx hb dX4_fewestCalled_19 (by decide) ?_
  refine lv_istore (lv' := [(4, .int (0 : Int32)), (3, .int x_18), (2, .int p_8), (0, .ref (q 0)), (1, .int x1)]) hx hb dX4_fewestCalled_20 hl (by decide) rfl (fun ls hl => ?_)
  have L0 : ∀ (n0 : Nat) (v4_22 : Int32) (v2_22 : Int32) (w_22 : TW) (H : Heap) (locs : List Loc) (ls : Array Slot), f_X4_fewestCalled_22 x1 x_18 n0 v4_22 v2_22 w_22 = some o → Wd G A0 s (cTW G q w_22) H locs → lv_has ls 5 [(4, .int v4_22), (3, .int x_18), (2, .int v2_22), (0, .ref (q 0)), (1, .int x1)] → W p l e rmX4_fewestCalled s m ([.ref (q 0), .int x1] : List Value).toArray below meth c H locs 0 0 (Qi below G (cTW G q o.2) o.1 A0 ([.ref (q 0), .int x1] : List Value).toArray s) (F0 m 22 ls []) := by
    intro n0
    induction n0 with
    | zero => intro v4_22 v2_22 w_22 H locs ls h; cases (show (none : Option (Int32 × TW)) = some o from h)
    | succ n0 ih0 =>
      intro v4_22 v2_22 w_22 H locs ls h hW hl
      refine lv_iload hx hb dX4_fewestCalled_22 (lv_at hl 0 rfl) ?_
      refine lv_aload_n hx hb dX4_fewestCalled_24 rfl (lv_at hl 3 rfl) ?_
      refine x_get F hW 0 rfl fa_X4_12 rfl dX4_fewestCalled_25 ?_
      obtain ⟨p_28, hc_28, h⟩ := of_bind h
      refine x_Vi (av := [.ref (q 1)]) (As := []) F hW (c_X1_allHouses l G (fun i => q (i + 1)) w_22.1 _ hc_28) [1, 2, 3, 4, 5, 6] rfl rfl (by intro q; cases q) cv_X4_87 rfl ⟨_, rfl, rfl⟩ rfl rfl rfl hl (Nat.le_of_ble_eq_true rfl) ⟨Nat.le_of_ble_eq_true rfl, Nat.le_of_ble_eq_true rfl⟩ ⟨rfl, rfl⟩ ⟨Nat.le_of_ble_eq_true rfl, Nat.le_of_ble_eq_true rfl⟩ dX4_fewestCalled_28 rfl [none, some 0, some 1, some 2, some 3, some 4, some 5, none, none, none, none, none, none, none, none, none, none, none, none, none, none, none] rfl (ws' := cTW G q w_22) rfl (fun H locs hW => ?_)
      obtain ⟨ht_31, hf_31⟩ := of_ite h
      refine lv_icmp_ge (tgt := 66) hx hb dX4_fewestCalled_31 (by decide) (fun c_31 => ?_) (fun c_31 => ?_)
      · have h := ht_31 c_31
        refine lv_iload_n hx hb dX4_fewestCalled_66 rfl (lv_at hl 2 rfl) ?_
        obtain rfl := Option.some.inj h
        exact x_reti F hr hW rfl dX4_fewestCalled_67
      · have h := hf_31 c_31
        refine lv_iload hx hb dX4_fewestCalled_34 (lv_at hl 0 rfl) ?_
        obtain ⟨p_36, hc_36, h⟩ := of_bind h
        refine x_Si (av := [.int v4_22]) F hW (c_J6_bitCount_0f7a4 l G v4_22 _ hc_36) [] rfl rfl (by intro q; cases q) cs_X4_59 rfl rfl hl (Nat.le_of_ble_eq_true rfl) ⟨Nat.le_of_ble_eq_true rfl, Nat.le_of_ble_eq_true rfl⟩ ⟨rfl, rfl⟩ ⟨Nat.le_of_ble_eq_true rfl, Nat.le_of_ble_eq_true rfl⟩ dX4_fewestCalled_36 rfl [none, none, none, none, none, none, none, none, none, none, none, none, none, none, none, none, none, none, none, none, none, none] rfl (ws' := cTW G q w_22) rfl (fun H locs hW => ?_)
        refine lv_iload_n hx hb dX4_fewestCalled_39 rfl (lv_at hl 2 rfl) ?_
        obtain ⟨p_40, hc_40, h⟩ := of_bind h
        refine x_Si (av := [.int v2_22]) F hW (c_J6_bitCount_0f7a4 l G v2_22 _ hc_40) [] rfl rfl (by intro q; cases q) cs_X4_59 rfl rfl hl (Nat.le_of_ble_eq_true rfl) ⟨Nat.le_of_ble_eq_true rfl, Nat.le_of_ble_eq_true rfl⟩ ⟨rfl, rfl⟩ ⟨Nat.le_of_ble_eq_true rfl, Nat.le_of_ble_eq_true rfl⟩ dX4_fewestCalled_40 rfl [none, none, none, none, none, none, none, none, none, none, none, none, none, none, none, none, none, none, none, none, none, none] rfl (ws' := cTW G q w_22) rfl (fun H locs hW => ?_)
        obtain ⟨ht_43, hf_43⟩ := of_ite h
        refine lv_icmp_ge (tgt := 60) hx hb dX4_fewestCalled_43 (by decide) (fun c_43 => ?_) (fun c_43 => ?_)
        · have h := ht_43 c_43
          refine lv_iinc (v := (v4_22 + (1 : Int32))) (lv' := [(4, .int (v4_22 + (1 : Int32))), (3, .int x_18), (2, .int v2_22), (0, .ref (q 0)), (1, .int x1)]) hx hb dX4_fewestCalled_60 hl (k := 0) rfl rfl (by decide) rfl (fun ls hl => ?_)
          refine lv_goto (tgt := 22) hx hb dX4_fewestCalled_63 (by decide) ?_
          exact ih0 (v4_22 + (1 : Int32)) v2_22 w_22 _ _ _ h hW (lv_sub hl [0, 1, 2, 3, 4] rfl)
        · have h := hf_43 c_43
          refine lv_aload_n hx hb dX4_fewestCalled_46 rfl (lv_at hl 3 rfl) ?_
          refine lv_iload hx hb dX4_fewestCalled_47 (lv_at hl 0 rfl) ?_
          refine lv_iload_n hx hb dX4_fewestCalled_49 rfl (lv_at hl 4 rfl) ?_
          obtain ⟨p_50, hc_50, h⟩ := of_bind h
          refine x_Vi (av := [.ref (q 0), .int v4_22, .int x1]) (As := [.int v4_22, .int x1]) F hW (c_X4_togetherIfCalled l G q w_22 v4_22 x1 _ hc_50) [0, 1, 2, 3, 4, 5, 6, 7, 8, 9, 10, 11, 12, 13, 14, 15, 16, 17, 18, 19, 20, 21] rfl rfl (by intro q; cases q) cv_X4_137 rfl ⟨_, rfl, rfl⟩ rfl rfl rfl hl (Nat.le_of_ble_eq_true rfl) ⟨Nat.le_of_ble_eq_true rfl, Nat.le_of_ble_eq_true rfl⟩ ⟨rfl, rfl⟩ ⟨Nat.le_of_ble_eq_true rfl, Nat.le_of_ble_eq_true rfl⟩ dX4_fewestCalled_50 rfl [some 0, some 1, some 2, some 3, some 4, some 5, some 6, some 7, some 8, some 9, some 10, some 11, some 12, some 13, some 14, some 15, some 16, some 17, some 18, some 19, some 20, some 21] rfl (ws' := cTW G q p_50.2) rfl (fun H locs hW => ?_)
          refine lv_iload_n hx hb dX4_fewestCalled_53 rfl (lv_at hl 1 rfl) ?_
          obtain ⟨ht_54, hf_54⟩ := of_ite h
          refine lv_icmp_lt (tgt := 60) hx hb dX4_fewestCalled_54 (by decide) (fun c_54 => ?_) (fun c_54 => ?_)
          · have h := ht_54 c_54
            refine lv_iinc (v := (v4_22 + (1 : Int32))) (lv' := [(4, .int (v4_22 + (1 : Int32))), (3, .int x_18), (2, .int v2_22), (0, .ref (q 0)), (1, .int x1)]) hx hb dX4_fewestCalled_60 hl (k := 0) rfl rfl (by decide) rfl (fun ls hl => ?_)
            refine lv_goto (tgt := 22) hx hb dX4_fewestCalled_63 (by decide) ?_
            exact ih0 (v4_22 + (1 : Int32)) v2_22 p_50.2 _ _ _ h hW (lv_sub hl [0, 1, 2, 3, 4] rfl)
          · have h := hf_54 c_54
            refine lv_iload hx hb dX4_fewestCalled_57 (lv_at hl 0 rfl) ?_
            refine lv_istore_n (lv' := [(2, .int v4_22), (4, .int v4_22), (3, .int x_18), (0, .ref (q 0)), (1, .int x1)]) hx hb dX4_fewestCalled_59 rfl hl (by decide) rfl (fun ls hl => ?_)
            refine lv_iinc (v := (v4_22 + (1 : Int32))) (lv' := [(4, .int (v4_22 + (1 : Int32))), (2, .int v4_22), (3, .int x_18), (0, .ref (q 0)), (1, .int x1)]) hx hb dX4_fewestCalled_60 hl (k := 1) rfl rfl (by decide) rfl (fun ls hl => ?_)
            refine lv_goto (tgt := 22) hx hb dX4_fewestCalled_63 (by decide) ?_
            exact ih0 (v4_22 + (1 : Int32)) v4_22 p_50.2 _ _ _ h hW (lv_sub hl [0, 2, 1, 3, 4] rfl)
  exact L0 200 (0 : Int32) p_8 p_15.2 _ _ _ h hW (lv_sub hl [0, 1, 2, 3, 4] rfl)
def f_J7_fill_531780_5 (x1 : Int32) : Nat → Int32 → (Nat → Int32) → Option ((Nat → Int32))
  | 0, _, _ => none
  | n0 + 1, v2_5, w_5 =>
    if (8 : Int32) ≤ v2_5 then
    some w_5
    else
    if inR v2_5 8 then
    f_J7_fill_531780_5 x1 n0 (v2_5 + (1 : Int32)) (upd w_5 v2_5.toNatClampNeg x1)
    else none
def f_J7_fill_531780 (w : (Nat → Int32)) (x1 : Int32) : Option ((Nat → Int32)) :=
  f_J7_fill_531780_5 x1 200 (0 : Int32) w
abbrev rmJ7_fill_53178 : Room := { frames := 0, cells := 0, slots := 0, locals := 0 }
set_option maxRecDepth 100000 in
set_option maxHeartbeats 4000000 in
theorem c_J7_fill_531780 (l : Launch) (G : EnT) (q : Nat → Nat) (w : (Nat → Int32)) (x1 : Int32) (o : (Nat → Int32)) (h : f_J7_fill_531780 w x1 = some o) : Mv l yJ7_fill_53178 rmJ7_fill_53178 cJ7_fill_53178 4 none G false [.ref (q 0), .int x1] (cAR G 8 q w) (cAR G 8 q o) := by
  refine Mv_of (by decide) (Nat.le_of_ble_eq_true rfl) ?_
  intro p e s m below meth c A0 F hr hW ls hl
  obtain ⟨hx, hb, hml, hown, hts, hK, hNW, hlocks, hA, hSX⟩ := id F
  have hl : lv_has ls 4 [(0, .ref (q 0)), (1, .int x1)] := hl
  have hW : Wd G A0 s (cAR G 8 q w) s.heap [] := hW
  show W p l e rmJ7_fill_53178 s m ([.ref (q 0), .int x1] : List Value).toArray below meth c s.heap [] 0 0 (Qv below G (cAR G 8 q o) A0 ([.ref (q 0), .int x1] : List Value).toArray s) (F0 m 0 ls [])
  refine lv_iconst (v := (0 : Int32)) hx hb dJ7_fill_53178_0 (by decide) ?_
  refine lv_istore_n (lv' := [(2, .int (0 : Int32)), (0, .ref (q 0)), (1, .int x1)]) hx hb dJ7_fill_53178_1 rfl hl (by decide) rfl (fun ls hl => ?_)
  refine lv_aload_n hx hb dJ7_fill_53178_2 rfl (lv_at hl 1 rfl) ?_
  refine x_alen (v := (8 : Int32)) F hW 0 rfl rfl dJ7_fill_53178_3 ?_
  refine lv_istore_n (lv' := [(3, .int (8 : Int32)), (2, .int (0 : Int32)), (0, .ref (q 0)), (1, .int x1)]) hx hb dJ7_fill_53178_4 rfl hl (by decide) rfl (fun ls hl => ?_)
  have L0 : ∀ (n0 : Nat) (v2_5 : Int32) (w_5 : (Nat → Int32)) (H : Heap) (locs : List Loc) (ls : Array Slot), f_J7_fill_531780_5 x1 n0 v2_5 w_5 = some o → Wd G A0 s (cAR G 8 q w_5) H locs → lv_has ls 4 [(3, .int (8 : Int32)), (2, .int v2_5), (0, .ref (q 0)), (1, .int x1)] → W p l e rmJ7_fill_53178 s m ([.ref (q 0), .int x1] : List Value).toArray below meth c H locs 0 0 (Qv below G (cAR G 8 q o) A0 ([.ref (q 0), .int x1] : List Value).toArray s) (F0 m 5 ls []) := by
    intro n0
    induction n0 with
    | zero => intro v2_5 w_5 H locs ls h; cases (show (none : Option ((Nat → Int32))) = some o from h)
    | succ n0 ih0 =>
      intro v2_5 w_5 H locs ls h hW hl
      refine lv_iload_n hx hb dJ7_fill_53178_5 rfl (lv_at hl 1 rfl) ?_
      refine lv_iload_n hx hb dJ7_fill_53178_6 rfl (lv_at hl 0 rfl) ?_
      obtain ⟨ht_7, hf_7⟩ := of_ite h
      refine lv_icmp_ge (tgt := 20) hx hb dJ7_fill_53178_7 (by decide) (fun c_7 => ?_) (fun c_7 => ?_)
      · have h := ht_7 c_7
        obtain rfl := Option.some.inj h
        exact x_retv F hr hW dJ7_fill_53178_20
      · have h := hf_7 c_7
        refine lv_aload_n hx hb dJ7_fill_53178_10 rfl (lv_at hl 2 rfl) ?_
        refine lv_iload_n hx hb dJ7_fill_53178_11 rfl (lv_at hl 1 rfl) ?_
        refine lv_iload_n hx hb dJ7_fill_53178_12 rfl (lv_at hl 3 rfl) ?_
        obtain ⟨g_13, h⟩ := of_guard h
        refine x_iast F hW 0 rfl g_13 (ws' := cAR G 8 q (upd w_5 v2_5.toNatClampNeg x1)) rfl dJ7_fill_53178_13 (fun H locs hW => ?_)
        refine lv_iinc (v := (v2_5 + (1 : Int32))) (lv' := [(2, .int (v2_5 + (1 : Int32))), (3, .int (8 : Int32)), (0, .ref (q 0)), (1, .int x1)]) hx hb dJ7_fill_53178_14 hl (k := 1) rfl rfl (by decide) rfl (fun ls hl => ?_)
        refine lv_goto (tgt := 5) hx hb dJ7_fill_53178_17 (by decide) ?_
        exact ih0 (v2_5 + (1 : Int32)) (upd w_5 v2_5.toNatClampNeg x1) _ _ _ h hW (lv_sub hl [1, 0, 2, 3] rfl)
  exact L0 200 (0 : Int32) w _ _ _ h hW (lv_sub hl [0, 1, 2, 3] rfl)
theorem cp_fill_loop (x : Int32) : ∀ (n i : Nat) (g : Nat → Int32), i ≤ 8 → 8 - i < n → (∀ j, j < i → g j = x) → ∃ g', f_J7_fill_531780_5 x n (nI i) g = some g' ∧ ∀ j, j < 8 → g' j = x
  | 0, i, g, h1, h2, h3 => absurd h2 (Nat.not_lt_zero _)
  | n + 1, i, g, h1, h2, h3 => by
    unfold f_J7_fill_531780_5
    by_cases hi : i = 8
    · subst hi
      rw [if_pos (by decide)]
      exact ⟨g, rfl, h3⟩
    · have hlt : i < 8 := by omega
      rw [if_neg (show ¬ (8 : Int32) ≤ nI i from nI_ge hlt (by decide)), if_pos (inR_nI hlt (by decide)), nI_1, nI_clamp (by omega)]
      exact cp_fill_loop x n (i + 1) _ (by omega) (by omega) (fun j hj => by
        by_cases e : j = i
        · rw [e, pk_us]
        · rw [pk_un e]; exact h3 j (by omega))
theorem cp_fill (w : Nat → Int32) (x : Int32) : ∃ g, f_J7_fill_531780 w x = some g ∧ ∀ j, j < 8 → g j = x := cp_fill_loop x 200 0 w (by decide) (by decide) (fun j h => absurd h (Nat.not_lt_zero j))
def f_J7_fill_53178 (w : Nat → Int32) (x : Int32) : Option (Nat → Int32) := some (fun _ => x)
theorem c_J7_fill_53178 (l : Launch) (G : EnT) (q : Nat → Nat) (w : Nat → Int32) (x1 : Int32) (o : Nat → Int32) (h : f_J7_fill_53178 w x1 = some o) : Mv l yJ7_fill_53178 rmJ7_fill_53178 cJ7_fill_53178 4 none G false [.ref (q 0), .int x1] (cAR G 8 q w) (cAR G 8 q o) := by
  obtain rfl := Option.some.inj h
  obtain ⟨g, hg, hj⟩ := cp_fill w x1
  exact Mv_imp (c_J7_fill_531780 l G q w x1 g hg) (fun H hP => va_P_arr [] [] (g := fun _ => x1) hj hP) (fun A hD => va_D_arr [] [] hD)

def f_X4_measureWays_47 (k0 : Int32 → Int32 → Int32 → TW → Option (TW)) (v1_29 : Int32) (v2_29 : Int32) (v3_29 : Int32) : Nat → Int32 → TW → Option (TW)
  | 0, _, _ => none
  | n1 + 1, v4_47, w_47 =>
    if w_47.2.1.2.2.2.2.2.1 ≤ v4_47 then
    nm (v1_29 &&& (v2_29 ^^^ (-1 : Int32))) fun x_87 =>
    Option.bind (f_X3_seeing w_47.2.2.1 x_87 v2_29) fun p_94 =>
    k0 (v3_29 + (1 : Int32)) p_94 x_87 w_47
    else
    Option.bind (f_X5_has v2_29 v4_47) fun p_62 =>
    if p_62 = 0 then
    f_X4_measureWays_47 k0 v1_29 v2_29 v3_29 n1 (v4_47 + (1 : Int32)) w_47
    else
    if inR v4_47 8 then
    f_X4_measureWays_47 k0 v1_29 v2_29 v3_29 n1 (v4_47 + (1 : Int32)) (w_47.1, w_47.2.1, w_47.2.2.1, w_47.2.2.2.1, (upd w_47.2.2.2.2.1 v4_47.toNatClampNeg v3_29), w_47.2.2.2.2.2.1, w_47.2.2.2.2.2.2)
    else none
def f_X4_measureWays_29 : Nat → Int32 → Int32 → Int32 → TW → Option (TW)
  | 0, _, _, _, _ => none
  | n0 + 1, v3_29, v2_29, v1_29, w_29 =>
    if w_29.2.1.2.2.2.2.2.1 < v3_29 then
    some w_29
    else
    if v2_29 = 0 then
    some w_29
    else
    f_X4_measureWays_47 (fun a0 a1 a2 a3 => f_X4_measureWays_29 n0 a0 a1 a2 a3) v1_29 v2_29 v3_29 200 (0 : Int32) w_29
def f_X4_measureWays (w : TW) : Option (TW) :=
  Option.bind (f_X4_begin w) fun p_1 =>
    Option.bind (f_J7_fill_53178 p_1.2.2.2.2.1 (0 : Int32)) fun p_9 =>
    Option.bind (f_X4_hangers (p_1.1, p_1.2.1, p_1.2.2.1, p_1.2.2.2.1, p_9, p_1.2.2.2.2.2.1, p_1.2.2.2.2.2.2)) fun p_13 =>
    nm (p_13 &&& p_1.2.2.1.2.2.1) fun x_26 =>
    f_X4_measureWays_29 200 (1 : Int32) x_26 p_13 (p_1.1, p_1.2.1, p_1.2.2.1, p_1.2.2.2.1, p_9, p_1.2.2.2.2.2.1, p_1.2.2.2.2.2.2)
abbrev rmX4_measureWays : Room := { frames := 4, cells := 0, slots := 0, locals := 105 }
set_option maxRecDepth 100000 in
set_option maxHeartbeats 4000000 in
theorem c_X4_measureWays (l : Launch) (G : EnT) (q : Nat → Nat) (w : TW) (o : TW) (h : f_X4_measureWays w = some o) : Mv l yX4_measureWays rmX4_measureWays cX4_measureWays 5 none G false [.ref (q 0)] (cTW G q w) (cTW G q o) := by
  refine Mv_of (by decide) (Nat.le_of_ble_eq_true rfl) ?_
  intro p e s m below meth c A0 F hr hW ls hl
  obtain ⟨hx, hb, hml, hown, hts, hK, hNW, hlocks, hA, hSX⟩ := id F
  have hl : lv_has ls 5 [(0, .ref (q 0))] := hl
  have hW : Wd G A0 s (cTW G q w) s.heap [] := hW
  show W p l e rmX4_measureWays s m ([.ref (q 0)] : List Value).toArray below meth c s.heap [] 0 0 (Qv below G (cTW G q o) A0 ([.ref (q 0)] : List Value).toArray s) (F0 m 0 ls [])
  refine lv_aload_n hx hb dX4_measureWays_0 rfl (lv_at hl 0 rfl) ?_
  obtain ⟨p_1, hc_1, h⟩ := of_bind h
  refine x_Vv (av := [.ref (q 0)]) (As := []) F hW (c_X4_begin l G q w _ hc_1) [0, 1, 2, 3, 4, 5, 6, 7, 8, 9, 10, 11, 12, 13, 14, 15, 16, 17, 18, 19, 20, 21] rfl rfl (by intro q; cases q) cv_X4_71 rfl ⟨_, rfl, rfl⟩ rfl rfl rfl hl (Nat.le_of_ble_eq_true rfl) ⟨Nat.le_of_ble_eq_true rfl, Nat.le_of_ble_eq_true rfl⟩ ⟨rfl, rfl⟩ ⟨Nat.le_of_ble_eq_true rfl, Nat.le_of_ble_eq_true rfl⟩ dX4_measureWays_1 rfl [some 0, some 1, some 2, some 3, some 4, some 5, some 6, some 7, some 8, some 9, some 10, some 11, some 12, some 13, some 14, some 15, some 16, some 17, some 18, some 19, some 20, some 21] rfl (ws' := cTW G q p_1) rfl (fun H locs hW => ?_)
  refine lv_aload_n hx hb dX4_measureWays_4 rfl (lv_at hl 0 rfl) ?_
  refine x_get F hW 0 rfl fa_X4_31 rfl dX4_measureWays_5 ?_
  refine lv_iconst (v := (0 : Int32)) hx hb dX4_measureWays_8 (by decide) ?_
  obtain ⟨p_9, hc_9, h⟩ := of_bind h
  refine x_Sv (av := [.ref (q 19), .int (0 : Int32)]) F hW (c_J7_fill_53178 l G (fun i => q (i + 19)) p_1.2.2.2.2.1 (0 : Int32) _ hc_9) [19] rfl rfl (by intro q; cases q) cs_X4_146 rfl rfl hl (Nat.le_of_ble_eq_true rfl) ⟨Nat.le_of_ble_eq_true rfl, Nat.le_of_ble_eq_true rfl⟩ ⟨rfl, rfl⟩ ⟨Nat.le_of_ble_eq_true rfl, Nat.le_of_ble_eq_true rfl⟩ dX4_measureWays_9 rfl [none, none, none, none, none, none, none, none, none, none, none, none, none, none, none, none, none, none, none, some 0, none, none] rfl (ws' := cTW G q (p_1.1, p_1.2.1, p_1.2.2.1, p_1.2.2.2.1, p_9, p_1.2.2.2.2.2.1, p_1.2.2.2.2.2.2)) rfl (fun H locs hW => ?_)
  refine lv_aload_n hx hb dX4_measureWays_12 rfl (lv_at hl 0 rfl) ?_
  obtain ⟨p_13, hc_13, h⟩ := of_bind h
  refine x_Vi (av := [.ref (q 0)]) (As := []) F hW (c_X4_hangers l G q (p_1.1, p_1.2.1, p_1.2.2.1, p_1.2.2.2.1, p_9, p_1.2.2.2.2.2.1, p_1.2.2.2.2.2.2) _ hc_13) [0, 1, 2, 3, 4, 5, 6, 7, 8, 9, 10, 11, 12, 13, 14, 15, 16, 17, 18, 19, 20, 21] rfl rfl (by intro q; cases q) cv_X4_74 rfl ⟨_, rfl, rfl⟩ rfl rfl rfl hl (Nat.le_of_ble_eq_true rfl) ⟨Nat.le_of_ble_eq_true rfl, Nat.le_of_ble_eq_true rfl⟩ ⟨rfl, rfl⟩ ⟨Nat.le_of_ble_eq_true rfl, Nat.le_of_ble_eq_true rfl⟩ dX4_measureWays_13 rfl [some 0, some 1, some 2, some 3, some 4, some 5, some 6, some 7, some 8, some 9, some 10, some 11, some 12, some 13, some 14, some 15, some 16, some 17, some 18, some 19, some 20, some 21] rfl (ws' := cTW G q (p_1.1, p_1.2.1, p_1.2.2.1, p_1.2.2.2.1, p_9, p_1.2.2.2.2.2.1, p_1.2.2.2.2.2.2)) rfl (fun H locs hW => ?_)
  refine lv_istore_n (lv' := [(1, .int p_13), (0, .ref (q 0))]) hx hb dX4_measureWays_16 rfl hl (by decide) rfl (fun ls hl => ?_)
  refine lv_iload_n hx hb dX4_measureWays_17 rfl (lv_at hl 0 rfl) ?_
  refine lv_aload_n hx hb dX4_measureWays_18 rfl (lv_at hl 1 rfl) ?_
  refine x_get F hW 0 rfl fa_X4_24 rfl dX4_measureWays_19 ?_
  refine x_get F hW 13 rfl fa_X4_93 rfl dX4_measureWays_22 ?_
  refine lv_iand hx hb dX4_measureWays_25 ?_
  obtain ⟨x_26, e_x_26, h⟩ := of_nm h
  refine x_topi e_x_26 ?_
  refine lv_istore_n (lv' := [(2, .int x_26), (1, .int p_13), (0, .ref (q 0))]) hx hb dX4_measureWays_26 rfl hl (by decide) rfl (fun ls hl => ?_)
  refine lv_iconst (v := (1 : Int32)) hx hb dX4_measureWays_27 (by decide) ?_
  refine lv_istore_n (lv' := [(3, .int (1 : Int32)), (2, .int x_26), (1, .int p_13), (0, .ref (q 0))]) hx hb dX4_measureWays_28 rfl hl (by decide) rfl (fun ls hl => ?_)
  have L0 : ∀ (n0 : Nat) (v3_29 : Int32) (v2_29 : Int32) (v1_29 : Int32) (w_29 : TW) (H : Heap) (locs : List Loc) (ls : Array Slot), f_X4_measureWays_29 n0 v3_29 v2_29 v1_29 w_29 = some o → Wd G A0 s (cTW G q w_29) H locs → lv_has ls 5 [(3, .int v3_29), (2, .int v2_29), (1, .int v1_29), (0, .ref (q 0))] → W p l e rmX4_measureWays s m ([.ref (q 0)] : List Value).toArray below meth c H locs 0 0 (Qv below G (cTW G q o) A0 ([.ref (q 0)] : List Value).toArray s) (F0 m 29 ls []) := by
    intro n0
    induction n0 with
    | zero => intro v3_29 v2_29 v1_29 w_29 H locs ls h; cases (show (none : Option (TW)) = some o from h)
    | succ n0 ih0 =>
      intro v3_29 v2_29 v1_29 w_29 H locs ls h hW hl
      refine lv_iload_n hx hb dX4_measureWays_29 rfl (lv_at hl 0 rfl) ?_
      refine lv_aload_n hx hb dX4_measureWays_30 rfl (lv_at hl 3 rfl) ?_
      refine x_get F hW 0 rfl fa_X4_18 rfl dX4_measureWays_31 ?_
      refine x_get F hW 7 rfl fa_X4_114 rfl dX4_measureWays_34 ?_
      obtain ⟨ht_37, hf_37⟩ := of_ite h
      refine lv_icmp_gt (tgt := 104) hx hb dX4_measureWays_37 (by decide) (fun c_37 => ?_) (fun c_37 => ?_)
      · have h := ht_37 c_37
        obtain rfl := Option.some.inj h
        exact x_retv F hr hW dX4_measureWays_104
      · have h := hf_37 c_37
        refine lv_iload_n hx hb dX4_measureWays_40 rfl (lv_at hl 1 rfl) ?_
        obtain ⟨ht_41, hf_41⟩ := of_ite h
        refine lv_if_eq (tgt := 104) hx hb dX4_measureWays_41 (by decide) (fun c_41 => ?_) (fun c_41 => ?_)
        · have h := ht_41 c_41
          obtain rfl := Option.some.inj h
          exact x_retv F hr hW dX4_measureWays_104
        · have h := hf_41 c_41
          refine lv_iconst (v := (0 : Int32)) hx hb dX4_measureWays_44 (by decide) ?_
          refine lv_istore (lv' := [(4, .int (0 : Int32)), (3, .int v3_29), (2, .int v2_29), (1, .int v1_29), (0, .ref (q 0))]) hx hb dX4_measureWays_45 hl (by decide) rfl (fun ls hl => ?_)
          have L1 : ∀ (n1 : Nat) (v4_47 : Int32) (w_47 : TW) (H : Heap) (locs : List Loc) (ls : Array Slot), f_X4_measureWays_47 (fun a0 a1 a2 a3 => f_X4_measureWays_29 n0 a0 a1 a2 a3) v1_29 v2_29 v3_29 n1 v4_47 w_47 = some o → Wd G A0 s (cTW G q w_47) H locs → lv_has ls 5 [(4, .int v4_47), (3, .int v3_29), (2, .int v2_29), (1, .int v1_29), (0, .ref (q 0))] → W p l e rmX4_measureWays s m ([.ref (q 0)] : List Value).toArray below meth c H locs 0 0 (Qv below G (cTW G q o) A0 ([.ref (q 0)] : List Value).toArray s) (F0 m 47 ls []) := by
            intro n1
            induction n1 with
            | zero => intro v4_47 w_47 H locs ls h; cases (show (none : Option (TW)) = some o from h)
            | succ n1 ih1 =>
              intro v4_47 w_47 H locs ls h hW hl
              refine lv_iload hx hb dX4_measureWays_47 (lv_at hl 0 rfl) ?_
              refine lv_aload_n hx hb dX4_measureWays_49 rfl (lv_at hl 4 rfl) ?_
              refine x_get F hW 0 rfl fa_X4_18 rfl dX4_measureWays_50 ?_
              refine x_get F hW 7 rfl fa_X4_114 rfl dX4_measureWays_53 ?_
              obtain ⟨ht_56, hf_56⟩ := of_ite h
              refine lv_icmp_ge (tgt := 82) hx hb dX4_measureWays_56 (by decide) (fun c_56 => ?_) (fun c_56 => ?_)
              · have h := ht_56 c_56
                refine lv_iload_n hx hb dX4_measureWays_82 rfl (lv_at hl 3 rfl) ?_
                refine lv_iload_n hx hb dX4_measureWays_83 rfl (lv_at hl 2 rfl) ?_
                refine lv_iconst (v := (-1 : Int32)) hx hb dX4_measureWays_84 (by decide) ?_
                refine lv_ixor hx hb dX4_measureWays_85 ?_
                refine lv_iand hx hb dX4_measureWays_86 ?_
                obtain ⟨x_87, e_x_87, h⟩ := of_nm h
                refine x_topi e_x_87 ?_
                refine lv_istore_n (lv' := [(1, .int x_87), (4, .int v4_47), (3, .int v3_29), (2, .int v2_29), (0, .ref (q 0))]) hx hb dX4_measureWays_87 rfl hl (by decide) rfl (fun ls hl => ?_)
                refine lv_aload_n hx hb dX4_measureWays_88 rfl (lv_at hl 4 rfl) ?_
                refine x_get F hW 0 rfl fa_X4_24 rfl dX4_measureWays_89 ?_
                refine lv_iload_n hx hb dX4_measureWays_92 rfl (lv_at hl 0 rfl) ?_
                refine lv_iload_n hx hb dX4_measureWays_93 rfl (lv_at hl 3 rfl) ?_
                obtain ⟨p_94, hc_94, h⟩ := of_bind h
                refine x_Vi (av := [.ref (q 13), .int x_87, .int v2_29]) (As := [.int x_87, .int v2_29]) F hW (c_X3_seeing l G (fun i => q (i + 13)) w_47.2.2.1 x_87 v2_29 _ hc_94) [13, 14, 15] rfl rfl (by intro q; cases q) cv_X4_152 rfl ⟨_, rfl, rfl⟩ rfl rfl rfl hl (Nat.le_of_ble_eq_true rfl) ⟨Nat.le_of_ble_eq_true rfl, Nat.le_of_ble_eq_true rfl⟩ ⟨rfl, rfl⟩ ⟨Nat.le_of_ble_eq_true rfl, Nat.le_of_ble_eq_true rfl⟩ dX4_measureWays_94 rfl [none, none, none, none, none, none, none, none, none, none, none, none, none, some 0, some 1, some 2, none, none, none, none, none, none] rfl (ws' := cTW G q w_47) rfl (fun H locs hW => ?_)
                refine lv_istore_n (lv' := [(2, .int p_94), (1, .int x_87), (4, .int v4_47), (3, .int v3_29), (0, .ref (q 0))]) hx hb dX4_measureWays_97 rfl hl (by decide) rfl (fun ls hl => ?_)
                refine lv_iinc (v := (v3_29 + (1 : Int32))) (lv' := [(3, .int (v3_29 + (1 : Int32))), (2, .int p_94), (1, .int x_87), (4, .int v4_47), (0, .ref (q 0))]) hx hb dX4_measureWays_98 hl (k := 3) rfl rfl (by decide) rfl (fun ls hl => ?_)
                refine lv_goto (tgt := 29) hx hb dX4_measureWays_101 (by decide) ?_
                exact ih0 (v3_29 + (1 : Int32)) p_94 x_87 w_47 _ _ _ h hW (lv_sub hl [0, 1, 2, 4] rfl)
              · have h := hf_56 c_56
                refine lv_iload_n hx hb dX4_measureWays_59 rfl (lv_at hl 2 rfl) ?_
                refine lv_iload hx hb dX4_measureWays_60 (lv_at hl 0 rfl) ?_
                obtain ⟨p_62, hc_62, h⟩ := of_bind h
                refine x_Ni (av := [.int v2_29, .int v4_47]) F hW (c_X5_has l G v2_29 v4_47 _ hc_62) [] rfl rfl (by intro q; cases q) cn_X4_80 rfl rfl hl (Nat.le_of_ble_eq_true rfl) ⟨Nat.le_of_ble_eq_true rfl, Nat.le_of_ble_eq_true rfl⟩ ⟨rfl, rfl⟩ ⟨Nat.le_of_ble_eq_true rfl, Nat.le_of_ble_eq_true rfl⟩ dX4_measureWays_62 rfl [none, none, none, none, none, none, none, none, none, none, none, none, none, none, none, none, none, none, none, none, none, none] rfl (ws' := cTW G q w_47) rfl (fun H locs hW => ?_)
                obtain ⟨ht_65, hf_65⟩ := of_ite h
                refine lv_if_eq (tgt := 76) hx hb dX4_measureWays_65 (by decide) (fun c_65 => ?_) (fun c_65 => ?_)
                · have h := ht_65 c_65
                  refine lv_iinc (v := (v4_47 + (1 : Int32))) (lv' := [(4, .int (v4_47 + (1 : Int32))), (3, .int v3_29), (2, .int v2_29), (1, .int v1_29), (0, .ref (q 0))]) hx hb dX4_measureWays_76 hl (k := 0) rfl rfl (by decide) rfl (fun ls hl => ?_)
                  refine lv_goto (tgt := 47) hx hb dX4_measureWays_79 (by decide) ?_
                  exact ih1 (v4_47 + (1 : Int32)) w_47 _ _ _ h hW (lv_sub hl [0, 1, 2, 3, 4] rfl)
                · have h := hf_65 c_65
                  refine lv_aload_n hx hb dX4_measureWays_68 rfl (lv_at hl 4 rfl) ?_
                  refine x_get F hW 0 rfl fa_X4_31 rfl dX4_measureWays_69 ?_
                  refine lv_iload hx hb dX4_measureWays_72 (lv_at hl 0 rfl) ?_
                  refine lv_iload_n hx hb dX4_measureWays_74 rfl (lv_at hl 1 rfl) ?_
                  obtain ⟨g_75, h⟩ := of_guard h
                  refine x_iast F hW 19 rfl g_75 (ws' := cTW G q (w_47.1, w_47.2.1, w_47.2.2.1, w_47.2.2.2.1, (upd w_47.2.2.2.2.1 v4_47.toNatClampNeg v3_29), w_47.2.2.2.2.2.1, w_47.2.2.2.2.2.2)) rfl dX4_measureWays_75 (fun H locs hW => ?_)
                  refine lv_iinc (v := (v4_47 + (1 : Int32))) (lv' := [(4, .int (v4_47 + (1 : Int32))), (3, .int v3_29), (2, .int v2_29), (1, .int v1_29), (0, .ref (q 0))]) hx hb dX4_measureWays_76 hl (k := 0) rfl rfl (by decide) rfl (fun ls hl => ?_)
                  refine lv_goto (tgt := 47) hx hb dX4_measureWays_79 (by decide) ?_
                  exact ih1 (v4_47 + (1 : Int32)) (w_47.1, w_47.2.1, w_47.2.2.1, w_47.2.2.2.1, (upd w_47.2.2.2.2.1 v4_47.toNatClampNeg v3_29), w_47.2.2.2.2.2.1, w_47.2.2.2.2.2.2) _ _ _ h hW (lv_sub hl [0, 1, 2, 3, 4] rfl)
          exact L1 200 (0 : Int32) w_29 _ _ _ h hW (lv_sub hl [0, 1, 2, 3, 4] rfl)
  exact L0 200 (1 : Int32) x_26 p_13 (p_1.1, p_1.2.1, p_1.2.2.1, p_1.2.2.2.1, p_9, p_1.2.2.2.2.2.1, p_1.2.2.2.2.2.2) _ _ _ h hW (lv_sub hl [0, 1, 2, 3] rfl)
def f_X4_newsLength (w : TW) (x1 : Int32) : Option (Int32 × TW) :=
  Option.bind (f_X4_measureWays w) fun p_1 =>
    if inR x1 8 then
    if (p_1.2.2.2.2.1 x1.toNatClampNeg) = 0 then
    some ((-9 : Int32), p_1)
    else
    if inR x1 8 then
    some ((p_1.2.2.2.2.1 x1.toNatClampNeg), p_1)
    else none
    else none
abbrev rmX4_newsLength : Room := { frames := 5, cells := 0, slots := 0, locals := 129 }
set_option maxRecDepth 100000 in
set_option maxHeartbeats 4000000 in
theorem c_X4_newsLength (l : Launch) (G : EnT) (q : Nat → Nat) (w : TW) (x1 : Int32) (o : Int32 × TW) (h : f_X4_newsLength w x1 = some o) : Mi l yX4_newsLength rmX4_newsLength cX4_newsLength 2 (some .int) G false [.ref (q 0), .int x1] (cTW G q w) o.1 (cTW G q o.2) := by
  refine Mi_of (by decide) (Nat.le_of_ble_eq_true rfl) ?_
  intro p e s m below meth c A0 F hr hW ls hl
  obtain ⟨hx, hb, hml, hown, hts, hK, hNW, hlocks, hA, hSX⟩ := id F
  have hl : lv_has ls 2 [(0, .ref (q 0)), (1, .int x1)] := hl
  have hW : Wd G A0 s (cTW G q w) s.heap [] := hW
  show W p l e rmX4_newsLength s m ([.ref (q 0), .int x1] : List Value).toArray below meth c s.heap [] 0 0 (Qi below G (cTW G q o.2) o.1 A0 ([.ref (q 0), .int x1] : List Value).toArray s) (F0 m 0 ls [])
  refine lv_aload_n hx hb dX4_newsLength_0 rfl (lv_at hl 0 rfl) ?_
  obtain ⟨p_1, hc_1, h⟩ := of_bind h
  refine x_Vv (av := [.ref (q 0)]) (As := []) F hW (c_X4_measureWays l G q w _ hc_1) [0, 1, 2, 3, 4, 5, 6, 7, 8, 9, 10, 11, 12, 13, 14, 15, 16, 17, 18, 19, 20, 21] rfl rfl (by intro q; cases q) cv_X4_155 rfl ⟨_, rfl, rfl⟩ rfl rfl rfl hl (Nat.le_of_ble_eq_true rfl) ⟨Nat.le_of_ble_eq_true rfl, Nat.le_of_ble_eq_true rfl⟩ ⟨rfl, rfl⟩ ⟨Nat.le_of_ble_eq_true rfl, Nat.le_of_ble_eq_true rfl⟩ dX4_newsLength_1 rfl [some 0, some 1, some 2, some 3, some 4, some 5, some 6, some 7, some 8, some 9, some 10, some 11, some 12, some 13, some 14, some 15, some 16, some 17, some 18, some 19, some 20, some 21] rfl (ws' := cTW G q p_1) rfl (fun H locs hW => ?_)
  refine lv_aload_n hx hb dX4_newsLength_4 rfl (lv_at hl 0 rfl) ?_
  refine x_get F hW 0 rfl fa_X4_31 rfl dX4_newsLength_5 ?_
  refine lv_iload_n hx hb dX4_newsLength_8 rfl (lv_at hl 1 rfl) ?_
  obtain ⟨g_9, h⟩ := of_guard h
  refine x_iald F hW 19 rfl g_9 dX4_newsLength_9 ?_
  obtain ⟨ht_10, hf_10⟩ := of_ite h
  refine lv_if_ne (tgt := 18) hx hb dX4_newsLength_10 (by decide) (fun c_10 => ?_) (fun c_10 => ?_)
  · have h := hf_10 c_10
    refine lv_aload_n hx hb dX4_newsLength_18 rfl (lv_at hl 0 rfl) ?_
    refine x_get F hW 0 rfl fa_X4_31 rfl dX4_newsLength_19 ?_
    refine lv_iload_n hx hb dX4_newsLength_22 rfl (lv_at hl 1 rfl) ?_
    obtain ⟨g_23, h⟩ := of_guard h
    refine x_iald F hW 19 rfl g_23 dX4_newsLength_23 ?_
    obtain rfl := Option.some.inj h
    exact x_reti F hr hW rfl dX4_newsLength_24
  · have h := ht_10 c_10
    refine lv_bipush (v := (-9 : Int32)) hx hb dX4_newsLength_13 (by decide) ?_
    refine lv_goto (tgt := 24) hx hb dX4_newsLength_15 (by decide) ?_
    obtain rfl := Option.some.inj h
    exact x_reti F hr hW rfl dX4_newsLength_24
def f_X4_newsNext_31 (x1 : Int32) : Nat → Int32 → TW → Option (Int32 × TW)
  | 0, _, _ => none
  | n0 + 1, v2_31, w_31 =>
    if w_31.2.1.2.2.2.2.2.1 ≤ v2_31 then
    some ((-9 : Int32), w_31)
    else
    if inR x1 8 then
    Option.bind (f_X5_has (w_31.2.2.1.2.1 x1.toNatClampNeg) v2_31) fun p_52 =>
    if p_52 = 0 then
    f_X4_newsNext_31 x1 n0 (v2_31 + (1 : Int32)) w_31
    else
    if inR v2_31 8 then
    if inR x1 8 then
    if (w_31.2.2.2.2.1 v2_31.toNatClampNeg) = ((w_31.2.2.2.2.1 x1.toNatClampNeg) - (1 : Int32)) then
    some (v2_31, w_31)
    else
    f_X4_newsNext_31 x1 n0 (v2_31 + (1 : Int32)) w_31
    else none
    else none
    else none
def f_X4_newsNext (w : TW) (x1 : Int32) : Option (Int32 × TW) :=
  Option.bind (f_X4_measureWays w) fun p_1 =>
    if inR x1 8 then
    if (p_1.2.2.2.2.1 x1.toNatClampNeg) = 0 then
    some ((-9 : Int32), p_1)
    else
    if inR x1 8 then
    if (p_1.2.2.2.2.1 x1.toNatClampNeg) = (1 : Int32) then
    some ((7 : Int32), p_1)
    else
    f_X4_newsNext_31 x1 200 (0 : Int32) p_1
    else none
    else none
abbrev rmX4_newsNext : Room := { frames := 5, cells := 0, slots := 0, locals := 129 }
set_option maxRecDepth 100000 in
set_option maxHeartbeats 4000000 in
theorem c_X4_newsNext (l : Launch) (G : EnT) (q : Nat → Nat) (w : TW) (x1 : Int32) (o : Int32 × TW) (h : f_X4_newsNext w x1 = some o) : Mi l yX4_newsNext rmX4_newsNext cX4_newsNext 3 (some .int) G false [.ref (q 0), .int x1] (cTW G q w) o.1 (cTW G q o.2) := by
  refine Mi_of (by decide) (Nat.le_of_ble_eq_true rfl) ?_
  intro p e s m below meth c A0 F hr hW ls hl
  obtain ⟨hx, hb, hml, hown, hts, hK, hNW, hlocks, hA, hSX⟩ := id F
  have hl : lv_has ls 3 [(0, .ref (q 0)), (1, .int x1)] := hl
  have hW : Wd G A0 s (cTW G q w) s.heap [] := hW
  show W p l e rmX4_newsNext s m ([.ref (q 0), .int x1] : List Value).toArray below meth c s.heap [] 0 0 (Qi below G (cTW G q o.2) o.1 A0 ([.ref (q 0), .int x1] : List Value).toArray s) (F0 m 0 ls [])
  refine lv_aload_n hx hb dX4_newsNext_0 rfl (lv_at hl 0 rfl) ?_
  obtain ⟨p_1, hc_1, h⟩ := of_bind h
  refine x_Vv (av := [.ref (q 0)]) (As := []) F hW (c_X4_measureWays l G q w _ hc_1) [0, 1, 2, 3, 4, 5, 6, 7, 8, 9, 10, 11, 12, 13, 14, 15, 16, 17, 18, 19, 20, 21] rfl rfl (by intro q; cases q) cv_X4_155 rfl ⟨_, rfl, rfl⟩ rfl rfl rfl hl (Nat.le_of_ble_eq_true rfl) ⟨Nat.le_of_ble_eq_true rfl, Nat.le_of_ble_eq_true rfl⟩ ⟨rfl, rfl⟩ ⟨Nat.le_of_ble_eq_true rfl, Nat.le_of_ble_eq_true rfl⟩ dX4_newsNext_1 rfl [some 0, some 1, some 2, some 3, some 4, some 5, some 6, some 7, some 8, some 9, some 10, some 11, some 12, some 13, some 14, some 15, some 16, some 17, some 18, some 19, some 20, some 21] rfl (ws' := cTW G q p_1) rfl (fun H locs hW => ?_)
  refine lv_aload_n hx hb dX4_newsNext_4 rfl (lv_at hl 0 rfl) ?_
  refine x_get F hW 0 rfl fa_X4_31 rfl dX4_newsNext_5 ?_
  refine lv_iload_n hx hb dX4_newsNext_8 rfl (lv_at hl 1 rfl) ?_
  obtain ⟨g_9, h⟩ := of_guard h
  refine x_iald F hW 19 rfl g_9 dX4_newsNext_9 ?_
  obtain ⟨ht_10, hf_10⟩ := of_ite h
  refine lv_if_ne (tgt := 16) hx hb dX4_newsNext_10 (by decide) (fun c_10 => ?_) (fun c_10 => ?_)
  · have h := hf_10 c_10
    refine lv_aload_n hx hb dX4_newsNext_16 rfl (lv_at hl 0 rfl) ?_
    refine x_get F hW 0 rfl fa_X4_31 rfl dX4_newsNext_17 ?_
    refine lv_iload_n hx hb dX4_newsNext_20 rfl (lv_at hl 1 rfl) ?_
    obtain ⟨g_21, h⟩ := of_guard h
    refine x_iald F hW 19 rfl g_21 dX4_newsNext_21 ?_
    refine lv_iconst (v := (1 : Int32)) hx hb dX4_newsNext_22 (by decide) ?_
    obtain ⟨ht_23, hf_23⟩ := of_ite h
    refine lv_icmp_ne (tgt := 29) hx hb dX4_newsNext_23 (by decide) (fun c_23 => ?_) (fun c_23 => ?_)
    · have h := hf_23 c_23
      refine lv_iconst (v := (0 : Int32)) hx hb dX4_newsNext_29 (by decide) ?_
      refine lv_istore_n (lv' := [(2, .int (0 : Int32)), (0, .ref (q 0)), (1, .int x1)]) hx hb dX4_newsNext_30 rfl hl (by decide) rfl (fun ls hl => ?_)
      have L0 : ∀ (n0 : Nat) (v2_31 : Int32) (w_31 : TW) (H : Heap) (locs : List Loc) (ls : Array Slot), f_X4_newsNext_31 x1 n0 v2_31 w_31 = some o → Wd G A0 s (cTW G q w_31) H locs → lv_has ls 3 [(2, .int v2_31), (0, .ref (q 0)), (1, .int x1)] → W p l e rmX4_newsNext s m ([.ref (q 0), .int x1] : List Value).toArray below meth c H locs 0 0 (Qi below G (cTW G q o.2) o.1 A0 ([.ref (q 0), .int x1] : List Value).toArray s) (F0 m 31 ls []) := by
        intro n0
        induction n0 with
        | zero => intro v2_31 w_31 H locs ls h; cases (show (none : Option (Int32 × TW)) = some o from h)
        | succ n0 ih0 =>
          intro v2_31 w_31 H locs ls h hW hl
          refine lv_iload_n hx hb dX4_newsNext_31 rfl (lv_at hl 0 rfl) ?_
          refine lv_aload_n hx hb dX4_newsNext_32 rfl (lv_at hl 1 rfl) ?_
          refine x_get F hW 0 rfl fa_X4_18 rfl dX4_newsNext_33 ?_
          refine x_get F hW 7 rfl fa_X4_114 rfl dX4_newsNext_36 ?_
          obtain ⟨ht_39, hf_39⟩ := of_ite h
          refine lv_icmp_ge (tgt := 83) hx hb dX4_newsNext_39 (by decide) (fun c_39 => ?_) (fun c_39 => ?_)
          · have h := ht_39 c_39
            refine lv_bipush (v := (-9 : Int32)) hx hb dX4_newsNext_83 (by decide) ?_
            obtain rfl := Option.some.inj h
            exact x_reti F hr hW rfl dX4_newsNext_85
          · have h := hf_39 c_39
            refine lv_aload_n hx hb dX4_newsNext_42 rfl (lv_at hl 1 rfl) ?_
            refine x_get F hW 0 rfl fa_X4_24 rfl dX4_newsNext_43 ?_
            refine x_get F hW 13 rfl fa_X4_90 rfl dX4_newsNext_46 ?_
            refine lv_iload_n hx hb dX4_newsNext_49 rfl (lv_at hl 2 rfl) ?_
            obtain ⟨g_50, h⟩ := of_guard h
            refine x_iald F hW 15 rfl g_50 dX4_newsNext_50 ?_
            refine lv_iload_n hx hb dX4_newsNext_51 rfl (lv_at hl 0 rfl) ?_
            obtain ⟨p_52, hc_52, h⟩ := of_bind h
            refine x_Ni (av := [.int (w_31.2.2.1.2.1 x1.toNatClampNeg), .int v2_31]) F hW (c_X5_has l G (w_31.2.2.1.2.1 x1.toNatClampNeg) v2_31 _ hc_52) [] rfl rfl (by intro q; cases q) cn_X4_80 rfl rfl hl (Nat.le_of_ble_eq_true rfl) ⟨Nat.le_of_ble_eq_true rfl, Nat.le_of_ble_eq_true rfl⟩ ⟨rfl, rfl⟩ ⟨Nat.le_of_ble_eq_true rfl, Nat.le_of_ble_eq_true rfl⟩ dX4_newsNext_52 rfl [none, none, none, none, none, none, none, none, none, none, none, none, none, none, none, none, none, none, none, none, none, none] rfl (ws' := cTW G q w_31) rfl (fun H locs hW => ?_)
            obtain ⟨ht_55, hf_55⟩ := of_ite h
            refine lv_if_eq (tgt := 77) hx hb dX4_newsNext_55 (by decide) (fun c_55 => ?_) (fun c_55 => ?_)
            · have h := ht_55 c_55
              refine lv_iinc (v := (v2_31 + (1 : Int32))) (lv' := [(2, .int (v2_31 + (1 : Int32))), (0, .ref (q 0)), (1, .int x1)]) hx hb dX4_newsNext_77 hl (k := 0) rfl rfl (by decide) rfl (fun ls hl => ?_)
              refine lv_goto (tgt := 31) hx hb dX4_newsNext_80 (by decide) ?_
              exact ih0 (v2_31 + (1 : Int32)) w_31 _ _ _ h hW (lv_sub hl [0, 1, 2] rfl)
            · have h := hf_55 c_55
              refine lv_aload_n hx hb dX4_newsNext_58 rfl (lv_at hl 1 rfl) ?_
              refine x_get F hW 0 rfl fa_X4_31 rfl dX4_newsNext_59 ?_
              refine lv_iload_n hx hb dX4_newsNext_62 rfl (lv_at hl 0 rfl) ?_
              obtain ⟨g_63, h⟩ := of_guard h
              refine x_iald F hW 19 rfl g_63 dX4_newsNext_63 ?_
              refine lv_aload_n hx hb dX4_newsNext_64 rfl (lv_at hl 1 rfl) ?_
              refine x_get F hW 0 rfl fa_X4_31 rfl dX4_newsNext_65 ?_
              refine lv_iload_n hx hb dX4_newsNext_68 rfl (lv_at hl 2 rfl) ?_
              obtain ⟨g_69, h⟩ := of_guard h
              refine x_iald F hW 19 rfl g_69 dX4_newsNext_69 ?_
              refine lv_iconst (v := (1 : Int32)) hx hb dX4_newsNext_70 (by decide) ?_
              refine lv_isub hx hb dX4_newsNext_71 ?_
              obtain ⟨ht_72, hf_72⟩ := of_ite h
              refine lv_icmp_ne (tgt := 77) hx hb dX4_newsNext_72 (by decide) (fun c_72 => ?_) (fun c_72 => ?_)
              · have h := hf_72 c_72
                refine lv_iinc (v := (v2_31 + (1 : Int32))) (lv' := [(2, .int (v2_31 + (1 : Int32))), (0, .ref (q 0)), (1, .int x1)]) hx hb dX4_newsNext_77 hl (k := 0) rfl rfl (by decide) rfl (fun ls hl => ?_)
                refine lv_goto (tgt := 31) hx hb dX4_newsNext_80 (by decide) ?_
                exact ih0 (v2_31 + (1 : Int32)) w_31 _ _ _ h hW (lv_sub hl [0, 1, 2] rfl)
              · have h := ht_72 c_72
                refine lv_iload_n hx hb dX4_newsNext_75 rfl (lv_at hl 0 rfl) ?_
                obtain rfl := Option.some.inj h
                exact x_reti F hr hW rfl dX4_newsNext_76
      exact L0 200 (0 : Int32) p_1 _ _ _ h hW (lv_sub hl [0, 1, 2] rfl)
    · have h := ht_23 c_23
      refine lv_bipush (v := (7 : Int32)) hx hb dX4_newsNext_26 (by decide) ?_
      obtain rfl := Option.some.inj h
      exact x_reti F hr hW rfl dX4_newsNext_28
  · have h := ht_10 c_10
    refine lv_bipush (v := (-9 : Int32)) hx hb dX4_newsNext_13 (by decide) ?_
    obtain rfl := Option.some.inj h
    exact x_reti F hr hW rfl dX4_newsNext_15
def f_X4_farthestHouse_11 : Nat → Int32 → Int32 → Int32 → TW → Option (Int32 × TW)
  | 0, _, _, _, _ => none
  | n0 + 1, v3_11, v2_11, v1_11, w_11 =>
    if w_11.2.1.2.2.2.2.2.1 ≤ v3_11 then
    some (v1_11, w_11)
    else
    if inR v3_11 8 then
    if (w_11.2.2.2.2.1 v3_11.toNatClampNeg) ≤ v2_11 then
    f_X4_farthestHouse_11 n0 (v3_11 + (1 : Int32)) v2_11 v1_11 w_11
    else
    if inR v3_11 8 then
    nm (w_11.2.2.2.2.1 v3_11.toNatClampNeg) fun x_40 =>
    f_X4_farthestHouse_11 n0 (v3_11 + (1 : Int32)) x_40 v3_11 w_11
    else none
    else none
def f_X4_farthestHouse (w : TW) : Option (Int32 × TW) :=
  Option.bind (f_X4_measureWays w) fun p_1 =>
    f_X4_farthestHouse_11 200 (0 : Int32) (0 : Int32) (-9 : Int32) p_1
abbrev rmX4_farthestHouse : Room := { frames := 5, cells := 0, slots := 0, locals := 129 }
set_option maxRecDepth 100000 in
set_option maxHeartbeats 4000000 in
theorem c_X4_farthestHouse (l : Launch) (G : EnT) (q : Nat → Nat) (w : TW) (o : Int32 × TW) (h : f_X4_farthestHouse w = some o) : Mi l yX4_farthestHouse rmX4_farthestHouse cX4_farthestHouse 4 (some .int) G false [.ref (q 0)] (cTW G q w) o.1 (cTW G q o.2) := by
  refine Mi_of (by decide) (Nat.le_of_ble_eq_true rfl) ?_
  intro p e s m below meth c A0 F hr hW ls hl
  obtain ⟨hx, hb, hml, hown, hts, hK, hNW, hlocks, hA, hSX⟩ := id F
  have hl : lv_has ls 4 [(0, .ref (q 0))] := hl
  have hW : Wd G A0 s (cTW G q w) s.heap [] := hW
  show W p l e rmX4_farthestHouse s m ([.ref (q 0)] : List Value).toArray below meth c s.heap [] 0 0 (Qi below G (cTW G q o.2) o.1 A0 ([.ref (q 0)] : List Value).toArray s) (F0 m 0 ls [])
  refine lv_aload_n hx hb dX4_farthestHouse_0 rfl (lv_at hl 0 rfl) ?_
  obtain ⟨p_1, hc_1, h⟩ := of_bind h
  refine x_Vv (av := [.ref (q 0)]) (As := []) F hW (c_X4_measureWays l G q w _ hc_1) [0, 1, 2, 3, 4, 5, 6, 7, 8, 9, 10, 11, 12, 13, 14, 15, 16, 17, 18, 19, 20, 21] rfl rfl (by intro q; cases q) cv_X4_155 rfl ⟨_, rfl, rfl⟩ rfl rfl rfl hl (Nat.le_of_ble_eq_true rfl) ⟨Nat.le_of_ble_eq_true rfl, Nat.le_of_ble_eq_true rfl⟩ ⟨rfl, rfl⟩ ⟨Nat.le_of_ble_eq_true rfl, Nat.le_of_ble_eq_true rfl⟩ dX4_farthestHouse_1 rfl [some 0, some 1, some 2, some 3, some 4, some 5, some 6, some 7, some 8, some 9, some 10, some 11, some 12, some 13, some 14, some 15, some 16, some 17, some 18, some 19, some 20, some 21] rfl (ws' := cTW G q p_1) rfl (fun H locs hW => ?_)
  refine lv_bipush (v := (-9 : Int32)) hx hb dX4_farthestHouse_4 (by decide) ?_
  refine lv_istore_n (lv' := [(1, .int (-9 : Int32)), (0, .ref (q 0))]) hx hb dX4_farthestHouse_6 rfl hl (by decide) rfl (fun ls hl => ?_)
  refine lv_iconst (v := (0 : Int32)) hx hb dX4_farthestHouse_7 (by decide) ?_
  refine lv_istore_n (lv' := [(2, .int (0 : Int32)), (1, .int (-9 : Int32)), (0, .ref (q 0))]) hx hb dX4_farthestHouse_8 rfl hl (by decide) rfl (fun ls hl => ?_)
  refine lv_iconst (v := (0 : Int32)) hx hb dX4_farthestHouse_9 (by decide) ?_
  refine lv_istore_n (lv' := [(3, .int (0 : Int32)), (2, .int (0 : Int32)), (1, .int (-9 : Int32)), (0, .ref (q 0))]) hx hb dX4_farthestHouse_10 rfl hl (by decide) rfl (fun ls hl => ?_)
  have L0 : ∀ (n0 : Nat) (v3_11 : Int32) (v2_11 : Int32) (v1_11 : Int32) (w_11 : TW) (H : Heap) (locs : List Loc) (ls : Array Slot), f_X4_farthestHouse_11 n0 v3_11 v2_11 v1_11 w_11 = some o → Wd G A0 s (cTW G q w_11) H locs → lv_has ls 4 [(3, .int v3_11), (2, .int v2_11), (1, .int v1_11), (0, .ref (q 0))] → W p l e rmX4_farthestHouse s m ([.ref (q 0)] : List Value).toArray below meth c H locs 0 0 (Qi below G (cTW G q o.2) o.1 A0 ([.ref (q 0)] : List Value).toArray s) (F0 m 11 ls []) := by
    intro n0
    induction n0 with
    | zero => intro v3_11 v2_11 v1_11 w_11 H locs ls h; cases (show (none : Option (Int32 × TW)) = some o from h)
    | succ n0 ih0 =>
      intro v3_11 v2_11 v1_11 w_11 H locs ls h hW hl
      refine lv_iload_n hx hb dX4_farthestHouse_11 rfl (lv_at hl 0 rfl) ?_
      refine lv_aload_n hx hb dX4_farthestHouse_12 rfl (lv_at hl 3 rfl) ?_
      refine x_get F hW 0 rfl fa_X4_18 rfl dX4_farthestHouse_13 ?_
      refine x_get F hW 7 rfl fa_X4_114 rfl dX4_farthestHouse_16 ?_
      obtain ⟨ht_19, hf_19⟩ := of_ite h
      refine lv_icmp_ge (tgt := 47) hx hb dX4_farthestHouse_19 (by decide) (fun c_19 => ?_) (fun c_19 => ?_)
      · have h := ht_19 c_19
        refine lv_iload_n hx hb dX4_farthestHouse_47 rfl (lv_at hl 2 rfl) ?_
        obtain rfl := Option.some.inj h
        exact x_reti F hr hW rfl dX4_farthestHouse_48
      · have h := hf_19 c_19
        refine lv_aload_n hx hb dX4_farthestHouse_22 rfl (lv_at hl 3 rfl) ?_
        refine x_get F hW 0 rfl fa_X4_31 rfl dX4_farthestHouse_23 ?_
        refine lv_iload_n hx hb dX4_farthestHouse_26 rfl (lv_at hl 0 rfl) ?_
        obtain ⟨g_27, h⟩ := of_guard h
        refine x_iald F hW 19 rfl g_27 dX4_farthestHouse_27 ?_
        refine lv_iload_n hx hb dX4_farthestHouse_28 rfl (lv_at hl 1 rfl) ?_
        obtain ⟨ht_29, hf_29⟩ := of_ite h
        refine lv_icmp_le (tgt := 41) hx hb dX4_farthestHouse_29 (by decide) (fun c_29 => ?_) (fun c_29 => ?_)
        · have h := ht_29 c_29
          refine lv_iinc (v := (v3_11 + (1 : Int32))) (lv' := [(3, .int (v3_11 + (1 : Int32))), (2, .int v2_11), (1, .int v1_11), (0, .ref (q 0))]) hx hb dX4_farthestHouse_41 hl (k := 0) rfl rfl (by decide) rfl (fun ls hl => ?_)
          refine lv_goto (tgt := 11) hx hb dX4_farthestHouse_44 (by decide) ?_
          exact ih0 (v3_11 + (1 : Int32)) v2_11 v1_11 w_11 _ _ _ h hW (lv_sub hl [0, 1, 2, 3] rfl)
        · have h := hf_29 c_29
          refine lv_iload_n hx hb dX4_farthestHouse_32 rfl (lv_at hl 0 rfl) ?_
          refine lv_istore_n (lv' := [(1, .int v3_11), (3, .int v3_11), (2, .int v2_11), (0, .ref (q 0))]) hx hb dX4_farthestHouse_33 rfl hl (by decide) rfl (fun ls hl => ?_)
          refine lv_aload_n hx hb dX4_farthestHouse_34 rfl (lv_at hl 3 rfl) ?_
          refine x_get F hW 0 rfl fa_X4_31 rfl dX4_farthestHouse_35 ?_
          refine lv_iload_n hx hb dX4_farthestHouse_38 rfl (lv_at hl 1 rfl) ?_
          obtain ⟨g_39, h⟩ := of_guard h
          refine x_iald F hW 19 rfl g_39 dX4_farthestHouse_39 ?_
          obtain ⟨x_40, e_x_40, h⟩ := of_nm h
          refine x_topi e_x_40 ?_
          refine lv_istore_n (lv' := [(2, .int x_40), (1, .int v3_11), (3, .int v3_11), (0, .ref (q 0))]) hx hb dX4_farthestHouse_40 rfl hl (by decide) rfl (fun ls hl => ?_)
          refine lv_iinc (v := (v3_11 + (1 : Int32))) (lv' := [(3, .int (v3_11 + (1 : Int32))), (2, .int x_40), (1, .int v3_11), (0, .ref (q 0))]) hx hb dX4_farthestHouse_41 hl (k := 2) rfl rfl (by decide) rfl (fun ls hl => ?_)
          refine lv_goto (tgt := 11) hx hb dX4_farthestHouse_44 (by decide) ?_
          exact ih0 (v3_11 + (1 : Int32)) x_40 v3_11 w_11 _ _ _ h hW (lv_sub hl [0, 1, 2, 3] rfl)
  exact L0 200 (0 : Int32) (0 : Int32) (-9 : Int32) p_1 _ _ _ h hW (lv_sub hl [0, 1, 2, 3] rfl)
def f_X4_burntIn (w : TW) (x1 : Int32) : Option (Int32 × TW) :=
  Option.bind (f_X1_become w.2.1 w.1) fun p_8 =>
    Option.bind (f_X1_passNights p_8 x1) fun p_16 =>
    Option.bind (f_X1_allWicks w.1) fun p_23 =>
    Option.bind (f_X1_allWicks p_16) fun p_30 =>
    some ((p_23 - p_30), (w.1, p_16, w.2.2.1, w.2.2.2.1, w.2.2.2.2.1, w.2.2.2.2.2.1, w.2.2.2.2.2.2))
abbrev rmX4_burntIn : Room := { frames := 4, cells := 0, slots := 0, locals := 87 }
set_option maxRecDepth 100000 in
set_option maxHeartbeats 4000000 in
theorem c_X4_burntIn (l : Launch) (G : EnT) (q : Nat → Nat) (w : TW) (x1 : Int32) (o : Int32 × TW) (h : f_X4_burntIn w x1 = some o) : Mi l yX4_burntIn rmX4_burntIn cX4_burntIn 2 (some .int) G false [.ref (q 0), .int x1] (cTW G q w) o.1 (cTW G q o.2) := by
  refine Mi_of (by decide) (Nat.le_of_ble_eq_true rfl) ?_
  intro p e s m below meth c A0 F hr hW ls hl
  obtain ⟨hx, hb, hml, hown, hts, hK, hNW, hlocks, hA, hSX⟩ := id F
  have hl : lv_has ls 2 [(0, .ref (q 0)), (1, .int x1)] := hl
  have hW : Wd G A0 s (cTW G q w) s.heap [] := hW
  show W p l e rmX4_burntIn s m ([.ref (q 0), .int x1] : List Value).toArray below meth c s.heap [] 0 0 (Qi below G (cTW G q o.2) o.1 A0 ([.ref (q 0), .int x1] : List Value).toArray s) (F0 m 0 ls [])
  refine lv_aload_n hx hb dX4_burntIn_0 rfl (lv_at hl 0 rfl) ?_
  refine x_get F hW 0 rfl fa_X4_18 rfl dX4_burntIn_1 ?_
  refine lv_aload_n hx hb dX4_burntIn_4 rfl (lv_at hl 0 rfl) ?_
  refine x_get F hW 0 rfl fa_X4_12 rfl dX4_burntIn_5 ?_
  obtain ⟨p_8, hc_8, h⟩ := of_bind h
  refine x_Vv (av := [.ref (q 7), .ref (q 1)]) (As := [.ref (q 1)]) F hW (c_X1_become l G (fun i => q (i + 7)) w.2.1 (fun i => q (i + 1)) w.1 _ hc_8) [7, 8, 9, 10, 11, 12, 1, 2, 3, 4, 5, 6] rfl rfl (by intro q; cases q) cv_X4_41 rfl ⟨_, rfl, rfl⟩ rfl rfl rfl hl (Nat.le_of_ble_eq_true rfl) ⟨Nat.le_of_ble_eq_true rfl, Nat.le_of_ble_eq_true rfl⟩ ⟨rfl, rfl⟩ ⟨Nat.le_of_ble_eq_true rfl, Nat.le_of_ble_eq_true rfl⟩ dX4_burntIn_8 rfl [none, some 6, some 7, some 8, some 9, some 10, some 11, some 0, some 1, some 2, some 3, some 4, some 5, none, none, none, none, none, none, none, none, none] rfl (ws' := cTW G q (w.1, p_8, w.2.2.1, w.2.2.2.1, w.2.2.2.2.1, w.2.2.2.2.2.1, w.2.2.2.2.2.2)) rfl (fun H locs hW => ?_)
  refine lv_aload_n hx hb dX4_burntIn_11 rfl (lv_at hl 0 rfl) ?_
  refine x_get F hW 0 rfl fa_X4_18 rfl dX4_burntIn_12 ?_
  refine lv_iload_n hx hb dX4_burntIn_15 rfl (lv_at hl 1 rfl) ?_
  obtain ⟨p_16, hc_16, h⟩ := of_bind h
  refine x_Vv (av := [.ref (q 7), .int x1]) (As := [.int x1]) F hW (c_X1_passNights l G (fun i => q (i + 7)) p_8 x1 _ hc_16) [7, 8, 9, 10, 11, 12] rfl rfl (by intro q; cases q) cv_X4_67 rfl ⟨_, rfl, rfl⟩ rfl rfl rfl hl (Nat.le_of_ble_eq_true rfl) ⟨Nat.le_of_ble_eq_true rfl, Nat.le_of_ble_eq_true rfl⟩ ⟨rfl, rfl⟩ ⟨Nat.le_of_ble_eq_true rfl, Nat.le_of_ble_eq_true rfl⟩ dX4_burntIn_16 rfl [none, none, none, none, none, none, none, some 0, some 1, some 2, some 3, some 4, some 5, none, none, none, none, none, none, none, none, none] rfl (ws' := cTW G q (w.1, p_16, w.2.2.1, w.2.2.2.1, w.2.2.2.2.1, w.2.2.2.2.2.1, w.2.2.2.2.2.2)) rfl (fun H locs hW => ?_)
  refine lv_aload_n hx hb dX4_burntIn_19 rfl (lv_at hl 0 rfl) ?_
  refine x_get F hW 0 rfl fa_X4_12 rfl dX4_burntIn_20 ?_
  obtain ⟨p_23, hc_23, h⟩ := of_bind h
  refine x_Vi (av := [.ref (q 1)]) (As := []) F hW (c_X1_allWicks l G (fun i => q (i + 1)) w.1 _ hc_23) [1, 2, 3, 4, 5, 6] rfl rfl (by intro q; cases q) cv_X4_158 rfl ⟨_, rfl, rfl⟩ rfl rfl rfl hl (Nat.le_of_ble_eq_true rfl) ⟨Nat.le_of_ble_eq_true rfl, Nat.le_of_ble_eq_true rfl⟩ ⟨rfl, rfl⟩ ⟨Nat.le_of_ble_eq_true rfl, Nat.le_of_ble_eq_true rfl⟩ dX4_burntIn_23 rfl [none, some 0, some 1, some 2, some 3, some 4, some 5, none, none, none, none, none, none, none, none, none, none, none, none, none, none, none] rfl (ws' := cTW G q (w.1, p_16, w.2.2.1, w.2.2.2.1, w.2.2.2.2.1, w.2.2.2.2.2.1, w.2.2.2.2.2.2)) rfl (fun H locs hW => ?_)
  refine lv_aload_n hx hb dX4_burntIn_26 rfl (lv_at hl 0 rfl) ?_
  refine x_get F hW 0 rfl fa_X4_18 rfl dX4_burntIn_27 ?_
  obtain ⟨p_30, hc_30, h⟩ := of_bind h
  refine x_Vi (av := [.ref (q 7)]) (As := []) F hW (c_X1_allWicks l G (fun i => q (i + 7)) p_16 _ hc_30) [7, 8, 9, 10, 11, 12] rfl rfl (by intro q; cases q) cv_X4_158 rfl ⟨_, rfl, rfl⟩ rfl rfl rfl hl (Nat.le_of_ble_eq_true rfl) ⟨Nat.le_of_ble_eq_true rfl, Nat.le_of_ble_eq_true rfl⟩ ⟨rfl, rfl⟩ ⟨Nat.le_of_ble_eq_true rfl, Nat.le_of_ble_eq_true rfl⟩ dX4_burntIn_30 rfl [none, none, none, none, none, none, none, some 0, some 1, some 2, some 3, some 4, some 5, none, none, none, none, none, none, none, none, none] rfl (ws' := cTW G q (w.1, p_16, w.2.2.1, w.2.2.2.1, w.2.2.2.2.1, w.2.2.2.2.2.1, w.2.2.2.2.2.2)) rfl (fun H locs hW => ?_)
  refine lv_isub hx hb dX4_burntIn_33 ?_
  obtain rfl := Option.some.inj h
  exact x_reti F hr hW rfl dX4_burntIn_34
def f_X4_bestForAWick_16 (x1 : Int32) : Nat → Int32 → Int32 → Int32 → TW → Option (Int32 × TW)
  | 0, _, _, _, _ => none
  | n0 + 1, v4_16, v3_16, v2_16, w_16 =>
    if w_16.1.2.2.2.2.2.1 ≤ v4_16 then
    some (v3_16, w_16)
    else
    Option.bind (f_X1_become w_16.2.1 w_16.1) fun p_36 =>
    Option.bind (f_X1_addWicks p_36 v4_16 (1 : Int32)) fun p_46 =>
    Option.bind (f_X4_hangTogether (w_16.1, p_46.2, w_16.2.2.1, w_16.2.2.2.1, w_16.2.2.2.2.1, w_16.2.2.2.2.2.1, w_16.2.2.2.2.2.2) x1) fun p_52 =>
    nm p_52.1 fun x_55 =>
    if x_55 ≤ v2_16 then
    f_X4_bestForAWick_16 x1 n0 (v4_16 + (1 : Int32)) v3_16 v2_16 p_52.2
    else
    f_X4_bestForAWick_16 x1 n0 (v4_16 + (1 : Int32)) v4_16 x_55 p_52.2
def f_X4_bestForAWick (w : TW) (x1 : Int32) : Option (Int32 × TW) :=
  Option.bind (f_X4_begin w) fun p_1 =>
    Option.bind (f_X4_hangTogether p_1 x1) fun p_6 =>
    nm p_6.1 fun x_9 =>
    f_X4_bestForAWick_16 x1 200 (0 : Int32) (-9 : Int32) x_9 p_6.2
abbrev rmX4_bestForAWick : Room := { frames := 4, cells := 0, slots := 0, locals := 105 }
set_option maxRecDepth 100000 in
set_option maxHeartbeats 4000000 in
theorem c_X4_bestForAWick (l : Launch) (G : EnT) (q : Nat → Nat) (w : TW) (x1 : Int32) (o : Int32 × TW) (h : f_X4_bestForAWick w x1 = some o) : Mi l yX4_bestForAWick rmX4_bestForAWick cX4_bestForAWick 6 (some .int) G false [.ref (q 0), .int x1] (cTW G q w) o.1 (cTW G q o.2) := by
  refine Mi_of (by decide) (Nat.le_of_ble_eq_true rfl) ?_
  intro p e s m below meth c A0 F hr hW ls hl
  obtain ⟨hx, hb, hml, hown, hts, hK, hNW, hlocks, hA, hSX⟩ := id F
  have hl : lv_has ls 6 [(0, .ref (q 0)), (1, .int x1)] := hl
  have hW : Wd G A0 s (cTW G q w) s.heap [] := hW
  show W p l e rmX4_bestForAWick s m ([.ref (q 0), .int x1] : List Value).toArray below meth c s.heap [] 0 0 (Qi below G (cTW G q o.2) o.1 A0 ([.ref (q 0), .int x1] : List Value).toArray s) (F0 m 0 ls [])
  refine lv_aload_n hx hb dX4_bestForAWick_0 rfl (lv_at hl 0 rfl) ?_
  obtain ⟨p_1, hc_1, h⟩ := of_bind h
  refine x_Vv (av := [.ref (q 0)]) (As := []) F hW (c_X4_begin l G q w _ hc_1) [0, 1, 2, 3, 4, 5, 6, 7, 8, 9, 10, 11, 12, 13, 14, 15, 16, 17, 18, 19, 20, 21] rfl rfl (by intro q; cases q) cv_X4_71 rfl ⟨_, rfl, rfl⟩ rfl rfl rfl hl (Nat.le_of_ble_eq_true rfl) ⟨Nat.le_of_ble_eq_true rfl, Nat.le_of_ble_eq_true rfl⟩ ⟨rfl, rfl⟩ ⟨Nat.le_of_ble_eq_true rfl, Nat.le_of_ble_eq_true rfl⟩ dX4_bestForAWick_1 rfl [some 0, some 1, some 2, some 3, some 4, some 5, some 6, some 7, some 8, some 9, some 10, some 11, some 12, some 13, some 14, some 15, some 16, some 17, some 18, some 19, some 20, some 21] rfl (ws' := cTW G q p_1) rfl (fun H locs hW => ?_)
  refine lv_aload_n hx hb dX4_bestForAWick_4 rfl (lv_at hl 0 rfl) ?_
  refine lv_iload_n hx hb dX4_bestForAWick_5 rfl (lv_at hl 1 rfl) ?_
  obtain ⟨p_6, hc_6, h⟩ := of_bind h
  refine x_Vi (av := [.ref (q 0), .int x1]) (As := [.int x1]) F hW (c_X4_hangTogether l G q p_1 x1 _ hc_6) [0, 1, 2, 3, 4, 5, 6, 7, 8, 9, 10, 11, 12, 13, 14, 15, 16, 17, 18, 19, 20, 21] rfl rfl (by intro q; cases q) cv_X4_143 rfl ⟨_, rfl, rfl⟩ rfl rfl rfl hl (Nat.le_of_ble_eq_true rfl) ⟨Nat.le_of_ble_eq_true rfl, Nat.le_of_ble_eq_true rfl⟩ ⟨rfl, rfl⟩ ⟨Nat.le_of_ble_eq_true rfl, Nat.le_of_ble_eq_true rfl⟩ dX4_bestForAWick_6 rfl [some 0, some 1, some 2, some 3, some 4, some 5, some 6, some 7, some 8, some 9, some 10, some 11, some 12, some 13, some 14, some 15, some 16, some 17, some 18, some 19, some 20, some 21] rfl (ws' := cTW G q p_6.2) rfl (fun H locs hW => ?_)
  obtain ⟨x_9, e_x_9, h⟩ := of_nm h
  refine x_topi e_x_9 ?_
  refine lv_istore_n (lv' := [(2, .int x_9), (0, .ref (q 0)), (1, .int x1)]) hx hb dX4_bestForAWick_9 rfl hl (by decide) rfl (fun ls hl => ?_)
  refine lv_bipush (v := (-9 : Int32)) hx hb dX4_bestForAWick_10 (by decide) ?_
  refine lv_istore_n (lv' := [(3, .int (-9 : Int32)), (2, .int x_9), (0, .ref (q 0)), (1, .int x1)]) hx hb dX4_bestForAWick_12 rfl hl (by decide) rfl (fun ls hl => ?_)
  refine lv_iconst (v := (0 : Int32)) hx hb dX4_bestForAWick_13 (by decide) ?_
  refine lv_istore (lv' := [(4, .int (0 : Int32)), (3, .int (-9 : Int32)), (2, .int x_9), (0, .ref (q 0)), (1, .int x1)]) hx hb dX4_bestForAWick_14 hl (by decide) rfl (fun ls hl => ?_)
  have L0 : ∀ (n0 : Nat) (v4_16 : Int32) (v3_16 : Int32) (v2_16 : Int32) (w_16 : TW) (H : Heap) (locs : List Loc) (ls : Array Slot), f_X4_bestForAWick_16 x1 n0 v4_16 v3_16 v2_16 w_16 = some o → Wd G A0 s (cTW G q w_16) H locs → lv_has ls 6 [(4, .int v4_16), (3, .int v3_16), (2, .int v2_16), (0, .ref (q 0)), (1, .int x1)] → W p l e rmX4_bestForAWick s m ([.ref (q 0), .int x1] : List Value).toArray below meth c H locs 0 0 (Qi below G (cTW G q o.2) o.1 A0 ([.ref (q 0), .int x1] : List Value).toArray s) (F0 m 16 ls []) := by
    intro n0
    induction n0 with
    | zero => intro v4_16 v3_16 v2_16 w_16 H locs ls h; cases (show (none : Option (Int32 × TW)) = some o from h)
    | succ n0 ih0 =>
      intro v4_16 v3_16 v2_16 w_16 H locs ls h hW hl
      refine lv_iload hx hb dX4_bestForAWick_16 (lv_at hl 0 rfl) ?_
      refine lv_aload_n hx hb dX4_bestForAWick_18 rfl (lv_at hl 3 rfl) ?_
      refine x_get F hW 0 rfl fa_X4_12 rfl dX4_bestForAWick_19 ?_
      refine x_get F hW 1 rfl fa_X4_114 rfl dX4_bestForAWick_22 ?_
      obtain ⟨ht_25, hf_25⟩ := of_ite h
      refine lv_icmp_ge (tgt := 75) hx hb dX4_bestForAWick_25 (by decide) (fun c_25 => ?_) (fun c_25 => ?_)
      · have h := ht_25 c_25
        refine lv_iload_n hx hb dX4_bestForAWick_75 rfl (lv_at hl 1 rfl) ?_
        obtain rfl := Option.some.inj h
        exact x_reti F hr hW rfl dX4_bestForAWick_76
      · have h := hf_25 c_25
        refine lv_aload_n hx hb dX4_bestForAWick_28 rfl (lv_at hl 3 rfl) ?_
        refine x_get F hW 0 rfl fa_X4_18 rfl dX4_bestForAWick_29 ?_
        refine lv_aload_n hx hb dX4_bestForAWick_32 rfl (lv_at hl 3 rfl) ?_
        refine x_get F hW 0 rfl fa_X4_12 rfl dX4_bestForAWick_33 ?_
        obtain ⟨p_36, hc_36, h⟩ := of_bind h
        refine x_Vv (av := [.ref (q 7), .ref (q 1)]) (As := [.ref (q 1)]) F hW (c_X1_become l G (fun i => q (i + 7)) w_16.2.1 (fun i => q (i + 1)) w_16.1 _ hc_36) [7, 8, 9, 10, 11, 12, 1, 2, 3, 4, 5, 6] rfl rfl (by intro q; cases q) cv_X4_41 rfl ⟨_, rfl, rfl⟩ rfl rfl rfl hl (Nat.le_of_ble_eq_true rfl) ⟨Nat.le_of_ble_eq_true rfl, Nat.le_of_ble_eq_true rfl⟩ ⟨rfl, rfl⟩ ⟨Nat.le_of_ble_eq_true rfl, Nat.le_of_ble_eq_true rfl⟩ dX4_bestForAWick_36 rfl [none, some 6, some 7, some 8, some 9, some 10, some 11, some 0, some 1, some 2, some 3, some 4, some 5, none, none, none, none, none, none, none, none, none] rfl (ws' := cTW G q (w_16.1, p_36, w_16.2.2.1, w_16.2.2.2.1, w_16.2.2.2.2.1, w_16.2.2.2.2.2.1, w_16.2.2.2.2.2.2)) rfl (fun H locs hW => ?_)
        refine lv_aload_n hx hb dX4_bestForAWick_39 rfl (lv_at hl 3 rfl) ?_
        refine x_get F hW 0 rfl fa_X4_18 rfl dX4_bestForAWick_40 ?_
        refine lv_iload hx hb dX4_bestForAWick_43 (lv_at hl 0 rfl) ?_
        refine lv_iconst (v := (1 : Int32)) hx hb dX4_bestForAWick_45 (by decide) ?_
        obtain ⟨p_46, hc_46, h⟩ := of_bind h
        refine x_Vi (av := [.ref (q 7), .int v4_16, .int (1 : Int32)]) (As := [.int v4_16, .int (1 : Int32)]) F hW (c_X1_addWicks l G (fun i => q (i + 7)) p_36 v4_16 (1 : Int32) _ hc_46) [7, 8, 9, 10, 11, 12] rfl rfl (by intro q; cases q) cv_X4_161 rfl ⟨_, rfl, rfl⟩ rfl rfl rfl hl (Nat.le_of_ble_eq_true rfl) ⟨Nat.le_of_ble_eq_true rfl, Nat.le_of_ble_eq_true rfl⟩ ⟨rfl, rfl⟩ ⟨Nat.le_of_ble_eq_true rfl, Nat.le_of_ble_eq_true rfl⟩ dX4_bestForAWick_46 rfl [none, none, none, none, none, none, none, some 0, some 1, some 2, some 3, some 4, some 5, none, none, none, none, none, none, none, none, none] rfl (ws' := cTW G q (w_16.1, p_46.2, w_16.2.2.1, w_16.2.2.2.1, w_16.2.2.2.2.1, w_16.2.2.2.2.2.1, w_16.2.2.2.2.2.2)) rfl (fun H locs hW => ?_)
        refine lv_pop hx hb dX4_bestForAWick_49 rfl ?_
        refine lv_aload_n hx hb dX4_bestForAWick_50 rfl (lv_at hl 3 rfl) ?_
        refine lv_iload_n hx hb dX4_bestForAWick_51 rfl (lv_at hl 4 rfl) ?_
        obtain ⟨p_52, hc_52, h⟩ := of_bind h
        refine x_Vi (av := [.ref (q 0), .int x1]) (As := [.int x1]) F hW (c_X4_hangTogether l G q (w_16.1, p_46.2, w_16.2.2.1, w_16.2.2.2.1, w_16.2.2.2.2.1, w_16.2.2.2.2.2.1, w_16.2.2.2.2.2.2) x1 _ hc_52) [0, 1, 2, 3, 4, 5, 6, 7, 8, 9, 10, 11, 12, 13, 14, 15, 16, 17, 18, 19, 20, 21] rfl rfl (by intro q; cases q) cv_X4_143 rfl ⟨_, rfl, rfl⟩ rfl rfl rfl hl (Nat.le_of_ble_eq_true rfl) ⟨Nat.le_of_ble_eq_true rfl, Nat.le_of_ble_eq_true rfl⟩ ⟨rfl, rfl⟩ ⟨Nat.le_of_ble_eq_true rfl, Nat.le_of_ble_eq_true rfl⟩ dX4_bestForAWick_52 rfl [some 0, some 1, some 2, some 3, some 4, some 5, some 6, some 7, some 8, some 9, some 10, some 11, some 12, some 13, some 14, some 15, some 16, some 17, some 18, some 19, some 20, some 21] rfl (ws' := cTW G q p_52.2) rfl (fun H locs hW => ?_)
        obtain ⟨x_55, e_x_55, h⟩ := of_nm h
        refine x_topi e_x_55 ?_
        refine lv_istore (lv' := [(5, .int x_55), (4, .int v4_16), (3, .int v3_16), (2, .int v2_16), (0, .ref (q 0)), (1, .int x1)]) hx hb dX4_bestForAWick_55 hl (by decide) rfl (fun ls hl => ?_)
        refine lv_iload hx hb dX4_bestForAWick_57 (lv_at hl 0 rfl) ?_
        refine lv_iload_n hx hb dX4_bestForAWick_59 rfl (lv_at hl 3 rfl) ?_
        obtain ⟨ht_60, hf_60⟩ := of_ite h
        refine lv_icmp_le (tgt := 69) hx hb dX4_bestForAWick_60 (by decide) (fun c_60 => ?_) (fun c_60 => ?_)
        · have h := ht_60 c_60
          refine lv_iinc (v := (v4_16 + (1 : Int32))) (lv' := [(4, .int (v4_16 + (1 : Int32))), (5, .int x_55), (3, .int v3_16), (2, .int v2_16), (0, .ref (q 0)), (1, .int x1)]) hx hb dX4_bestForAWick_69 hl (k := 1) rfl rfl (by decide) rfl (fun ls hl => ?_)
          refine lv_goto (tgt := 16) hx hb dX4_bestForAWick_72 (by decide) ?_
          exact ih0 (v4_16 + (1 : Int32)) v3_16 v2_16 p_52.2 _ _ _ h hW (lv_sub hl [0, 2, 3, 4, 5] rfl)
        · have h := hf_60 c_60
          refine lv_iload hx hb dX4_bestForAWick_63 (lv_at hl 1 rfl) ?_
          refine lv_istore_n (lv' := [(3, .int v4_16), (5, .int x_55), (4, .int v4_16), (2, .int v2_16), (0, .ref (q 0)), (1, .int x1)]) hx hb dX4_bestForAWick_65 rfl hl (by decide) rfl (fun ls hl => ?_)
          refine lv_iload hx hb dX4_bestForAWick_66 (lv_at hl 1 rfl) ?_
          refine lv_istore_n (lv' := [(2, .int x_55), (3, .int v4_16), (5, .int x_55), (4, .int v4_16), (0, .ref (q 0)), (1, .int x1)]) hx hb dX4_bestForAWick_68 rfl hl (by decide) rfl (fun ls hl => ?_)
          refine lv_iinc (v := (v4_16 + (1 : Int32))) (lv' := [(4, .int (v4_16 + (1 : Int32))), (2, .int x_55), (3, .int v4_16), (5, .int x_55), (0, .ref (q 0)), (1, .int x1)]) hx hb dX4_bestForAWick_69 hl (k := 3) rfl rfl (by decide) rfl (fun ls hl => ?_)
          refine lv_goto (tgt := 16) hx hb dX4_bestForAWick_72 (by decide) ?_
          exact ih0 (v4_16 + (1 : Int32)) v4_16 x_55 p_52.2 _ _ _ h hW (lv_sub hl [0, 2, 1, 4, 5] rfl)
  exact L0 200 (0 : Int32) (-9 : Int32) x_9 p_6.2 _ _ _ h hW (lv_sub hl [0, 1, 2, 3, 4] rfl)
def f_X4_mostHanging_8 (x1 : Int32) : Nat → Int32 → Int32 → TW → Option (Int32 × TW)
  | 0, _, _, _ => none
  | n0 + 1, v3_8, v2_8, w_8 =>
    if x1 < v3_8 then
    some (v2_8, w_8)
    else
    Option.bind (f_X4_hangers w_8) fun p_15 =>
    Option.bind (f_J6_bitCount_0f7a4 p_15) fun p_18 =>
    nm (maxI v2_8 p_18) fun x_24 =>
    Option.bind (f_X1_passNight w_8.2.1) fun p_29 =>
    f_X4_mostHanging_8 x1 n0 (v3_8 + (1 : Int32)) x_24 (w_8.1, p_29, w_8.2.2.1, w_8.2.2.2.1, w_8.2.2.2.2.1, w_8.2.2.2.2.2.1, w_8.2.2.2.2.2.2)
def f_X4_mostHanging (w : TW) (x1 : Int32) : Option (Int32 × TW) :=
  Option.bind (f_X4_begin w) fun p_1 =>
    f_X4_mostHanging_8 x1 200 (0 : Int32) (0 : Int32) p_1
abbrev rmX4_mostHanging : Room := { frames := 4, cells := 0, slots := 0, locals := 105 }
set_option maxRecDepth 100000 in
set_option maxHeartbeats 4000000 in
theorem c_X4_mostHanging (l : Launch) (G : EnT) (q : Nat → Nat) (w : TW) (x1 : Int32) (o : Int32 × TW) (h : f_X4_mostHanging w x1 = some o) : Mi l yX4_mostHanging rmX4_mostHanging cX4_mostHanging 4 (some .int) G false [.ref (q 0), .int x1] (cTW G q w) o.1 (cTW G q o.2) := by
  refine Mi_of (by decide) (Nat.le_of_ble_eq_true rfl) ?_
  intro p e s m below meth c A0 F hr hW ls hl
  obtain ⟨hx, hb, hml, hown, hts, hK, hNW, hlocks, hA, hSX⟩ := id F
  have hl : lv_has ls 4 [(0, .ref (q 0)), (1, .int x1)] := hl
  have hW : Wd G A0 s (cTW G q w) s.heap [] := hW
  show W p l e rmX4_mostHanging s m ([.ref (q 0), .int x1] : List Value).toArray below meth c s.heap [] 0 0 (Qi below G (cTW G q o.2) o.1 A0 ([.ref (q 0), .int x1] : List Value).toArray s) (F0 m 0 ls [])
  refine lv_aload_n hx hb dX4_mostHanging_0 rfl (lv_at hl 0 rfl) ?_
  obtain ⟨p_1, hc_1, h⟩ := of_bind h
  refine x_Vv (av := [.ref (q 0)]) (As := []) F hW (c_X4_begin l G q w _ hc_1) [0, 1, 2, 3, 4, 5, 6, 7, 8, 9, 10, 11, 12, 13, 14, 15, 16, 17, 18, 19, 20, 21] rfl rfl (by intro q; cases q) cv_X4_71 rfl ⟨_, rfl, rfl⟩ rfl rfl rfl hl (Nat.le_of_ble_eq_true rfl) ⟨Nat.le_of_ble_eq_true rfl, Nat.le_of_ble_eq_true rfl⟩ ⟨rfl, rfl⟩ ⟨Nat.le_of_ble_eq_true rfl, Nat.le_of_ble_eq_true rfl⟩ dX4_mostHanging_1 rfl [some 0, some 1, some 2, some 3, some 4, some 5, some 6, some 7, some 8, some 9, some 10, some 11, some 12, some 13, some 14, some 15, some 16, some 17, some 18, some 19, some 20, some 21] rfl (ws' := cTW G q p_1) rfl (fun H locs hW => ?_)
  refine lv_iconst (v := (0 : Int32)) hx hb dX4_mostHanging_4 (by decide) ?_
  refine lv_istore_n (lv' := [(2, .int (0 : Int32)), (0, .ref (q 0)), (1, .int x1)]) hx hb dX4_mostHanging_5 rfl hl (by decide) rfl (fun ls hl => ?_)
  refine lv_iconst (v := (0 : Int32)) hx hb dX4_mostHanging_6 (by decide) ?_
  refine lv_istore_n (lv' := [(3, .int (0 : Int32)), (2, .int (0 : Int32)), (0, .ref (q 0)), (1, .int x1)]) hx hb dX4_mostHanging_7 rfl hl (by decide) rfl (fun ls hl => ?_)
  have L0 : ∀ (n0 : Nat) (v3_8 : Int32) (v2_8 : Int32) (w_8 : TW) (H : Heap) (locs : List Loc) (ls : Array Slot), f_X4_mostHanging_8 x1 n0 v3_8 v2_8 w_8 = some o → Wd G A0 s (cTW G q w_8) H locs → lv_has ls 4 [(3, .int v3_8), (2, .int v2_8), (0, .ref (q 0)), (1, .int x1)] → W p l e rmX4_mostHanging s m ([.ref (q 0), .int x1] : List Value).toArray below meth c H locs 0 0 (Qi below G (cTW G q o.2) o.1 A0 ([.ref (q 0), .int x1] : List Value).toArray s) (F0 m 8 ls []) := by
    intro n0
    induction n0 with
    | zero => intro v3_8 v2_8 w_8 H locs ls h; cases (show (none : Option (Int32 × TW)) = some o from h)
    | succ n0 ih0 =>
      intro v3_8 v2_8 w_8 H locs ls h hW hl
      refine lv_iload_n hx hb dX4_mostHanging_8 rfl (lv_at hl 0 rfl) ?_
      refine lv_iload_n hx hb dX4_mostHanging_9 rfl (lv_at hl 3 rfl) ?_
      obtain ⟨ht_10, hf_10⟩ := of_ite h
      refine lv_icmp_gt (tgt := 38) hx hb dX4_mostHanging_10 (by decide) (fun c_10 => ?_) (fun c_10 => ?_)
      · have h := ht_10 c_10
        refine lv_iload_n hx hb dX4_mostHanging_38 rfl (lv_at hl 1 rfl) ?_
        obtain rfl := Option.some.inj h
        exact x_reti F hr hW rfl dX4_mostHanging_39
      · have h := hf_10 c_10
        refine lv_iload_n hx hb dX4_mostHanging_13 rfl (lv_at hl 1 rfl) ?_
        refine lv_aload_n hx hb dX4_mostHanging_14 rfl (lv_at hl 2 rfl) ?_
        obtain ⟨p_15, hc_15, h⟩ := of_bind h
        refine x_Vi (av := [.ref (q 0)]) (As := []) F hW (c_X4_hangers l G q w_8 _ hc_15) [0, 1, 2, 3, 4, 5, 6, 7, 8, 9, 10, 11, 12, 13, 14, 15, 16, 17, 18, 19, 20, 21] rfl rfl (by intro q; cases q) cv_X4_74 rfl ⟨_, rfl, rfl⟩ rfl rfl rfl hl (Nat.le_of_ble_eq_true rfl) ⟨Nat.le_of_ble_eq_true rfl, Nat.le_of_ble_eq_true rfl⟩ ⟨rfl, rfl⟩ ⟨Nat.le_of_ble_eq_true rfl, Nat.le_of_ble_eq_true rfl⟩ dX4_mostHanging_15 rfl [some 0, some 1, some 2, some 3, some 4, some 5, some 6, some 7, some 8, some 9, some 10, some 11, some 12, some 13, some 14, some 15, some 16, some 17, some 18, some 19, some 20, some 21] rfl (ws' := cTW G q w_8) rfl (fun H locs hW => ?_)
        obtain ⟨p_18, hc_18, h⟩ := of_bind h
        refine x_Si (av := [.int p_15]) F hW (c_J6_bitCount_0f7a4 l G p_15 _ hc_18) [] rfl rfl (by intro q; cases q) cs_X4_59 rfl rfl hl (Nat.le_of_ble_eq_true rfl) ⟨Nat.le_of_ble_eq_true rfl, Nat.le_of_ble_eq_true rfl⟩ ⟨rfl, rfl⟩ ⟨Nat.le_of_ble_eq_true rfl, Nat.le_of_ble_eq_true rfl⟩ dX4_mostHanging_18 rfl [none, none, none, none, none, none, none, none, none, none, none, none, none, none, none, none, none, none, none, none, none, none] rfl (ws' := cTW G q w_8) rfl (fun H locs hW => ?_)
        refine va_mmax hx hb (hml.trans hl.1.symm) hown (hts _ wd_737) (hts _ wd_286) (hts _ wd_11) (hts _ wd_287) (Nat.le_of_ble_eq_true rfl) (Nat.le_of_ble_eq_true rfl) (Nat.le_of_ble_eq_true rfl) (Nat.le_of_ble_eq_true rfl) dX4_mostHanging_21 ?_
        obtain ⟨x_24, e_x_24, h⟩ := of_nm h
        refine x_topi e_x_24 ?_
        refine lv_istore_n (lv' := [(2, .int x_24), (3, .int v3_8), (0, .ref (q 0)), (1, .int x1)]) hx hb dX4_mostHanging_24 rfl hl (by decide) rfl (fun ls hl => ?_)
        refine lv_aload_n hx hb dX4_mostHanging_25 rfl (lv_at hl 2 rfl) ?_
        refine x_get F hW 0 rfl fa_X4_18 rfl dX4_mostHanging_26 ?_
        obtain ⟨p_29, hc_29, h⟩ := of_bind h
        refine x_Vv (av := [.ref (q 7)]) (As := []) F hW (c_X1_passNight l G (fun i => q (i + 7)) w_8.2.1 _ hc_29) [7, 8, 9, 10, 11, 12] rfl rfl (by intro q; cases q) cv_X4_64 rfl ⟨_, rfl, rfl⟩ rfl rfl rfl hl (Nat.le_of_ble_eq_true rfl) ⟨Nat.le_of_ble_eq_true rfl, Nat.le_of_ble_eq_true rfl⟩ ⟨rfl, rfl⟩ ⟨Nat.le_of_ble_eq_true rfl, Nat.le_of_ble_eq_true rfl⟩ dX4_mostHanging_29 rfl [none, none, none, none, none, none, none, some 0, some 1, some 2, some 3, some 4, some 5, none, none, none, none, none, none, none, none, none] rfl (ws' := cTW G q (w_8.1, p_29, w_8.2.2.1, w_8.2.2.2.1, w_8.2.2.2.2.1, w_8.2.2.2.2.2.1, w_8.2.2.2.2.2.2)) rfl (fun H locs hW => ?_)
        refine lv_iinc (v := (v3_8 + (1 : Int32))) (lv' := [(3, .int (v3_8 + (1 : Int32))), (2, .int x_24), (0, .ref (q 0)), (1, .int x1)]) hx hb dX4_mostHanging_32 hl (k := 1) rfl rfl (by decide) rfl (fun ls hl => ?_)
        refine lv_goto (tgt := 8) hx hb dX4_mostHanging_35 (by decide) ?_
        exact ih0 (v3_8 + (1 : Int32)) x_24 (w_8.1, p_29, w_8.2.2.1, w_8.2.2.2.1, w_8.2.2.2.2.1, w_8.2.2.2.2.2.1, w_8.2.2.2.2.2.2) _ _ _ h hW (lv_sub hl [0, 1, 2, 3] rfl)
  exact L0 200 (0 : Int32) (0 : Int32) p_1 _ _ _ h hW (lv_sub hl [0, 1, 2, 3] rfl)
def f_X4_leastFogOfNobody_13 : Nat → Int32 → TW → Option (Int32 × TW)
  | 0, _, _ => none
  | n0 + 1, v1_13, w_13 =>
    if (9 : Int32) < v1_13 then
    some ((-9 : Int32), w_13)
    else
    Option.bind (f_X3_lookOver w_13.2.2.1 (w_13.2.1.1, w_13.2.1.2.1, w_13.2.1.2.2.1, w_13.2.1.2.2.2.1, w_13.2.1.2.2.2.2.1, w_13.2.1.2.2.2.2.2.1, w_13.2.1.2.2.2.2.2.2.1, v1_13, w_13.2.1.2.2.2.2.2.2.2.2)) fun p_35 =>
    Option.bind (f_X4_hangers (w_13.1, (w_13.2.1.1, w_13.2.1.2.1, w_13.2.1.2.2.1, w_13.2.1.2.2.2.1, w_13.2.1.2.2.2.2.1, w_13.2.1.2.2.2.2.2.1, w_13.2.1.2.2.2.2.2.2.1, v1_13, w_13.2.1.2.2.2.2.2.2.2.2), p_35, w_13.2.2.2.1, w_13.2.2.2.2.1, w_13.2.2.2.2.2.1, w_13.2.2.2.2.2.2)) fun p_39 =>
    if p_39 = 0 then
    some (v1_13, (w_13.1, (w_13.2.1.1, w_13.2.1.2.1, w_13.2.1.2.2.1, w_13.2.1.2.2.2.1, w_13.2.1.2.2.2.2.1, w_13.2.1.2.2.2.2.2.1, w_13.2.1.2.2.2.2.2.2.1, v1_13, w_13.2.1.2.2.2.2.2.2.2.2), p_35, w_13.2.2.2.1, w_13.2.2.2.2.1, w_13.2.2.2.2.2.1, w_13.2.2.2.2.2.2))
    else
    f_X4_leastFogOfNobody_13 n0 (v1_13 + (1 : Int32)) (w_13.1, (w_13.2.1.1, w_13.2.1.2.1, w_13.2.1.2.2.1, w_13.2.1.2.2.2.1, w_13.2.1.2.2.2.2.1, w_13.2.1.2.2.2.2.2.1, w_13.2.1.2.2.2.2.2.2.1, v1_13, w_13.2.1.2.2.2.2.2.2.2.2), p_35, w_13.2.2.2.1, w_13.2.2.2.2.1, w_13.2.2.2.2.2.1, w_13.2.2.2.2.2.2)
def f_X4_leastFogOfNobody (w : TW) : Option (Int32 × TW) :=
  Option.bind (f_X1_become w.2.1 w.1) fun p_8 =>
    f_X4_leastFogOfNobody_13 200 (0 : Int32) (w.1, p_8, w.2.2.1, w.2.2.2.1, w.2.2.2.2.1, w.2.2.2.2.2.1, w.2.2.2.2.2.2)
abbrev rmX4_leastFogOfNobody : Room := { frames := 4, cells := 0, slots := 0, locals := 99 }
set_option maxRecDepth 100000 in
set_option maxHeartbeats 4000000 in
theorem c_X4_leastFogOfNobody (l : Launch) (G : EnT) (q : Nat → Nat) (w : TW) (o : Int32 × TW) (h : f_X4_leastFogOfNobody w = some o) : Mi l yX4_leastFogOfNobody rmX4_leastFogOfNobody cX4_leastFogOfNobody 2 (some .int) G false [.ref (q 0)] (cTW G q w) o.1 (cTW G q o.2) := by
  refine Mi_of (by decide) (Nat.le_of_ble_eq_true rfl) ?_
  intro p e s m below meth c A0 F hr hW ls hl
  obtain ⟨hx, hb, hml, hown, hts, hK, hNW, hlocks, hA, hSX⟩ := id F
  have hl : lv_has ls 2 [(0, .ref (q 0))] := hl
  have hW : Wd G A0 s (cTW G q w) s.heap [] := hW
  show W p l e rmX4_leastFogOfNobody s m ([.ref (q 0)] : List Value).toArray below meth c s.heap [] 0 0 (Qi below G (cTW G q o.2) o.1 A0 ([.ref (q 0)] : List Value).toArray s) (F0 m 0 ls [])
  refine lv_aload_n hx hb dX4_leastFogOfNobody_0 rfl (lv_at hl 0 rfl) ?_
  refine x_get F hW 0 rfl fa_X4_18 rfl dX4_leastFogOfNobody_1 ?_
  refine lv_aload_n hx hb dX4_leastFogOfNobody_4 rfl (lv_at hl 0 rfl) ?_
  refine x_get F hW 0 rfl fa_X4_12 rfl dX4_leastFogOfNobody_5 ?_
  obtain ⟨p_8, hc_8, h⟩ := of_bind h
  refine x_Vv (av := [.ref (q 7), .ref (q 1)]) (As := [.ref (q 1)]) F hW (c_X1_become l G (fun i => q (i + 7)) w.2.1 (fun i => q (i + 1)) w.1 _ hc_8) [7, 8, 9, 10, 11, 12, 1, 2, 3, 4, 5, 6] rfl rfl (by intro q; cases q) cv_X4_41 rfl ⟨_, rfl, rfl⟩ rfl rfl rfl hl (Nat.le_of_ble_eq_true rfl) ⟨Nat.le_of_ble_eq_true rfl, Nat.le_of_ble_eq_true rfl⟩ ⟨rfl, rfl⟩ ⟨Nat.le_of_ble_eq_true rfl, Nat.le_of_ble_eq_true rfl⟩ dX4_leastFogOfNobody_8 rfl [none, some 6, some 7, some 8, some 9, some 10, some 11, some 0, some 1, some 2, some 3, some 4, some 5, none, none, none, none, none, none, none, none, none] rfl (ws' := cTW G q (w.1, p_8, w.2.2.1, w.2.2.2.1, w.2.2.2.2.1, w.2.2.2.2.2.1, w.2.2.2.2.2.2)) rfl (fun H locs hW => ?_)
  refine lv_iconst (v := (0 : Int32)) hx hb dX4_leastFogOfNobody_11 (by decide) ?_
  refine lv_istore_n (lv' := [(1, .int (0 : Int32)), (0, .ref (q 0))]) hx hb dX4_leastFogOfNobody_12 rfl hl (by decide) rfl (fun ls hl => ?_)
  have L0 : ∀ (n0 : Nat) (v1_13 : Int32) (w_13 : TW) (H : Heap) (locs : List Loc) (ls : Array Slot), f_X4_leastFogOfNobody_13 n0 v1_13 w_13 = some o → Wd G A0 s (cTW G q w_13) H locs → lv_has ls 2 [(1, .int v1_13), (0, .ref (q 0))] → W p l e rmX4_leastFogOfNobody s m ([.ref (q 0)] : List Value).toArray below meth c H locs 0 0 (Qi below G (cTW G q o.2) o.1 A0 ([.ref (q 0)] : List Value).toArray s) (F0 m 13 ls []) := by
    intro n0
    induction n0 with
    | zero => intro v1_13 w_13 H locs ls h; cases (show (none : Option (Int32 × TW)) = some o from h)
    | succ n0 ih0 =>
      intro v1_13 w_13 H locs ls h hW hl
      refine lv_iload_n hx hb dX4_leastFogOfNobody_13 rfl (lv_at hl 0 rfl) ?_
      refine lv_bipush (v := (9 : Int32)) hx hb dX4_leastFogOfNobody_14 (by decide) ?_
      obtain ⟨ht_16, hf_16⟩ := of_ite h
      refine lv_icmp_gt (tgt := 53) hx hb dX4_leastFogOfNobody_16 (by decide) (fun c_16 => ?_) (fun c_16 => ?_)
      · have h := ht_16 c_16
        refine lv_bipush (v := (-9 : Int32)) hx hb dX4_leastFogOfNobody_53 (by decide) ?_
        obtain rfl := Option.some.inj h
        exact x_reti F hr hW rfl dX4_leastFogOfNobody_55
      · have h := hf_16 c_16
        refine lv_aload_n hx hb dX4_leastFogOfNobody_19 rfl (lv_at hl 1 rfl) ?_
        refine x_get F hW 0 rfl fa_X4_18 rfl dX4_leastFogOfNobody_20 ?_
        refine lv_iload_n hx hb dX4_leastFogOfNobody_23 rfl (lv_at hl 0 rfl) ?_
        refine x_put F hW 7 rfl fp_X4_169 rfl rfl (Nat.le_of_ble_eq_true rfl) (ws' := cTW G q (w_13.1, (w_13.2.1.1, w_13.2.1.2.1, w_13.2.1.2.2.1, w_13.2.1.2.2.2.1, w_13.2.1.2.2.2.2.1, w_13.2.1.2.2.2.2.2.1, w_13.2.1.2.2.2.2.2.2.1, v1_13, w_13.2.1.2.2.2.2.2.2.2.2), w_13.2.2.1, w_13.2.2.2.1, w_13.2.2.2.2.1, w_13.2.2.2.2.2.1, w_13.2.2.2.2.2.2)) rfl dX4_leastFogOfNobody_24 (fun H locs hW => ?_)
        refine lv_aload_n hx hb dX4_leastFogOfNobody_27 rfl (lv_at hl 1 rfl) ?_
        refine x_get F hW 0 rfl fa_X4_24 rfl dX4_leastFogOfNobody_28 ?_
        refine lv_aload_n hx hb dX4_leastFogOfNobody_31 rfl (lv_at hl 1 rfl) ?_
        refine x_get F hW 0 rfl fa_X4_18 rfl dX4_leastFogOfNobody_32 ?_
        obtain ⟨p_35, hc_35, h⟩ := of_bind h
        refine x_Vv (av := [.ref (q 13), .ref (q 7)]) (As := [.ref (q 7)]) F hW (c_X3_lookOver l G (fun i => q (i + 13)) w_13.2.2.1 (fun i => q (i + 7)) (w_13.2.1.1, w_13.2.1.2.1, w_13.2.1.2.2.1, w_13.2.1.2.2.2.1, w_13.2.1.2.2.2.2.1, w_13.2.1.2.2.2.2.2.1, w_13.2.1.2.2.2.2.2.2.1, v1_13, w_13.2.1.2.2.2.2.2.2.2.2) _ hc_35) [13, 14, 15, 7, 8, 9, 10, 11, 12] rfl rfl (by intro q; cases q) cv_X4_131 rfl ⟨_, rfl, rfl⟩ rfl rfl rfl hl (Nat.le_of_ble_eq_true rfl) ⟨Nat.le_of_ble_eq_true rfl, Nat.le_of_ble_eq_true rfl⟩ ⟨rfl, rfl⟩ ⟨Nat.le_of_ble_eq_true rfl, Nat.le_of_ble_eq_true rfl⟩ dX4_leastFogOfNobody_35 rfl [none, none, none, none, none, none, none, some 3, some 4, some 5, some 6, some 7, some 8, some 0, some 1, some 2, none, none, none, none, none, none] rfl (ws' := cTW G q (w_13.1, (w_13.2.1.1, w_13.2.1.2.1, w_13.2.1.2.2.1, w_13.2.1.2.2.2.1, w_13.2.1.2.2.2.2.1, w_13.2.1.2.2.2.2.2.1, w_13.2.1.2.2.2.2.2.2.1, v1_13, w_13.2.1.2.2.2.2.2.2.2.2), p_35, w_13.2.2.2.1, w_13.2.2.2.2.1, w_13.2.2.2.2.2.1, w_13.2.2.2.2.2.2)) rfl (fun H locs hW => ?_)
        refine lv_aload_n hx hb dX4_leastFogOfNobody_38 rfl (lv_at hl 1 rfl) ?_
        obtain ⟨p_39, hc_39, h⟩ := of_bind h
        refine x_Vi (av := [.ref (q 0)]) (As := []) F hW (c_X4_hangers l G q (w_13.1, (w_13.2.1.1, w_13.2.1.2.1, w_13.2.1.2.2.1, w_13.2.1.2.2.2.1, w_13.2.1.2.2.2.2.1, w_13.2.1.2.2.2.2.2.1, w_13.2.1.2.2.2.2.2.2.1, v1_13, w_13.2.1.2.2.2.2.2.2.2.2), p_35, w_13.2.2.2.1, w_13.2.2.2.2.1, w_13.2.2.2.2.2.1, w_13.2.2.2.2.2.2) _ hc_39) [0, 1, 2, 3, 4, 5, 6, 7, 8, 9, 10, 11, 12, 13, 14, 15, 16, 17, 18, 19, 20, 21] rfl rfl (by intro q; cases q) cv_X4_74 rfl ⟨_, rfl, rfl⟩ rfl rfl rfl hl (Nat.le_of_ble_eq_true rfl) ⟨Nat.le_of_ble_eq_true rfl, Nat.le_of_ble_eq_true rfl⟩ ⟨rfl, rfl⟩ ⟨Nat.le_of_ble_eq_true rfl, Nat.le_of_ble_eq_true rfl⟩ dX4_leastFogOfNobody_39 rfl [some 0, some 1, some 2, some 3, some 4, some 5, some 6, some 7, some 8, some 9, some 10, some 11, some 12, some 13, some 14, some 15, some 16, some 17, some 18, some 19, some 20, some 21] rfl (ws' := cTW G q (w_13.1, (w_13.2.1.1, w_13.2.1.2.1, w_13.2.1.2.2.1, w_13.2.1.2.2.2.1, w_13.2.1.2.2.2.2.1, w_13.2.1.2.2.2.2.2.1, w_13.2.1.2.2.2.2.2.2.1, v1_13, w_13.2.1.2.2.2.2.2.2.2.2), p_35, w_13.2.2.2.1, w_13.2.2.2.2.1, w_13.2.2.2.2.2.1, w_13.2.2.2.2.2.2)) rfl (fun H locs hW => ?_)
        obtain ⟨ht_42, hf_42⟩ := of_ite h
        refine lv_if_ne (tgt := 47) hx hb dX4_leastFogOfNobody_42 (by decide) (fun c_42 => ?_) (fun c_42 => ?_)
        · have h := hf_42 c_42
          refine lv_iinc (v := (v1_13 + (1 : Int32))) (lv' := [(1, .int (v1_13 + (1 : Int32))), (0, .ref (q 0))]) hx hb dX4_leastFogOfNobody_47 hl (k := 0) rfl rfl (by decide) rfl (fun ls hl => ?_)
          refine lv_goto (tgt := 13) hx hb dX4_leastFogOfNobody_50 (by decide) ?_
          exact ih0 (v1_13 + (1 : Int32)) (w_13.1, (w_13.2.1.1, w_13.2.1.2.1, w_13.2.1.2.2.1, w_13.2.1.2.2.2.1, w_13.2.1.2.2.2.2.1, w_13.2.1.2.2.2.2.2.1, w_13.2.1.2.2.2.2.2.2.1, v1_13, w_13.2.1.2.2.2.2.2.2.2.2), p_35, w_13.2.2.2.1, w_13.2.2.2.2.1, w_13.2.2.2.2.2.1, w_13.2.2.2.2.2.2) _ _ _ h hW (lv_sub hl [0, 1] rfl)
        · have h := ht_42 c_42
          refine lv_iload_n hx hb dX4_leastFogOfNobody_45 rfl (lv_at hl 0 rfl) ?_
          obtain rfl := Option.some.inj h
          exact x_reti F hr hW rfl dX4_leastFogOfNobody_46
  exact L0 200 (0 : Int32) (w.1, p_8, w.2.2.1, w.2.2.2.1, w.2.2.2.2.1, w.2.2.2.2.2.1, w.2.2.2.2.2.2) _ _ _ h hW (lv_sub hl [0, 1] rfl)
def f_X4_weighPair_110 (k1 : Int32 → TW → Option (TW)) (x1 : Int32) (x3 : Int32) (v4_56 : Int32) (v5_56 : Int32) (v7_110 : Int32) (v6_110 : Int32) (t0_110 : Int32) (t1_110 : Int32) (t2_110 : Int32) (w_110 : TW) : Option (TW) :=
  if inR t2_110 4 then
    if inR x1 4 then
    Option.bind (f_X5_has v7_110 x3) fun p_125 =>
    if p_125 = 0 then
    if inR x1 4 then
    Option.bind (f_X1_passNight w_110.2.1) fun p_145 =>
    k1 (v6_110 + (1 : Int32)) (w_110.1, p_145, w_110.2.2.1, w_110.2.2.2.1, w_110.2.2.2.2.1, (upd w_110.2.2.2.2.2.1 t2_110.toNatClampNeg (t1_110 + (t0_110 - v4_56))), (upd w_110.2.2.2.2.2.2 x1.toNatClampNeg ((w_110.2.2.2.2.2.2 x1.toNatClampNeg) + ((0 : Int32) - v5_56))))
    else none
    else
    if inR x1 4 then
    Option.bind (f_X1_passNight w_110.2.1) fun p_145_2 =>
    k1 (v6_110 + (1 : Int32)) (w_110.1, p_145_2, w_110.2.2.1, w_110.2.2.2.1, w_110.2.2.2.2.1, (upd w_110.2.2.2.2.2.1 t2_110.toNatClampNeg (t1_110 + (t0_110 - v4_56))), (upd w_110.2.2.2.2.2.2 x1.toNatClampNeg ((w_110.2.2.2.2.2.2 x1.toNatClampNeg) + ((2 : Int32) - v5_56))))
    else none
    else none
    else none
def f_X4_weighPair_76 (x1 : Int32) (x2 : Int32) (x3 : Int32) (v4_56 : Int32) (v5_56 : Int32) : Nat → Int32 → TW → Option (TW)
  | 0, _, _ => none
  | n1 + 1, v6_76, w_76 =>
    if (6 : Int32) ≤ v6_76 then
    some w_76
    else
    Option.bind (f_X4_hangers w_76) fun p_84 =>
    if inR x1 4 then
    Option.bind (f_X5_has p_84 x2) fun p_99 =>
    if p_99 = 0 then
    f_X4_weighPair_110 (fun a0 a1 => f_X4_weighPair_76 x1 x2 x3 v4_56 v5_56 n1 a0 a1) x1 x3 v4_56 v5_56 p_84 v6_76 (0 : Int32) (w_76.2.2.2.2.2.1 x1.toNatClampNeg) x1 w_76
    else
    f_X4_weighPair_110 (fun a0 a1 => f_X4_weighPair_76 x1 x2 x3 v4_56 v5_56 n1 a0 a1) x1 x3 v4_56 v5_56 p_84 v6_76 (2 : Int32) (w_76.2.2.2.2.2.1 x1.toNatClampNeg) x1 w_76
    else none
def f_X4_weighPair_56 (x1 : Int32) (x2 : Int32) (x3 : Int32) (v5_56 : Int32) (v4_56 : Int32) (t0_56 : Int32) (t1_56 : Int32) (w_56 : TW) : Option (TW) :=
  Option.bind (f_X1_putCalled w_56.2.1 t1_56 t0_56) fun p_56 =>
    if inR x1 4 then
    if inR x1 4 then
    f_X4_weighPair_76 x1 x2 x3 v4_56 v5_56 200 (0 : Int32) (w_56.1, p_56, w_56.2.2.1, w_56.2.2.2.1, w_56.2.2.2.2.1, (upd w_56.2.2.2.2.2.1 x1.toNatClampNeg (0 : Int32)), (upd w_56.2.2.2.2.2.2 x1.toNatClampNeg (0 : Int32)))
    else none
    else none
def f_X4_weighPair_37 (x3 : Int32) (x1 : Int32) (x2 : Int32) (v5_37 : Int32) (v4_37 : Int32) (t0_37 : Int32) (t1_37 : Int32) (w_37 : TW) : Option (TW) :=
  Option.bind (f_X1_putCalled w_37.2.1 t1_37 t0_37) fun p_37 =>
    if v5_37 = (1 : Int32) then
    f_X4_weighPair_56 x1 x2 x3 v5_37 v4_37 (1 : Int32) x3 (w_37.1, p_37, w_37.2.2.1, w_37.2.2.2.1, w_37.2.2.2.2.1, w_37.2.2.2.2.2.1, w_37.2.2.2.2.2.2)
    else
    f_X4_weighPair_56 x1 x2 x3 v5_37 v4_37 (0 : Int32) x3 (w_37.1, p_37, w_37.2.2.1, w_37.2.2.2.1, w_37.2.2.2.2.1, w_37.2.2.2.2.2.1, w_37.2.2.2.2.2.2)
def f_X4_weighPair (w : TW) (x1 : Int32) (x2 : Int32) (x3 : Int32) : Option (TW) :=
  nm (x1 / (2 : Int32)) fun x_3 =>
    nm (remI x1 (2 : Int32)) fun x_8 =>
    Option.bind (f_X1_become w.2.1 w.1) fun p_18 =>
    if x_3 = (1 : Int32) then
    f_X4_weighPair_37 x3 x1 x2 x_8 x_3 (1 : Int32) x2 (w.1, p_18, w.2.2.1, w.2.2.2.1, w.2.2.2.2.1, w.2.2.2.2.2.1, w.2.2.2.2.2.2)
    else
    f_X4_weighPair_37 x3 x1 x2 x_8 x_3 (0 : Int32) x2 (w.1, p_18, w.2.2.1, w.2.2.2.1, w.2.2.2.2.1, w.2.2.2.2.2.1, w.2.2.2.2.2.2)
abbrev rmX4_weighPair : Room := { frames := 4, cells := 0, slots := 0, locals := 89 }
set_option maxRecDepth 100000 in
set_option maxHeartbeats 4000000 in
theorem c_X4_weighPair (l : Launch) (G : EnT) (q : Nat → Nat) (w : TW) (x1 : Int32) (x2 : Int32) (x3 : Int32) (o : TW) (h : f_X4_weighPair w x1 x2 x3 = some o) : Mv l yX4_weighPair rmX4_weighPair cX4_weighPair 8 none G false [.ref (q 0), .int x1, .int x2, .int x3] (cTW G q w) (cTW G q o) := by
  refine Mv_of (by decide) (Nat.le_of_ble_eq_true rfl) ?_
  intro p e s m below meth c A0 F hr hW ls hl
  obtain ⟨hx, hb, hml, hown, hts, hK, hNW, hlocks, hA, hSX⟩ := id F
  have hl : lv_has ls 8 [(0, .ref (q 0)), (1, .int x1), (2, .int x2), (3, .int x3)] := hl
  have hW : Wd G A0 s (cTW G q w) s.heap [] := hW
  show W p l e rmX4_weighPair s m ([.ref (q 0), .int x1, .int x2, .int x3] : List Value).toArray below meth c s.heap [] 0 0 (Qv below G (cTW G q o) A0 ([.ref (q 0), .int x1, .int x2, .int x3] : List Value).toArray s) (F0 m 0 ls [])
  have J0 : ∀ (v5_56 : Int32) (v4_56 : Int32) (t0_56 : Int32) (t1_56 : Int32) (w_56 : TW) (H : Heap) (locs : List Loc) (ls : Array Slot), f_X4_weighPair_56 x1 x2 x3 v5_56 v4_56 t0_56 t1_56 w_56 = some o → Wd G A0 s (cTW G q w_56) H locs → lv_has ls 8 [(5, .int v5_56), (4, .int v4_56), (0, .ref (q 0)), (1, .int x1), (2, .int x2), (3, .int x3)] → W p l e rmX4_weighPair s m ([.ref (q 0), .int x1, .int x2, .int x3] : List Value).toArray below meth c H locs 0 0 (Qv below G (cTW G q o) A0 ([.ref (q 0), .int x1, .int x2, .int x3] : List Value).toArray s) (F0 m 56 ls [.int t0_56, .int t1_56, .ref (q 7)]) := by
    intro v5_56 v4_56 t0_56 t1_56 w_56 H locs ls h hW hl
    obtain ⟨p_56, hc_56, h⟩ := of_bind h
    refine x_Vv (av := [.ref (q 7), .int t1_56, .int t0_56]) (As := [.int t1_56, .int t0_56]) F hW (c_X1_putCalled l G (fun i => q (i + 7)) w_56.2.1 t1_56 t0_56 _ hc_56) [7, 8, 9, 10, 11, 12] rfl rfl (by intro q; cases q) cv_X4_176 rfl ⟨_, rfl, rfl⟩ rfl rfl rfl hl (Nat.le_of_ble_eq_true rfl) ⟨Nat.le_of_ble_eq_true rfl, Nat.le_of_ble_eq_true rfl⟩ ⟨rfl, rfl⟩ ⟨Nat.le_of_ble_eq_true rfl, Nat.le_of_ble_eq_true rfl⟩ dX4_weighPair_56 rfl [none, none, none, none, none, none, none, some 0, some 1, some 2, some 3, some 4, some 5, none, none, none, none, none, none, none, none, none] rfl (ws' := cTW G q (w_56.1, p_56, w_56.2.2.1, w_56.2.2.2.1, w_56.2.2.2.2.1, w_56.2.2.2.2.2.1, w_56.2.2.2.2.2.2)) rfl (fun H locs hW => ?_)
    refine lv_aload_n hx hb dX4_weighPair_59 rfl (lv_at hl 2 rfl) ?_
    refine x_get F hW 0 rfl fa_X4_35 rfl dX4_weighPair_60 ?_
    refine lv_iload_n hx hb dX4_weighPair_63 rfl (lv_at hl 3 rfl) ?_
    refine lv_iconst (v := (0 : Int32)) hx hb dX4_weighPair_64 (by decide) ?_
    obtain ⟨g_65, h⟩ := of_guard h
    refine x_iast F hW 20 rfl g_65 (ws' := cTW G q (w_56.1, p_56, w_56.2.2.1, w_56.2.2.2.1, w_56.2.2.2.2.1, (upd w_56.2.2.2.2.2.1 x1.toNatClampNeg (0 : Int32)), w_56.2.2.2.2.2.2)) rfl dX4_weighPair_65 (fun H locs hW => ?_)
    refine lv_aload_n hx hb dX4_weighPair_66 rfl (lv_at hl 2 rfl) ?_
    refine x_get F hW 0 rfl fa_X4_38 rfl dX4_weighPair_67 ?_
    refine lv_iload_n hx hb dX4_weighPair_70 rfl (lv_at hl 3 rfl) ?_
    refine lv_iconst (v := (0 : Int32)) hx hb dX4_weighPair_71 (by decide) ?_
    obtain ⟨g_72, h⟩ := of_guard h
    refine x_iast F hW 21 rfl g_72 (ws' := cTW G q (w_56.1, p_56, w_56.2.2.1, w_56.2.2.2.1, w_56.2.2.2.2.1, (upd w_56.2.2.2.2.2.1 x1.toNatClampNeg (0 : Int32)), (upd w_56.2.2.2.2.2.2 x1.toNatClampNeg (0 : Int32)))) rfl dX4_weighPair_72 (fun H locs hW => ?_)
    refine lv_iconst (v := (0 : Int32)) hx hb dX4_weighPair_73 (by decide) ?_
    refine lv_istore (lv' := [(6, .int (0 : Int32)), (5, .int v5_56), (4, .int v4_56), (0, .ref (q 0)), (1, .int x1), (2, .int x2), (3, .int x3)]) hx hb dX4_weighPair_74 hl (by decide) rfl (fun ls hl => ?_)
    have L1 : ∀ (n1 : Nat) (v6_76 : Int32) (w_76 : TW) (H : Heap) (locs : List Loc) (ls : Array Slot), f_X4_weighPair_76 x1 x2 x3 v4_56 v5_56 n1 v6_76 w_76 = some o → Wd G A0 s (cTW G q w_76) H locs → lv_has ls 8 [(6, .int v6_76), (5, .int v5_56), (4, .int v4_56), (0, .ref (q 0)), (1, .int x1), (2, .int x2), (3, .int x3)] → W p l e rmX4_weighPair s m ([.ref (q 0), .int x1, .int x2, .int x3] : List Value).toArray below meth c H locs 0 0 (Qv below G (cTW G q o) A0 ([.ref (q 0), .int x1, .int x2, .int x3] : List Value).toArray s) (F0 m 76 ls []) := by
      intro n1
      induction n1 with
      | zero => intro v6_76 w_76 H locs ls h; cases (show (none : Option (TW)) = some o from h)
      | succ n1 ih1 =>
        intro v6_76 w_76 H locs ls h hW hl
        have J2 : ∀ (v7_110 : Int32) (v6_110 : Int32) (t0_110 : Int32) (t1_110 : Int32) (t2_110 : Int32) (w_110 : TW) (H : Heap) (locs : List Loc) (ls : Array Slot), f_X4_weighPair_110 (fun a0 a1 => f_X4_weighPair_76 x1 x2 x3 v4_56 v5_56 n1 a0 a1) x1 x3 v4_56 v5_56 v7_110 v6_110 t0_110 t1_110 t2_110 w_110 = some o → Wd G A0 s (cTW G q w_110) H locs → lv_has ls 8 [(7, .int v7_110), (6, .int v6_110), (5, .int v5_56), (4, .int v4_56), (0, .ref (q 0)), (1, .int x1), (2, .int x2), (3, .int x3)] → W p l e rmX4_weighPair s m ([.ref (q 0), .int x1, .int x2, .int x3] : List Value).toArray below meth c H locs 0 0 (Qv below G (cTW G q o) A0 ([.ref (q 0), .int x1, .int x2, .int x3] : List Value).toArray s) (F0 m 110 ls [.int t0_110, .int t1_110, .int t2_110, .ref (q 20)]) := by
          intro v7_110 v6_110 t0_110 t1_110 t2_110 w_110 H locs ls h hW hl
          refine lv_iload hx hb dX4_weighPair_110 (lv_at hl 3 rfl) ?_
          refine lv_isub hx hb dX4_weighPair_112 ?_
          refine lv_iadd hx hb dX4_weighPair_113 ?_
          obtain ⟨g_114, h⟩ := of_guard h
          refine x_iast F hW 20 rfl g_114 (ws' := cTW G q (w_110.1, w_110.2.1, w_110.2.2.1, w_110.2.2.2.1, w_110.2.2.2.2.1, (upd w_110.2.2.2.2.2.1 t2_110.toNatClampNeg (t1_110 + (t0_110 - v4_56))), w_110.2.2.2.2.2.2)) rfl dX4_weighPair_114 (fun H locs hW => ?_)
          refine lv_aload_n hx hb dX4_weighPair_115 rfl (lv_at hl 4 rfl) ?_
          refine x_get F hW 0 rfl fa_X4_38 rfl dX4_weighPair_116 ?_
          refine lv_iload_n hx hb dX4_weighPair_119 rfl (lv_at hl 5 rfl) ?_
          refine lv_dup2_11 hx hb dX4_weighPair_120 rfl rfl ?_
          obtain ⟨g_121, h⟩ := of_guard h
          refine x_iald F hW 21 rfl g_121 dX4_weighPair_121 ?_
          refine lv_iload hx hb dX4_weighPair_122 (lv_at hl 0 rfl) ?_
          refine lv_iload_n hx hb dX4_weighPair_124 rfl (lv_at hl 7 rfl) ?_
          obtain ⟨p_125, hc_125, h⟩ := of_bind h
          refine x_Ni (av := [.int v7_110, .int x3]) F hW (c_X5_has l G v7_110 x3 _ hc_125) [] rfl rfl (by intro q; cases q) cn_X4_80 rfl rfl hl (Nat.le_of_ble_eq_true rfl) ⟨Nat.le_of_ble_eq_true rfl, Nat.le_of_ble_eq_true rfl⟩ ⟨rfl, rfl⟩ ⟨Nat.le_of_ble_eq_true rfl, Nat.le_of_ble_eq_true rfl⟩ dX4_weighPair_125 rfl [none, none, none, none, none, none, none, none, none, none, none, none, none, none, none, none, none, none, none, none, none, none] rfl (ws' := cTW G q (w_110.1, w_110.2.1, w_110.2.2.1, w_110.2.2.2.1, w_110.2.2.2.2.1, (upd w_110.2.2.2.2.2.1 t2_110.toNatClampNeg (t1_110 + (t0_110 - v4_56))), w_110.2.2.2.2.2.2)) rfl (fun H locs hW => ?_)
          obtain ⟨ht_128, hf_128⟩ := of_ite h
          refine lv_if_eq (tgt := 135) hx hb dX4_weighPair_128 (by decide) (fun c_128 => ?_) (fun c_128 => ?_)
          · have h := ht_128 c_128
            refine lv_iconst (v := (0 : Int32)) hx hb dX4_weighPair_135 (by decide) ?_
            refine lv_iload hx hb dX4_weighPair_136 (lv_at hl 2 rfl) ?_
            refine lv_isub hx hb dX4_weighPair_138 ?_
            refine lv_iadd hx hb dX4_weighPair_139 ?_
            obtain ⟨g_140, h⟩ := of_guard h
            refine x_iast F hW 21 rfl g_140 (ws' := cTW G q (w_110.1, w_110.2.1, w_110.2.2.1, w_110.2.2.2.1, w_110.2.2.2.2.1, (upd w_110.2.2.2.2.2.1 t2_110.toNatClampNeg (t1_110 + (t0_110 - v4_56))), (upd w_110.2.2.2.2.2.2 x1.toNatClampNeg ((w_110.2.2.2.2.2.2 x1.toNatClampNeg) + ((0 : Int32) - v5_56))))) rfl dX4_weighPair_140 (fun H locs hW => ?_)
            refine lv_aload_n hx hb dX4_weighPair_141 rfl (lv_at hl 4 rfl) ?_
            refine x_get F hW 0 rfl fa_X4_18 rfl dX4_weighPair_142 ?_
            obtain ⟨p_145, hc_145, h⟩ := of_bind h
            refine x_Vv (av := [.ref (q 7)]) (As := []) F hW (c_X1_passNight l G (fun i => q (i + 7)) w_110.2.1 _ hc_145) [7, 8, 9, 10, 11, 12] rfl rfl (by intro q; cases q) cv_X4_64 rfl ⟨_, rfl, rfl⟩ rfl rfl rfl hl (Nat.le_of_ble_eq_true rfl) ⟨Nat.le_of_ble_eq_true rfl, Nat.le_of_ble_eq_true rfl⟩ ⟨rfl, rfl⟩ ⟨Nat.le_of_ble_eq_true rfl, Nat.le_of_ble_eq_true rfl⟩ dX4_weighPair_145 rfl [none, none, none, none, none, none, none, some 0, some 1, some 2, some 3, some 4, some 5, none, none, none, none, none, none, none, none, none] rfl (ws' := cTW G q (w_110.1, p_145, w_110.2.2.1, w_110.2.2.2.1, w_110.2.2.2.2.1, (upd w_110.2.2.2.2.2.1 t2_110.toNatClampNeg (t1_110 + (t0_110 - v4_56))), (upd w_110.2.2.2.2.2.2 x1.toNatClampNeg ((w_110.2.2.2.2.2.2 x1.toNatClampNeg) + ((0 : Int32) - v5_56))))) rfl (fun H locs hW => ?_)
            refine lv_iinc (v := (v6_110 + (1 : Int32))) (lv' := [(6, .int (v6_110 + (1 : Int32))), (7, .int v7_110), (5, .int v5_56), (4, .int v4_56), (0, .ref (q 0)), (1, .int x1), (2, .int x2), (3, .int x3)]) hx hb dX4_weighPair_148 hl (k := 1) rfl rfl (by decide) rfl (fun ls hl => ?_)
            refine lv_goto (tgt := 76) hx hb dX4_weighPair_151 (by decide) ?_
            exact ih1 (v6_110 + (1 : Int32)) (w_110.1, p_145, w_110.2.2.1, w_110.2.2.2.1, w_110.2.2.2.2.1, (upd w_110.2.2.2.2.2.1 t2_110.toNatClampNeg (t1_110 + (t0_110 - v4_56))), (upd w_110.2.2.2.2.2.2 x1.toNatClampNeg ((w_110.2.2.2.2.2.2 x1.toNatClampNeg) + ((0 : Int32) - v5_56)))) _ _ _ h hW (lv_sub hl [0, 2, 3, 4, 5, 6, 7] rfl)
          · have h := hf_128 c_128
            refine lv_iconst (v := (2 : Int32)) hx hb dX4_weighPair_131 (by decide) ?_
            refine lv_goto (tgt := 136) hx hb dX4_weighPair_132 (by decide) ?_
            refine lv_iload hx hb dX4_weighPair_136 (lv_at hl 2 rfl) ?_
            refine lv_isub hx hb dX4_weighPair_138 ?_
            refine lv_iadd hx hb dX4_weighPair_139 ?_
            obtain ⟨g_140, h⟩ := of_guard h
            refine x_iast F hW 21 rfl g_140 (ws' := cTW G q (w_110.1, w_110.2.1, w_110.2.2.1, w_110.2.2.2.1, w_110.2.2.2.2.1, (upd w_110.2.2.2.2.2.1 t2_110.toNatClampNeg (t1_110 + (t0_110 - v4_56))), (upd w_110.2.2.2.2.2.2 x1.toNatClampNeg ((w_110.2.2.2.2.2.2 x1.toNatClampNeg) + ((2 : Int32) - v5_56))))) rfl dX4_weighPair_140 (fun H locs hW => ?_)
            refine lv_aload_n hx hb dX4_weighPair_141 rfl (lv_at hl 4 rfl) ?_
            refine x_get F hW 0 rfl fa_X4_18 rfl dX4_weighPair_142 ?_
            obtain ⟨p_145_2, hc_145, h⟩ := of_bind h
            refine x_Vv (av := [.ref (q 7)]) (As := []) F hW (c_X1_passNight l G (fun i => q (i + 7)) w_110.2.1 _ hc_145) [7, 8, 9, 10, 11, 12] rfl rfl (by intro q; cases q) cv_X4_64 rfl ⟨_, rfl, rfl⟩ rfl rfl rfl hl (Nat.le_of_ble_eq_true rfl) ⟨Nat.le_of_ble_eq_true rfl, Nat.le_of_ble_eq_true rfl⟩ ⟨rfl, rfl⟩ ⟨Nat.le_of_ble_eq_true rfl, Nat.le_of_ble_eq_true rfl⟩ dX4_weighPair_145 rfl [none, none, none, none, none, none, none, some 0, some 1, some 2, some 3, some 4, some 5, none, none, none, none, none, none, none, none, none] rfl (ws' := cTW G q (w_110.1, p_145_2, w_110.2.2.1, w_110.2.2.2.1, w_110.2.2.2.2.1, (upd w_110.2.2.2.2.2.1 t2_110.toNatClampNeg (t1_110 + (t0_110 - v4_56))), (upd w_110.2.2.2.2.2.2 x1.toNatClampNeg ((w_110.2.2.2.2.2.2 x1.toNatClampNeg) + ((2 : Int32) - v5_56))))) rfl (fun H locs hW => ?_)
            refine lv_iinc (v := (v6_110 + (1 : Int32))) (lv' := [(6, .int (v6_110 + (1 : Int32))), (7, .int v7_110), (5, .int v5_56), (4, .int v4_56), (0, .ref (q 0)), (1, .int x1), (2, .int x2), (3, .int x3)]) hx hb dX4_weighPair_148 hl (k := 1) rfl rfl (by decide) rfl (fun ls hl => ?_)
            refine lv_goto (tgt := 76) hx hb dX4_weighPair_151 (by decide) ?_
            exact ih1 (v6_110 + (1 : Int32)) (w_110.1, p_145_2, w_110.2.2.1, w_110.2.2.2.1, w_110.2.2.2.2.1, (upd w_110.2.2.2.2.2.1 t2_110.toNatClampNeg (t1_110 + (t0_110 - v4_56))), (upd w_110.2.2.2.2.2.2 x1.toNatClampNeg ((w_110.2.2.2.2.2.2 x1.toNatClampNeg) + ((2 : Int32) - v5_56)))) _ _ _ h hW (lv_sub hl [0, 2, 3, 4, 5, 6, 7] rfl)
        refine lv_iload hx hb dX4_weighPair_76 (lv_at hl 0 rfl) ?_
        refine lv_bipush (v := (6 : Int32)) hx hb dX4_weighPair_78 (by decide) ?_
        obtain ⟨ht_80, hf_80⟩ := of_ite h
        refine lv_icmp_ge (tgt := 154) hx hb dX4_weighPair_80 (by decide) (fun c_80 => ?_) (fun c_80 => ?_)
        · have h := ht_80 c_80
          obtain rfl := Option.some.inj h
          exact x_retv F hr hW dX4_weighPair_154
        · have h := hf_80 c_80
          refine lv_aload_n hx hb dX4_weighPair_83 rfl (lv_at hl 3 rfl) ?_
          obtain ⟨p_84, hc_84, h⟩ := of_bind h
          refine x_Vi (av := [.ref (q 0)]) (As := []) F hW (c_X4_hangers l G q w_76 _ hc_84) [0, 1, 2, 3, 4, 5, 6, 7, 8, 9, 10, 11, 12, 13, 14, 15, 16, 17, 18, 19, 20, 21] rfl rfl (by intro q; cases q) cv_X4_74 rfl ⟨_, rfl, rfl⟩ rfl rfl rfl hl (Nat.le_of_ble_eq_true rfl) ⟨Nat.le_of_ble_eq_true rfl, Nat.le_of_ble_eq_true rfl⟩ ⟨rfl, rfl⟩ ⟨Nat.le_of_ble_eq_true rfl, Nat.le_of_ble_eq_true rfl⟩ dX4_weighPair_84 rfl [some 0, some 1, some 2, some 3, some 4, some 5, some 6, some 7, some 8, some 9, some 10, some 11, some 12, some 13, some 14, some 15, some 16, some 17, some 18, some 19, some 20, some 21] rfl (ws' := cTW G q w_76) rfl (fun H locs hW => ?_)
          refine lv_istore (lv' := [(7, .int p_84), (6, .int v6_76), (5, .int v5_56), (4, .int v4_56), (0, .ref (q 0)), (1, .int x1), (2, .int x2), (3, .int x3)]) hx hb dX4_weighPair_87 hl (by decide) rfl (fun ls hl => ?_)
          refine lv_aload_n hx hb dX4_weighPair_89 rfl (lv_at hl 4 rfl) ?_
          refine x_get F hW 0 rfl fa_X4_35 rfl dX4_weighPair_90 ?_
          refine lv_iload_n hx hb dX4_weighPair_93 rfl (lv_at hl 5 rfl) ?_
          refine lv_dup2_11 hx hb dX4_weighPair_94 rfl rfl ?_
          obtain ⟨g_95, h⟩ := of_guard h
          refine x_iald F hW 20 rfl g_95 dX4_weighPair_95 ?_
          refine lv_iload hx hb dX4_weighPair_96 (lv_at hl 0 rfl) ?_
          refine lv_iload_n hx hb dX4_weighPair_98 rfl (lv_at hl 6 rfl) ?_
          obtain ⟨p_99, hc_99, h⟩ := of_bind h
          refine x_Ni (av := [.int p_84, .int x2]) F hW (c_X5_has l G p_84 x2 _ hc_99) [] rfl rfl (by intro q; cases q) cn_X4_80 rfl rfl hl (Nat.le_of_ble_eq_true rfl) ⟨Nat.le_of_ble_eq_true rfl, Nat.le_of_ble_eq_true rfl⟩ ⟨rfl, rfl⟩ ⟨Nat.le_of_ble_eq_true rfl, Nat.le_of_ble_eq_true rfl⟩ dX4_weighPair_99 rfl [none, none, none, none, none, none, none, none, none, none, none, none, none, none, none, none, none, none, none, none, none, none] rfl (ws' := cTW G q w_76) rfl (fun H locs hW => ?_)
          obtain ⟨ht_102, hf_102⟩ := of_ite h
          refine lv_if_eq (tgt := 109) hx hb dX4_weighPair_102 (by decide) (fun c_102 => ?_) (fun c_102 => ?_)
          · have h := ht_102 c_102
            refine lv_iconst (v := (0 : Int32)) hx hb dX4_weighPair_109 (by decide) ?_
            exact J2 p_84 v6_76 (0 : Int32) (w_76.2.2.2.2.2.1 x1.toNatClampNeg) x1 w_76 _ _ _ h hW (lv_sub hl [0, 1, 2, 3, 4, 5, 6, 7] rfl)
          · have h := hf_102 c_102
            refine lv_iconst (v := (2 : Int32)) hx hb dX4_weighPair_105 (by decide) ?_
            refine lv_goto (tgt := 110) hx hb dX4_weighPair_106 (by decide) ?_
            exact J2 p_84 v6_76 (2 : Int32) (w_76.2.2.2.2.2.1 x1.toNatClampNeg) x1 w_76 _ _ _ h hW (lv_sub hl [0, 1, 2, 3, 4, 5, 6, 7] rfl)
    exact L1 200 (0 : Int32) (w_56.1, p_56, w_56.2.2.1, w_56.2.2.2.1, w_56.2.2.2.2.1, (upd w_56.2.2.2.2.2.1 x1.toNatClampNeg (0 : Int32)), (upd w_56.2.2.2.2.2.2 x1.toNatClampNeg (0 : Int32))) _ _ _ h hW (lv_sub hl [0, 1, 2, 3, 4, 5, 6] rfl)
  have J3 : ∀ (v5_37 : Int32) (v4_37 : Int32) (t0_37 : Int32) (t1_37 : Int32) (w_37 : TW) (H : Heap) (locs : List Loc) (ls : Array Slot), f_X4_weighPair_37 x3 x1 x2 v5_37 v4_37 t0_37 t1_37 w_37 = some o → Wd G A0 s (cTW G q w_37) H locs → lv_has ls 8 [(5, .int v5_37), (4, .int v4_37), (0, .ref (q 0)), (1, .int x1), (2, .int x2), (3, .int x3)] → W p l e rmX4_weighPair s m ([.ref (q 0), .int x1, .int x2, .int x3] : List Value).toArray below meth c H locs 0 0 (Qv below G (cTW G q o) A0 ([.ref (q 0), .int x1, .int x2, .int x3] : List Value).toArray s) (F0 m 37 ls [.int t0_37, .int t1_37, .ref (q 7)]) := by
    intro v5_37 v4_37 t0_37 t1_37 w_37 H locs ls h hW hl
    obtain ⟨p_37, hc_37, h⟩ := of_bind h
    refine x_Vv (av := [.ref (q 7), .int t1_37, .int t0_37]) (As := [.int t1_37, .int t0_37]) F hW (c_X1_putCalled l G (fun i => q (i + 7)) w_37.2.1 t1_37 t0_37 _ hc_37) [7, 8, 9, 10, 11, 12] rfl rfl (by intro q; cases q) cv_X4_176 rfl ⟨_, rfl, rfl⟩ rfl rfl rfl hl (Nat.le_of_ble_eq_true rfl) ⟨Nat.le_of_ble_eq_true rfl, Nat.le_of_ble_eq_true rfl⟩ ⟨rfl, rfl⟩ ⟨Nat.le_of_ble_eq_true rfl, Nat.le_of_ble_eq_true rfl⟩ dX4_weighPair_37 rfl [none, none, none, none, none, none, none, some 0, some 1, some 2, some 3, some 4, some 5, none, none, none, none, none, none, none, none, none] rfl (ws' := cTW G q (w_37.1, p_37, w_37.2.2.1, w_37.2.2.2.1, w_37.2.2.2.2.1, w_37.2.2.2.2.2.1, w_37.2.2.2.2.2.2)) rfl (fun H locs hW => ?_)
    refine lv_aload_n hx hb dX4_weighPair_40 rfl (lv_at hl 2 rfl) ?_
    refine x_get F hW 0 rfl fa_X4_18 rfl dX4_weighPair_41 ?_
    refine lv_iload_n hx hb dX4_weighPair_44 rfl (lv_at hl 5 rfl) ?_
    refine lv_iload hx hb dX4_weighPair_45 (lv_at hl 0 rfl) ?_
    refine lv_iconst (v := (1 : Int32)) hx hb dX4_weighPair_47 (by decide) ?_
    obtain ⟨ht_48, hf_48⟩ := of_ite h
    refine lv_icmp_ne (tgt := 55) hx hb dX4_weighPair_48 (by decide) (fun c_48 => ?_) (fun c_48 => ?_)
    · have h := hf_48 c_48
      refine lv_iconst (v := (0 : Int32)) hx hb dX4_weighPair_55 (by decide) ?_
      exact J0 v5_37 v4_37 (0 : Int32) x3 (w_37.1, p_37, w_37.2.2.1, w_37.2.2.2.1, w_37.2.2.2.2.1, w_37.2.2.2.2.2.1, w_37.2.2.2.2.2.2) _ _ _ h hW (lv_sub hl [0, 1, 2, 3, 4, 5] rfl)
    · have h := ht_48 c_48
      refine lv_iconst (v := (1 : Int32)) hx hb dX4_weighPair_51 (by decide) ?_
      refine lv_goto (tgt := 56) hx hb dX4_weighPair_52 (by decide) ?_
      exact J0 v5_37 v4_37 (1 : Int32) x3 (w_37.1, p_37, w_37.2.2.1, w_37.2.2.2.1, w_37.2.2.2.2.1, w_37.2.2.2.2.2.1, w_37.2.2.2.2.2.2) _ _ _ h hW (lv_sub hl [0, 1, 2, 3, 4, 5] rfl)
  refine lv_iload_n hx hb dX4_weighPair_0 rfl (lv_at hl 1 rfl) ?_
  refine lv_iconst (v := (2 : Int32)) hx hb dX4_weighPair_1 (by decide) ?_
  refine lv_idiv hx hb dX4_weighPair_2 (by decide) ?_
  obtain ⟨x_3, e_x_3, h⟩ := of_nm h
  refine x_topi e_x_3 ?_
  refine lv_istore (lv' := [(4, .int x_3), (0, .ref (q 0)), (1, .int x1), (2, .int x2), (3, .int x3)]) hx hb dX4_weighPair_3 hl (by decide) rfl (fun ls hl => ?_)
  refine lv_iload_n hx hb dX4_weighPair_5 rfl (lv_at hl 2 rfl) ?_
  refine lv_iconst (v := (2 : Int32)) hx hb dX4_weighPair_6 (by decide) ?_
  refine lv_irem hx hb dX4_weighPair_7 (by decide) ?_
  obtain ⟨x_8, e_x_8, h⟩ := of_nm h
  refine x_topi e_x_8 ?_
  refine lv_istore (lv' := [(5, .int x_8), (4, .int x_3), (0, .ref (q 0)), (1, .int x1), (2, .int x2), (3, .int x3)]) hx hb dX4_weighPair_8 hl (by decide) rfl (fun ls hl => ?_)
  refine lv_aload_n hx hb dX4_weighPair_10 rfl (lv_at hl 2 rfl) ?_
  refine x_get F hW 0 rfl fa_X4_18 rfl dX4_weighPair_11 ?_
  refine lv_aload_n hx hb dX4_weighPair_14 rfl (lv_at hl 2 rfl) ?_
  refine x_get F hW 0 rfl fa_X4_12 rfl dX4_weighPair_15 ?_
  obtain ⟨p_18, hc_18, h⟩ := of_bind h
  refine x_Vv (av := [.ref (q 7), .ref (q 1)]) (As := [.ref (q 1)]) F hW (c_X1_become l G (fun i => q (i + 7)) w.2.1 (fun i => q (i + 1)) w.1 _ hc_18) [7, 8, 9, 10, 11, 12, 1, 2, 3, 4, 5, 6] rfl rfl (by intro q; cases q) cv_X4_41 rfl ⟨_, rfl, rfl⟩ rfl rfl rfl hl (Nat.le_of_ble_eq_true rfl) ⟨Nat.le_of_ble_eq_true rfl, Nat.le_of_ble_eq_true rfl⟩ ⟨rfl, rfl⟩ ⟨Nat.le_of_ble_eq_true rfl, Nat.le_of_ble_eq_true rfl⟩ dX4_weighPair_18 rfl [none, some 6, some 7, some 8, some 9, some 10, some 11, some 0, some 1, some 2, some 3, some 4, some 5, none, none, none, none, none, none, none, none, none] rfl (ws' := cTW G q (w.1, p_18, w.2.2.1, w.2.2.2.1, w.2.2.2.2.1, w.2.2.2.2.2.1, w.2.2.2.2.2.2)) rfl (fun H locs hW => ?_)
  refine lv_aload_n hx hb dX4_weighPair_21 rfl (lv_at hl 2 rfl) ?_
  refine x_get F hW 0 rfl fa_X4_18 rfl dX4_weighPair_22 ?_
  refine lv_iload_n hx hb dX4_weighPair_25 rfl (lv_at hl 4 rfl) ?_
  refine lv_iload hx hb dX4_weighPair_26 (lv_at hl 1 rfl) ?_
  refine lv_iconst (v := (1 : Int32)) hx hb dX4_weighPair_28 (by decide) ?_
  obtain ⟨ht_29, hf_29⟩ := of_ite h
  refine lv_icmp_ne (tgt := 36) hx hb dX4_weighPair_29 (by decide) (fun c_29 => ?_) (fun c_29 => ?_)
  · have h := hf_29 c_29
    refine lv_iconst (v := (0 : Int32)) hx hb dX4_weighPair_36 (by decide) ?_
    exact J3 x_8 x_3 (0 : Int32) x2 (w.1, p_18, w.2.2.1, w.2.2.2.1, w.2.2.2.2.1, w.2.2.2.2.2.1, w.2.2.2.2.2.2) _ _ _ h hW (lv_sub hl [0, 1, 2, 3, 4, 5] rfl)
  · have h := ht_29 c_29
    refine lv_iconst (v := (1 : Int32)) hx hb dX4_weighPair_32 (by decide) ?_
    refine lv_goto (tgt := 37) hx hb dX4_weighPair_33 (by decide) ?_
    exact J3 x_8 x_3 (1 : Int32) x2 (w.1, p_18, w.2.2.1, w.2.2.2.1, w.2.2.2.2.1, w.2.2.2.2.2.1, w.2.2.2.2.2.2) _ _ _ h hW (lv_sub hl [0, 1, 2, 3, 4, 5] rfl)
