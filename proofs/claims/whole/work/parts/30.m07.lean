def f_X6_news (w : MW) (x1 : Int32) (x2 : Int32) : Option (Int32 × MW) :=
  Option.bind (f_X6_isHouse w x1) fun p_2 =>
    if p_2 = 0 then
    Option.bind (f_X6_no w (-1 : Int32)) fun p_10 =>
    some (p_10.1, p_10.2)
    else
    Option.bind (f_X6_isIn x2 (0 : Int32) (1 : Int32)) fun p_17 =>
    if p_17 = 0 then
    Option.bind (f_X6_no w (-2 : Int32)) fun p_26 =>
    some (p_26.1, p_26.2)
    else
    Option.bind (f_X6_brings w) fun p_31 =>
    if inR x1 7 then
    if (p_31.2.2.2.2.2.2.2.2.1 x1.toNatClampNeg) < (1000000000 : Int32) then
    if x2 = 0 then
    if inR x1 7 then
    some ((p_31.2.2.2.2.2.2.2.2.1 x1.toNatClampNeg), p_31)
    else none
    else
    Option.bind (f_X6_nextOf p_31 x1) fun p_63 =>
    some (p_63, p_31)
    else
    some ((-9 : Int32), p_31)
    else none
abbrev rmX6_news : Room := { frames := 6, cells := 0, slots := 0, locals := 139 }
set_option maxRecDepth 100000 in
set_option maxHeartbeats 4000000 in
theorem c_X6_news (l : Launch) (G : EnT) (q : Nat → Nat) (w : MW) (x1 : Int32) (x2 : Int32) (o : Int32 × MW) (h : f_X6_news w x1 x2 = some o) : Mi l yX6_news rmX6_news cX6_news 3 (some .int) G false [.ref (q 0), .int x1, .int x2] (cMW G q w) o.1 (cMW G q o.2) := by
  refine Mi_of (by decide) (Nat.le_of_ble_eq_true rfl) ?_
  intro p e s m below meth c A0 F hr hW ls hl
  obtain ⟨hx, hb, hml, hown, hts, hK, hNW, hlocks, hA, hSX⟩ := id F
  have hl : lv_has ls 3 [(0, .ref (q 0)), (1, .int x1), (2, .int x2)] := hl
  have hW : Wd G A0 s (cMW G q w) s.heap [] := hW
  show W p l e rmX6_news s m ([.ref (q 0), .int x1, .int x2] : List Value).toArray below meth c s.heap [] 0 0 (Qi below G (cMW G q o.2) o.1 A0 ([.ref (q 0), .int x1, .int x2] : List Value).toArray s) (F0 m 0 ls [])
  refine lv_aload_n hx hb dX6_news_0 rfl (lv_at hl 0 rfl) ?_
  refine lv_iload_n hx hb dX6_news_1 rfl (lv_at hl 1 rfl) ?_
  obtain ⟨p_2, hc_2, h⟩ := of_bind h
  refine x_Vi (av := [.ref (q 0), .int x1]) (As := [.int x1]) F hW (c_X6_isHouse l G q w x1 _ hc_2) [0, 1, 2, 3, 4, 5, 6, 7, 8, 9] rfl rfl (by intro q; cases q) cv_X6_122 rfl ⟨_, rfl, rfl⟩ rfl rfl rfl hl (Nat.le_of_ble_eq_true rfl) ⟨Nat.le_of_ble_eq_true rfl, Nat.le_of_ble_eq_true rfl⟩ ⟨rfl, rfl⟩ ⟨Nat.le_of_ble_eq_true rfl, Nat.le_of_ble_eq_true rfl⟩ dX6_news_2 rfl [some 0, some 1, some 2, some 3, some 4, some 5, some 6, some 7, some 8, some 9] rfl (ws' := cMW G q w) rfl (fun H locs hW => ?_)
  obtain ⟨ht_5, hf_5⟩ := of_ite h
  refine lv_if_ne (tgt := 14) hx hb dX6_news_5 (by decide) (fun c_5 => ?_) (fun c_5 => ?_)
  · have h := hf_5 c_5
    refine lv_iload_n hx hb dX6_news_14 rfl (lv_at hl 2 rfl) ?_
    refine lv_iconst (v := (0 : Int32)) hx hb dX6_news_15 (by decide) ?_
    refine lv_iconst (v := (1 : Int32)) hx hb dX6_news_16 (by decide) ?_
    obtain ⟨p_17, hc_17, h⟩ := of_bind h
    refine x_Si (av := [.int x2, .int (0 : Int32), .int (1 : Int32)]) F hW (c_X6_isIn l G x2 (0 : Int32) (1 : Int32) _ hc_17) [] rfl rfl (by intro q; cases q) cs_X6_43 rfl rfl hl (Nat.le_of_ble_eq_true rfl) ⟨Nat.le_of_ble_eq_true rfl, Nat.le_of_ble_eq_true rfl⟩ ⟨rfl, rfl⟩ ⟨Nat.le_of_ble_eq_true rfl, Nat.le_of_ble_eq_true rfl⟩ dX6_news_17 rfl [none, none, none, none, none, none, none, none, none, none] rfl (ws' := cMW G q w) rfl (fun H locs hW => ?_)
    obtain ⟨ht_20, hf_20⟩ := of_ite h
    refine lv_if_ne (tgt := 30) hx hb dX6_news_20 (by decide) (fun c_20 => ?_) (fun c_20 => ?_)
    · have h := hf_20 c_20
      refine lv_aload_n hx hb dX6_news_30 rfl (lv_at hl 0 rfl) ?_
      obtain ⟨p_31, hc_31, h⟩ := of_bind h
      refine x_Vv (av := [.ref (q 0)]) (As := []) F hW (c_X6_brings l G q w _ hc_31) [0, 1, 2, 3, 4, 5, 6, 7, 8, 9] rfl rfl (by intro q; cases q) cv_X6_170 rfl ⟨_, rfl, rfl⟩ rfl rfl rfl hl (Nat.le_of_ble_eq_true rfl) ⟨Nat.le_of_ble_eq_true rfl, Nat.le_of_ble_eq_true rfl⟩ ⟨rfl, rfl⟩ ⟨Nat.le_of_ble_eq_true rfl, Nat.le_of_ble_eq_true rfl⟩ dX6_news_31 rfl [some 0, some 1, some 2, some 3, some 4, some 5, some 6, some 7, some 8, some 9] rfl (ws' := cMW G q p_31) rfl (fun H locs hW => ?_)
      refine lv_aload_n hx hb dX6_news_34 rfl (lv_at hl 0 rfl) ?_
      refine x_get F hW 0 rfl fa_X6_34 rfl dX6_news_35 ?_
      refine lv_iload_n hx hb dX6_news_38 rfl (lv_at hl 1 rfl) ?_
      obtain ⟨g_39, h⟩ := of_guard h
      refine x_iald F hW 9 rfl g_39 dX6_news_39 ?_
      refine lv_ldc (v := (1000000000 : Int32)) hx hb hown (hts _ wd_1086) dX6_news_40 ?_
      obtain ⟨ht_42, hf_42⟩ := of_ite h
      refine lv_icmp_lt (tgt := 48) hx hb dX6_news_42 (by decide) (fun c_42 => ?_) (fun c_42 => ?_)
      · have h := ht_42 c_42
        refine lv_iload_n hx hb dX6_news_48 rfl (lv_at hl 2 rfl) ?_
        obtain ⟨ht_49, hf_49⟩ := of_ite h
        refine lv_if_ne (tgt := 61) hx hb dX6_news_49 (by decide) (fun c_49 => ?_) (fun c_49 => ?_)
        · have h := hf_49 c_49
          refine lv_aload_n hx hb dX6_news_61 rfl (lv_at hl 0 rfl) ?_
          refine lv_iload_n hx hb dX6_news_62 rfl (lv_at hl 1 rfl) ?_
          obtain ⟨p_63, hc_63, h⟩ := of_bind h
          refine x_Vi (av := [.ref (q 0), .int x1]) (As := [.int x1]) F hW (c_X6_nextOf l G q p_31 x1 _ hc_63) [0, 1, 2, 3, 4, 5, 6, 7, 8, 9] rfl rfl (by intro q; cases q) cv_X6_173 rfl ⟨_, rfl, rfl⟩ rfl rfl rfl hl (Nat.le_of_ble_eq_true rfl) ⟨Nat.le_of_ble_eq_true rfl, Nat.le_of_ble_eq_true rfl⟩ ⟨rfl, rfl⟩ ⟨Nat.le_of_ble_eq_true rfl, Nat.le_of_ble_eq_true rfl⟩ dX6_news_63 rfl [some 0, some 1, some 2, some 3, some 4, some 5, some 6, some 7, some 8, some 9] rfl (ws' := cMW G q p_31) rfl (fun H locs hW => ?_)
          obtain rfl := Option.some.inj h
          exact x_reti F hr hW rfl dX6_news_66
        · have h := ht_49 c_49
          refine lv_aload_n hx hb dX6_news_52 rfl (lv_at hl 0 rfl) ?_
          refine x_get F hW 0 rfl fa_X6_34 rfl dX6_news_53 ?_
          refine lv_iload_n hx hb dX6_news_56 rfl (lv_at hl 1 rfl) ?_
          obtain ⟨g_57, h⟩ := of_guard h
          refine x_iald F hW 9 rfl g_57 dX6_news_57 ?_
          refine lv_goto (tgt := 66) hx hb dX6_news_58 (by decide) ?_
          obtain rfl := Option.some.inj h
          exact x_reti F hr hW rfl dX6_news_66
      · have h := hf_42 c_42
        refine lv_bipush (v := (-9 : Int32)) hx hb dX6_news_45 (by decide) ?_
        obtain rfl := Option.some.inj h
        exact x_reti F hr hW rfl dX6_news_47
    · have h := ht_20 c_20
      refine lv_aload_n hx hb dX6_news_23 rfl (lv_at hl 0 rfl) ?_
      refine lv_bipush (v := (-2 : Int32)) hx hb dX6_news_24 (by decide) ?_
      obtain ⟨p_26, hc_26, h⟩ := of_bind h
      refine x_Vi (av := [.ref (q 0), .int (-2 : Int32)]) (As := [.int (-2 : Int32)]) F hW (c_X6_no l G q w (-2 : Int32) _ hc_26) [0, 1, 2, 3, 4, 5, 6, 7, 8, 9] rfl rfl (by intro q; cases q) cv_X6_39 rfl ⟨_, rfl, rfl⟩ rfl rfl rfl hl (Nat.le_of_ble_eq_true rfl) ⟨Nat.le_of_ble_eq_true rfl, Nat.le_of_ble_eq_true rfl⟩ ⟨rfl, rfl⟩ ⟨Nat.le_of_ble_eq_true rfl, Nat.le_of_ble_eq_true rfl⟩ dX6_news_26 rfl [some 0, some 1, some 2, some 3, some 4, some 5, some 6, some 7, some 8, some 9] rfl (ws' := cMW G q p_26.2) rfl (fun H locs hW => ?_)
      obtain rfl := Option.some.inj h
      exact x_reti F hr hW rfl dX6_news_29
  · have h := ht_5 c_5
    refine lv_aload_n hx hb dX6_news_8 rfl (lv_at hl 0 rfl) ?_
    refine lv_iconst (v := (-1 : Int32)) hx hb dX6_news_9 (by decide) ?_
    obtain ⟨p_10, hc_10, h⟩ := of_bind h
    refine x_Vi (av := [.ref (q 0), .int (-1 : Int32)]) (As := [.int (-1 : Int32)]) F hW (c_X6_no l G q w (-1 : Int32) _ hc_10) [0, 1, 2, 3, 4, 5, 6, 7, 8, 9] rfl rfl (by intro q; cases q) cv_X6_39 rfl ⟨_, rfl, rfl⟩ rfl rfl rfl hl (Nat.le_of_ble_eq_true rfl) ⟨Nat.le_of_ble_eq_true rfl, Nat.le_of_ble_eq_true rfl⟩ ⟨rfl, rfl⟩ ⟨Nat.le_of_ble_eq_true rfl, Nat.le_of_ble_eq_true rfl⟩ dX6_news_10 rfl [some 0, some 1, some 2, some 3, some 4, some 5, some 6, some 7, some 8, some 9] rfl (ws' := cMW G q p_10.2) rfl (fun H locs hW => ?_)
    obtain rfl := Option.some.inj h
    exact x_reti F hr hW rfl dX6_news_13
def f_X6_farthest_9 : Nat → Int32 → Int32 → MW → Option (Int32 × MW)
  | 0, _, _, _ => none
  | n0 + 1, v2_9, v1_9, w_9 =>
    if inR (0 : Int32) 71 then
    if (w_9.1 (0 : Int32).toNatClampNeg) ≤ v2_9 then
    some (v1_9, w_9)
    else
    if inR v2_9 7 then
    if (1000000000 : Int32) ≤ (w_9.2.2.2.2.2.2.2.2.1 v2_9.toNatClampNeg) then
    f_X6_farthest_9 n0 (v2_9 + (1 : Int32)) v1_9 w_9
    else
    if v1_9 < 0 then
    f_X6_farthest_9 n0 (v2_9 + (1 : Int32)) v2_9 w_9
    else
    if inR v2_9 7 then
    if inR v1_9 7 then
    if (w_9.2.2.2.2.2.2.2.2.1 v2_9.toNatClampNeg) ≤ (w_9.2.2.2.2.2.2.2.2.1 v1_9.toNatClampNeg) then
    f_X6_farthest_9 n0 (v2_9 + (1 : Int32)) v1_9 w_9
    else
    f_X6_farthest_9 n0 (v2_9 + (1 : Int32)) v2_9 w_9
    else none
    else none
    else none
    else none
def f_X6_farthest (w : MW) : Option (Int32 × MW) :=
  Option.bind (f_X6_brings w) fun p_1 =>
    f_X6_farthest_9 200 (0 : Int32) (-9 : Int32) p_1
abbrev rmX6_farthest : Room := { frames := 6, cells := 0, slots := 0, locals := 139 }
set_option maxRecDepth 100000 in
set_option maxHeartbeats 4000000 in
theorem c_X6_farthest (l : Launch) (G : EnT) (q : Nat → Nat) (w : MW) (o : Int32 × MW) (h : f_X6_farthest w = some o) : Mi l yX6_farthest rmX6_farthest cX6_farthest 3 (some .int) G false [.ref (q 0)] (cMW G q w) o.1 (cMW G q o.2) := by
  refine Mi_of (by decide) (Nat.le_of_ble_eq_true rfl) ?_
  intro p e s m below meth c A0 F hr hW ls hl
  obtain ⟨hx, hb, hml, hown, hts, hK, hNW, hlocks, hA, hSX⟩ := id F
  have hl : lv_has ls 3 [(0, .ref (q 0))] := hl
  have hW : Wd G A0 s (cMW G q w) s.heap [] := hW
  show W p l e rmX6_farthest s m ([.ref (q 0)] : List Value).toArray below meth c s.heap [] 0 0 (Qi below G (cMW G q o.2) o.1 A0 ([.ref (q 0)] : List Value).toArray s) (F0 m 0 ls [])
  refine lv_aload_n hx hb dX6_farthest_0 rfl (lv_at hl 0 rfl) ?_
  obtain ⟨p_1, hc_1, h⟩ := of_bind h
  refine x_Vv (av := [.ref (q 0)]) (As := []) F hW (c_X6_brings l G q w _ hc_1) [0, 1, 2, 3, 4, 5, 6, 7, 8, 9] rfl rfl (by intro q; cases q) cv_X6_170 rfl ⟨_, rfl, rfl⟩ rfl rfl rfl hl (Nat.le_of_ble_eq_true rfl) ⟨Nat.le_of_ble_eq_true rfl, Nat.le_of_ble_eq_true rfl⟩ ⟨rfl, rfl⟩ ⟨Nat.le_of_ble_eq_true rfl, Nat.le_of_ble_eq_true rfl⟩ dX6_farthest_1 rfl [some 0, some 1, some 2, some 3, some 4, some 5, some 6, some 7, some 8, some 9] rfl (ws' := cMW G q p_1) rfl (fun H locs hW => ?_)
  refine lv_bipush (v := (-9 : Int32)) hx hb dX6_farthest_4 (by decide) ?_
  refine lv_istore_n (lv' := [(1, .int (-9 : Int32)), (0, .ref (q 0))]) hx hb dX6_farthest_6 rfl hl (by decide) rfl (fun ls hl => ?_)
  refine lv_iconst (v := (0 : Int32)) hx hb dX6_farthest_7 (by decide) ?_
  refine lv_istore_n (lv' := [(2, .int (0 : Int32)), (1, .int (-9 : Int32)), (0, .ref (q 0))]) hx hb dX6_farthest_8 rfl hl (by decide) rfl (fun ls hl => ?_)
  have L0 : ∀ (n0 : Nat) (v2_9 : Int32) (v1_9 : Int32) (w_9 : MW) (H : Heap) (locs : List Loc) (ls : Array Slot), f_X6_farthest_9 n0 v2_9 v1_9 w_9 = some o → Wd G A0 s (cMW G q w_9) H locs → lv_has ls 3 [(2, .int v2_9), (1, .int v1_9), (0, .ref (q 0))] → W p l e rmX6_farthest s m ([.ref (q 0)] : List Value).toArray below meth c H locs 0 0 (Qi below G (cMW G q o.2) o.1 A0 ([.ref (q 0)] : List Value).toArray s) (F0 m 9 ls []) := by
    intro n0
    induction n0 with
    | zero => intro v2_9 v1_9 w_9 H locs ls h; cases (show (none : Option (Int32 × MW)) = some o from h)
    | succ n0 ih0 =>
      intro v2_9 v1_9 w_9 H locs ls h hW hl
      refine lv_iload_n hx hb dX6_farthest_9 rfl (lv_at hl 0 rfl) ?_
      refine lv_aload_n hx hb dX6_farthest_10 rfl (lv_at hl 2 rfl) ?_
      refine x_get F hW 0 rfl fa_X6_9 rfl dX6_farthest_11 ?_
      refine lv_iconst (v := (0 : Int32)) hx hb dX6_farthest_14 (by decide) ?_
      obtain ⟨g_15, h⟩ := of_guard h
      refine x_iald F hW 1 rfl g_15 dX6_farthest_15 ?_
      obtain ⟨ht_16, hf_16⟩ := of_ite h
      refine lv_icmp_ge (tgt := 57) hx hb dX6_farthest_16 (by decide) (fun c_16 => ?_) (fun c_16 => ?_)
      · have h := ht_16 c_16
        refine lv_iload_n hx hb dX6_farthest_57 rfl (lv_at hl 1 rfl) ?_
        obtain rfl := Option.some.inj h
        exact x_reti F hr hW rfl dX6_farthest_58
      · have h := hf_16 c_16
        refine lv_aload_n hx hb dX6_farthest_19 rfl (lv_at hl 2 rfl) ?_
        refine x_get F hW 0 rfl fa_X6_34 rfl dX6_farthest_20 ?_
        refine lv_iload_n hx hb dX6_farthest_23 rfl (lv_at hl 0 rfl) ?_
        obtain ⟨g_24, h⟩ := of_guard h
        refine x_iald F hW 9 rfl g_24 dX6_farthest_24 ?_
        refine lv_ldc (v := (1000000000 : Int32)) hx hb hown (hts _ wd_1086) dX6_farthest_25 ?_
        obtain ⟨ht_27, hf_27⟩ := of_ite h
        refine lv_icmp_ge (tgt := 51) hx hb dX6_farthest_27 (by decide) (fun c_27 => ?_) (fun c_27 => ?_)
        · have h := ht_27 c_27
          refine lv_iinc (v := (v2_9 + (1 : Int32))) (lv' := [(2, .int (v2_9 + (1 : Int32))), (1, .int v1_9), (0, .ref (q 0))]) hx hb dX6_farthest_51 hl (k := 0) rfl rfl (by decide) rfl (fun ls hl => ?_)
          refine lv_goto (tgt := 9) hx hb dX6_farthest_54 (by decide) ?_
          exact ih0 (v2_9 + (1 : Int32)) v1_9 w_9 _ _ _ h hW (lv_sub hl [0, 1, 2] rfl)
        · have h := hf_27 c_27
          refine lv_iload_n hx hb dX6_farthest_30 rfl (lv_at hl 1 rfl) ?_
          obtain ⟨ht_31, hf_31⟩ := of_ite h
          refine lv_if_lt (tgt := 49) hx hb dX6_farthest_31 (by decide) (fun c_31 => ?_) (fun c_31 => ?_)
          · have h := ht_31 c_31
            refine lv_iload_n hx hb dX6_farthest_49 rfl (lv_at hl 0 rfl) ?_
            refine lv_istore_n (lv' := [(1, .int v2_9), (2, .int v2_9), (0, .ref (q 0))]) hx hb dX6_farthest_50 rfl hl (by decide) rfl (fun ls hl => ?_)
            refine lv_iinc (v := (v2_9 + (1 : Int32))) (lv' := [(2, .int (v2_9 + (1 : Int32))), (1, .int v2_9), (0, .ref (q 0))]) hx hb dX6_farthest_51 hl (k := 1) rfl rfl (by decide) rfl (fun ls hl => ?_)
            refine lv_goto (tgt := 9) hx hb dX6_farthest_54 (by decide) ?_
            exact ih0 (v2_9 + (1 : Int32)) v2_9 w_9 _ _ _ h hW (lv_sub hl [0, 1, 2] rfl)
          · have h := hf_31 c_31
            refine lv_aload_n hx hb dX6_farthest_34 rfl (lv_at hl 2 rfl) ?_
            refine x_get F hW 0 rfl fa_X6_34 rfl dX6_farthest_35 ?_
            refine lv_iload_n hx hb dX6_farthest_38 rfl (lv_at hl 0 rfl) ?_
            obtain ⟨g_39, h⟩ := of_guard h
            refine x_iald F hW 9 rfl g_39 dX6_farthest_39 ?_
            refine lv_aload_n hx hb dX6_farthest_40 rfl (lv_at hl 2 rfl) ?_
            refine x_get F hW 0 rfl fa_X6_34 rfl dX6_farthest_41 ?_
            refine lv_iload_n hx hb dX6_farthest_44 rfl (lv_at hl 1 rfl) ?_
            obtain ⟨g_45, h⟩ := of_guard h
            refine x_iald F hW 9 rfl g_45 dX6_farthest_45 ?_
            obtain ⟨ht_46, hf_46⟩ := of_ite h
            refine lv_icmp_le (tgt := 51) hx hb dX6_farthest_46 (by decide) (fun c_46 => ?_) (fun c_46 => ?_)
            · have h := ht_46 c_46
              refine lv_iinc (v := (v2_9 + (1 : Int32))) (lv' := [(2, .int (v2_9 + (1 : Int32))), (1, .int v1_9), (0, .ref (q 0))]) hx hb dX6_farthest_51 hl (k := 0) rfl rfl (by decide) rfl (fun ls hl => ?_)
              refine lv_goto (tgt := 9) hx hb dX6_farthest_54 (by decide) ?_
              exact ih0 (v2_9 + (1 : Int32)) v1_9 w_9 _ _ _ h hW (lv_sub hl [0, 1, 2] rfl)
            · have h := hf_46 c_46
              refine lv_iload_n hx hb dX6_farthest_49 rfl (lv_at hl 0 rfl) ?_
              refine lv_istore_n (lv' := [(1, .int v2_9), (2, .int v2_9), (0, .ref (q 0))]) hx hb dX6_farthest_50 rfl hl (by decide) rfl (fun ls hl => ?_)
              refine lv_iinc (v := (v2_9 + (1 : Int32))) (lv' := [(2, .int (v2_9 + (1 : Int32))), (1, .int v2_9), (0, .ref (q 0))]) hx hb dX6_farthest_51 hl (k := 1) rfl rfl (by decide) rfl (fun ls hl => ?_)
              refine lv_goto (tgt := 9) hx hb dX6_farthest_54 (by decide) ?_
              exact ih0 (v2_9 + (1 : Int32)) v2_9 w_9 _ _ _ h hW (lv_sub hl [0, 1, 2] rfl)
  exact L0 200 (0 : Int32) (-9 : Int32) p_1 _ _ _ h hW (lv_sub hl [0, 1, 2] rfl)
def f_X6_spend (w : MW) (x1 : Int32) : Option (Int32 × MW) :=
  Option.bind (f_X6_wrongBy x1 (0 : Int32) (60 : Int32)) fun p_4 =>
    if p_4 = 0 then
    Option.bind (f_X6_takes w x1) fun p_22 =>
    some (p_22.1, p_22.2)
    else
    Option.bind (f_X6_no w p_4) fun p_14 =>
    some (p_14.1, p_14.2)
abbrev rmX6_spend : Room := { frames := 6, cells := 0, slots := 0, locals := 135 }
set_option maxRecDepth 100000 in
set_option maxHeartbeats 4000000 in
theorem c_X6_spend (l : Launch) (G : EnT) (q : Nat → Nat) (w : MW) (x1 : Int32) (o : Int32 × MW) (h : f_X6_spend w x1 = some o) : Mi l yX6_spend rmX6_spend cX6_spend 3 (some .int) G false [.ref (q 0), .int x1] (cMW G q w) o.1 (cMW G q o.2) := by
  refine Mi_of (by decide) (Nat.le_of_ble_eq_true rfl) ?_
  intro p e s m below meth c A0 F hr hW ls hl
  obtain ⟨hx, hb, hml, hown, hts, hK, hNW, hlocks, hA, hSX⟩ := id F
  have hl : lv_has ls 3 [(0, .ref (q 0)), (1, .int x1)] := hl
  have hW : Wd G A0 s (cMW G q w) s.heap [] := hW
  show W p l e rmX6_spend s m ([.ref (q 0), .int x1] : List Value).toArray below meth c s.heap [] 0 0 (Qi below G (cMW G q o.2) o.1 A0 ([.ref (q 0), .int x1] : List Value).toArray s) (F0 m 0 ls [])
  refine lv_iload_n hx hb dX6_spend_0 rfl (lv_at hl 1 rfl) ?_
  refine lv_iconst (v := (0 : Int32)) hx hb dX6_spend_1 (by decide) ?_
  refine lv_bipush (v := (60 : Int32)) hx hb dX6_spend_2 (by decide) ?_
  obtain ⟨p_4, hc_4, h⟩ := of_bind h
  refine x_Si (av := [.int x1, .int (0 : Int32), .int (60 : Int32)]) F hW (c_X6_wrongBy l G x1 (0 : Int32) (60 : Int32) _ hc_4) [] rfl rfl (by intro q; cases q) cs_X6_141 rfl rfl hl (Nat.le_of_ble_eq_true rfl) ⟨Nat.le_of_ble_eq_true rfl, Nat.le_of_ble_eq_true rfl⟩ ⟨rfl, rfl⟩ ⟨Nat.le_of_ble_eq_true rfl, Nat.le_of_ble_eq_true rfl⟩ dX6_spend_4 rfl [none, none, none, none, none, none, none, none, none, none] rfl (ws' := cMW G q w) rfl (fun H locs hW => ?_)
  refine lv_istore_n (lv' := [(2, .int p_4), (0, .ref (q 0)), (1, .int x1)]) hx hb dX6_spend_7 rfl hl (by decide) rfl (fun ls hl => ?_)
  refine lv_iload_n hx hb dX6_spend_8 rfl (lv_at hl 0 rfl) ?_
  obtain ⟨ht_9, hf_9⟩ := of_ite h
  refine lv_if_eq (tgt := 20) hx hb dX6_spend_9 (by decide) (fun c_9 => ?_) (fun c_9 => ?_)
  · have h := ht_9 c_9
    refine lv_aload_n hx hb dX6_spend_20 rfl (lv_at hl 1 rfl) ?_
    refine lv_iload_n hx hb dX6_spend_21 rfl (lv_at hl 2 rfl) ?_
    obtain ⟨p_22, hc_22, h⟩ := of_bind h
    refine x_Vi (av := [.ref (q 0), .int x1]) (As := [.int x1]) F hW (c_X6_takes l G q w x1 _ hc_22) [0, 1, 2, 3, 4, 5, 6, 7, 8, 9] rfl rfl (by intro q; cases q) cv_X6_151 rfl ⟨_, rfl, rfl⟩ rfl rfl rfl hl (Nat.le_of_ble_eq_true rfl) ⟨Nat.le_of_ble_eq_true rfl, Nat.le_of_ble_eq_true rfl⟩ ⟨rfl, rfl⟩ ⟨Nat.le_of_ble_eq_true rfl, Nat.le_of_ble_eq_true rfl⟩ dX6_spend_22 rfl [some 0, some 1, some 2, some 3, some 4, some 5, some 6, some 7, some 8, some 9] rfl (ws' := cMW G q p_22.2) rfl (fun H locs hW => ?_)
    obtain rfl := Option.some.inj h
    exact x_reti F hr hW rfl dX6_spend_25
  · have h := hf_9 c_9
    refine lv_aload_n hx hb dX6_spend_12 rfl (lv_at hl 1 rfl) ?_
    refine lv_iload_n hx hb dX6_spend_13 rfl (lv_at hl 0 rfl) ?_
    obtain ⟨p_14, hc_14, h⟩ := of_bind h
    refine x_Vi (av := [.ref (q 0), .int p_4]) (As := [.int p_4]) F hW (c_X6_no l G q w p_4 _ hc_14) [0, 1, 2, 3, 4, 5, 6, 7, 8, 9] rfl rfl (by intro q; cases q) cv_X6_39 rfl ⟨_, rfl, rfl⟩ rfl rfl rfl hl (Nat.le_of_ble_eq_true rfl) ⟨Nat.le_of_ble_eq_true rfl, Nat.le_of_ble_eq_true rfl⟩ ⟨rfl, rfl⟩ ⟨Nat.le_of_ble_eq_true rfl, Nat.le_of_ble_eq_true rfl⟩ dX6_spend_14 rfl [some 0, some 1, some 2, some 3, some 4, some 5, some 6, some 7, some 8, some 9] rfl (ws' := cMW G q p_14.2) rfl (fun H locs hW => ?_)
    refine lv_goto (tgt := 25) hx hb dX6_spend_17 (by decide) ?_
    obtain rfl := Option.some.inj h
    exact x_reti F hr hW rfl dX6_spend_25
def f_X6_share_42 (x1 : Int32) : Nat → Int32 → Int32 → Int32 → MW → Option (Int32 × MW)
  | 0, _, _, _, _ => none
  | n0 + 1, v5_42, v4_42, v3_42, w_42 =>
    if inR (0 : Int32) 71 then
    if (w_42.1 (0 : Int32).toNatClampNeg) ≤ v5_42 then
    some (v4_42, w_42)
    else
    Option.bind (f_X6_copies w_42.1 w_42.2.1) fun p_61 =>
    Option.bind (f_X6_of v5_42 (3 : Int32)) fun p_71 =>
    if inR p_71 71 then
    if inR p_71 71 then
    Option.bind (f_X6_hangsIn (w_42.1, (upd p_61 p_71.toNatClampNeg ((p_61 p_71.toNatClampNeg) + (1 : Int32))), w_42.2.2.1, w_42.2.2.2.1, w_42.2.2.2.2.1, w_42.2.2.2.2.2.1, w_42.2.2.2.2.2.2.1, w_42.2.2.2.2.2.2.2.1, w_42.2.2.2.2.2.2.2.2.1, w_42.2.2.2.2.2.2.2.2.2.1, w_42.2.2.2.2.2.2.2.2.2.2.1, w_42.2.2.2.2.2.2.2.2.2.2.2.1, w_42.2.2.2.2.2.2.2.2.2.2.2.2.1, w_42.2.2.2.2.2.2.2.2.2.2.2.2.2) x1) fun p_81 =>
    nm p_81.1 fun x_84 =>
    if v3_42 < x_84 then
    f_X6_share_42 x1 n0 (v5_42 + (1 : Int32)) v5_42 x_84 p_81.2
    else
    f_X6_share_42 x1 n0 (v5_42 + (1 : Int32)) v4_42 v3_42 p_81.2
    else none
    else none
    else none
def f_X6_share (w : MW) (x1 : Int32) : Option (Int32 × MW) :=
  Option.bind (f_X6_wrongBy x1 (0 : Int32) (30 : Int32)) fun p_4 =>
    if p_4 = 0 then
    Option.bind (f_X6_copies w.1 w.2.1) fun p_26 =>
    Option.bind (f_X6_hangsIn (w.1, p_26, w.2.2.1, w.2.2.2.1, w.2.2.2.2.1, w.2.2.2.2.2.1, w.2.2.2.2.2.2.1, w.2.2.2.2.2.2.2.1, w.2.2.2.2.2.2.2.2.1, w.2.2.2.2.2.2.2.2.2.1, w.2.2.2.2.2.2.2.2.2.2.1, w.2.2.2.2.2.2.2.2.2.2.2.1, w.2.2.2.2.2.2.2.2.2.2.2.2.1, w.2.2.2.2.2.2.2.2.2.2.2.2.2) x1) fun p_31 =>
    nm p_31.1 fun x_34 =>
    f_X6_share_42 x1 200 (0 : Int32) (-9 : Int32) x_34 p_31.2
    else
    Option.bind (f_X6_no w p_4) fun p_14 =>
    some (p_14.1, p_14.2)
abbrev rmX6_share : Room := { frames := 6, cells := 0, slots := 0, locals := 139 }
set_option maxRecDepth 100000 in
set_option maxHeartbeats 4000000 in
theorem c_X6_share (l : Launch) (G : EnT) (q : Nat → Nat) (w : MW) (x1 : Int32) (o : Int32 × MW) (h : f_X6_share w x1 = some o) : Mi l yX6_share rmX6_share cX6_share 7 (some .int) G false [.ref (q 0), .int x1] (cMW G q w) o.1 (cMW G q o.2) := by
  refine Mi_of (by decide) (Nat.le_of_ble_eq_true rfl) ?_
  intro p e s m below meth c A0 F hr hW ls hl
  obtain ⟨hx, hb, hml, hown, hts, hK, hNW, hlocks, hA, hSX⟩ := id F
  have hl : lv_has ls 7 [(0, .ref (q 0)), (1, .int x1)] := hl
  have hW : Wd G A0 s (cMW G q w) s.heap [] := hW
  show W p l e rmX6_share s m ([.ref (q 0), .int x1] : List Value).toArray below meth c s.heap [] 0 0 (Qi below G (cMW G q o.2) o.1 A0 ([.ref (q 0), .int x1] : List Value).toArray s) (F0 m 0 ls [])
  refine lv_iload_n hx hb dX6_share_0 rfl (lv_at hl 1 rfl) ?_
  refine lv_iconst (v := (0 : Int32)) hx hb dX6_share_1 (by decide) ?_
  refine lv_bipush (v := (30 : Int32)) hx hb dX6_share_2 (by decide) ?_
  obtain ⟨p_4, hc_4, h⟩ := of_bind h
  refine x_Si (av := [.int x1, .int (0 : Int32), .int (30 : Int32)]) F hW (c_X6_wrongBy l G x1 (0 : Int32) (30 : Int32) _ hc_4) [] rfl rfl (by intro q; cases q) cs_X6_141 rfl rfl hl (Nat.le_of_ble_eq_true rfl) ⟨Nat.le_of_ble_eq_true rfl, Nat.le_of_ble_eq_true rfl⟩ ⟨rfl, rfl⟩ ⟨Nat.le_of_ble_eq_true rfl, Nat.le_of_ble_eq_true rfl⟩ dX6_share_4 rfl [none, none, none, none, none, none, none, none, none, none] rfl (ws' := cMW G q w) rfl (fun H locs hW => ?_)
  refine lv_istore_n (lv' := [(2, .int p_4), (0, .ref (q 0)), (1, .int x1)]) hx hb dX6_share_7 rfl hl (by decide) rfl (fun ls hl => ?_)
  refine lv_iload_n hx hb dX6_share_8 rfl (lv_at hl 0 rfl) ?_
  obtain ⟨ht_9, hf_9⟩ := of_ite h
  refine lv_if_eq (tgt := 18) hx hb dX6_share_9 (by decide) (fun c_9 => ?_) (fun c_9 => ?_)
  · have h := ht_9 c_9
    refine lv_aload_n hx hb dX6_share_18 rfl (lv_at hl 1 rfl) ?_
    refine x_get F hW 0 rfl fa_X6_9 rfl dX6_share_19 ?_
    refine lv_aload_n hx hb dX6_share_22 rfl (lv_at hl 1 rfl) ?_
    refine x_get F hW 0 rfl fa_X6_13 rfl dX6_share_23 ?_
    obtain ⟨p_26, hc_26, h⟩ := of_bind h
    refine x_Sv (av := [.ref (q 1), .ref (q 2)]) F hW (c_X6_copies l G (fun i => q (i + 1)) w.1 (fun i => q (i + 2)) w.2.1 _ hc_26) [1, 2] rfl rfl (by intro q; cases q) cs_X6_134 rfl rfl hl (Nat.le_of_ble_eq_true rfl) ⟨Nat.le_of_ble_eq_true rfl, Nat.le_of_ble_eq_true rfl⟩ ⟨rfl, rfl⟩ ⟨Nat.le_of_ble_eq_true rfl, Nat.le_of_ble_eq_true rfl⟩ dX6_share_26 rfl [none, some 0, some 1, none, none, none, none, none, none, none] rfl (ws' := cMW G q (w.1, p_26, w.2.2.1, w.2.2.2.1, w.2.2.2.2.1, w.2.2.2.2.2.1, w.2.2.2.2.2.2.1, w.2.2.2.2.2.2.2.1, w.2.2.2.2.2.2.2.2.1, w.2.2.2.2.2.2.2.2.2.1, w.2.2.2.2.2.2.2.2.2.2.1, w.2.2.2.2.2.2.2.2.2.2.2.1, w.2.2.2.2.2.2.2.2.2.2.2.2.1, w.2.2.2.2.2.2.2.2.2.2.2.2.2)) rfl (fun H locs hW => ?_)
    refine lv_aload_n hx hb dX6_share_29 rfl (lv_at hl 1 rfl) ?_
    refine lv_iload_n hx hb dX6_share_30 rfl (lv_at hl 2 rfl) ?_
    obtain ⟨p_31, hc_31, h⟩ := of_bind h
    refine x_Vi (av := [.ref (q 0), .int x1]) (As := [.int x1]) F hW (c_X6_hangsIn l G q (w.1, p_26, w.2.2.1, w.2.2.2.1, w.2.2.2.2.1, w.2.2.2.2.2.1, w.2.2.2.2.2.2.1, w.2.2.2.2.2.2.2.1, w.2.2.2.2.2.2.2.2.1, w.2.2.2.2.2.2.2.2.2.1, w.2.2.2.2.2.2.2.2.2.2.1, w.2.2.2.2.2.2.2.2.2.2.2.1, w.2.2.2.2.2.2.2.2.2.2.2.2.1, w.2.2.2.2.2.2.2.2.2.2.2.2.2) x1 _ hc_31) [0, 1, 2, 3, 4, 5, 6, 7, 8, 9] rfl rfl (by intro q; cases q) cv_X6_164 rfl ⟨_, rfl, rfl⟩ rfl rfl rfl hl (Nat.le_of_ble_eq_true rfl) ⟨Nat.le_of_ble_eq_true rfl, Nat.le_of_ble_eq_true rfl⟩ ⟨rfl, rfl⟩ ⟨Nat.le_of_ble_eq_true rfl, Nat.le_of_ble_eq_true rfl⟩ dX6_share_31 rfl [some 0, some 1, some 2, some 3, some 4, some 5, some 6, some 7, some 8, some 9] rfl (ws' := cMW G q p_31.2) rfl (fun H locs hW => ?_)
    obtain ⟨x_34, e_x_34, h⟩ := of_nm h
    refine x_topi e_x_34 ?_
    refine lv_istore_n (lv' := [(3, .int x_34), (2, .int p_4), (0, .ref (q 0)), (1, .int x1)]) hx hb dX6_share_34 rfl hl (by decide) rfl (fun ls hl => ?_)
    refine lv_bipush (v := (-9 : Int32)) hx hb dX6_share_35 (by decide) ?_
    refine lv_istore (lv' := [(4, .int (-9 : Int32)), (3, .int x_34), (2, .int p_4), (0, .ref (q 0)), (1, .int x1)]) hx hb dX6_share_37 hl (by decide) rfl (fun ls hl => ?_)
    refine lv_iconst (v := (0 : Int32)) hx hb dX6_share_39 (by decide) ?_
    refine lv_istore (lv' := [(5, .int (0 : Int32)), (4, .int (-9 : Int32)), (3, .int x_34), (2, .int p_4), (0, .ref (q 0)), (1, .int x1)]) hx hb dX6_share_40 hl (by decide) rfl (fun ls hl => ?_)
    have L0 : ∀ (n0 : Nat) (v5_42 : Int32) (v4_42 : Int32) (v3_42 : Int32) (w_42 : MW) (H : Heap) (locs : List Loc) (ls : Array Slot), f_X6_share_42 x1 n0 v5_42 v4_42 v3_42 w_42 = some o → Wd G A0 s (cMW G q w_42) H locs → lv_has ls 7 [(5, .int v5_42), (4, .int v4_42), (3, .int v3_42), (0, .ref (q 0)), (1, .int x1)] → W p l e rmX6_share s m ([.ref (q 0), .int x1] : List Value).toArray below meth c H locs 0 0 (Qi below G (cMW G q o.2) o.1 A0 ([.ref (q 0), .int x1] : List Value).toArray s) (F0 m 42 ls []) := by
      intro n0
      induction n0 with
      | zero => intro v5_42 v4_42 v3_42 w_42 H locs ls h; cases (show (none : Option (Int32 × MW)) = some o from h)
      | succ n0 ih0 =>
        intro v5_42 v4_42 v3_42 w_42 H locs ls h hW hl
        refine lv_iload hx hb dX6_share_42 (lv_at hl 0 rfl) ?_
        refine lv_aload_n hx hb dX6_share_44 rfl (lv_at hl 3 rfl) ?_
        refine x_get F hW 0 rfl fa_X6_9 rfl dX6_share_45 ?_
        refine lv_iconst (v := (0 : Int32)) hx hb dX6_share_48 (by decide) ?_
        obtain ⟨g_49, h⟩ := of_guard h
        refine x_iald F hW 1 rfl g_49 dX6_share_49 ?_
        obtain ⟨ht_50, hf_50⟩ := of_ite h
        refine lv_icmp_ge (tgt := 108) hx hb dX6_share_50 (by decide) (fun c_50 => ?_) (fun c_50 => ?_)
        · have h := ht_50 c_50
          refine lv_iload hx hb dX6_share_108 (lv_at hl 1 rfl) ?_
          obtain rfl := Option.some.inj h
          exact x_reti F hr hW rfl dX6_share_110
        · have h := hf_50 c_50
          refine lv_aload_n hx hb dX6_share_53 rfl (lv_at hl 3 rfl) ?_
          refine x_get F hW 0 rfl fa_X6_9 rfl dX6_share_54 ?_
          refine lv_aload_n hx hb dX6_share_57 rfl (lv_at hl 3 rfl) ?_
          refine x_get F hW 0 rfl fa_X6_13 rfl dX6_share_58 ?_
          obtain ⟨p_61, hc_61, h⟩ := of_bind h
          refine x_Sv (av := [.ref (q 1), .ref (q 2)]) F hW (c_X6_copies l G (fun i => q (i + 1)) w_42.1 (fun i => q (i + 2)) w_42.2.1 _ hc_61) [1, 2] rfl rfl (by intro q; cases q) cs_X6_134 rfl rfl hl (Nat.le_of_ble_eq_true rfl) ⟨Nat.le_of_ble_eq_true rfl, Nat.le_of_ble_eq_true rfl⟩ ⟨rfl, rfl⟩ ⟨Nat.le_of_ble_eq_true rfl, Nat.le_of_ble_eq_true rfl⟩ dX6_share_61 rfl [none, some 0, some 1, none, none, none, none, none, none, none] rfl (ws' := cMW G q (w_42.1, p_61, w_42.2.2.1, w_42.2.2.2.1, w_42.2.2.2.2.1, w_42.2.2.2.2.2.1, w_42.2.2.2.2.2.2.1, w_42.2.2.2.2.2.2.2.1, w_42.2.2.2.2.2.2.2.2.1, w_42.2.2.2.2.2.2.2.2.2.1, w_42.2.2.2.2.2.2.2.2.2.2.1, w_42.2.2.2.2.2.2.2.2.2.2.2.1, w_42.2.2.2.2.2.2.2.2.2.2.2.2.1, w_42.2.2.2.2.2.2.2.2.2.2.2.2.2)) rfl (fun H locs hW => ?_)
          refine lv_aload_n hx hb dX6_share_64 rfl (lv_at hl 3 rfl) ?_
          refine x_get F hW 0 rfl fa_X6_13 rfl dX6_share_65 ?_
          refine lv_iload hx hb dX6_share_68 (lv_at hl 0 rfl) ?_
          refine lv_iconst (v := (3 : Int32)) hx hb dX6_share_70 (by decide) ?_
          obtain ⟨p_71, hc_71, h⟩ := of_bind h
          refine x_Si (av := [.int v5_42, .int (3 : Int32)]) F hW (c_X6_of l G v5_42 (3 : Int32) _ hc_71) [] rfl rfl (by intro q; cases q) cs_X6_47 rfl rfl hl (Nat.le_of_ble_eq_true rfl) ⟨Nat.le_of_ble_eq_true rfl, Nat.le_of_ble_eq_true rfl⟩ ⟨rfl, rfl⟩ ⟨Nat.le_of_ble_eq_true rfl, Nat.le_of_ble_eq_true rfl⟩ dX6_share_71 rfl [none, none, none, none, none, none, none, none, none, none] rfl (ws' := cMW G q (w_42.1, p_61, w_42.2.2.1, w_42.2.2.2.1, w_42.2.2.2.2.1, w_42.2.2.2.2.2.1, w_42.2.2.2.2.2.2.1, w_42.2.2.2.2.2.2.2.1, w_42.2.2.2.2.2.2.2.2.1, w_42.2.2.2.2.2.2.2.2.2.1, w_42.2.2.2.2.2.2.2.2.2.2.1, w_42.2.2.2.2.2.2.2.2.2.2.2.1, w_42.2.2.2.2.2.2.2.2.2.2.2.2.1, w_42.2.2.2.2.2.2.2.2.2.2.2.2.2)) rfl (fun H locs hW => ?_)
          refine lv_dup2_11 hx hb dX6_share_74 rfl rfl ?_
          obtain ⟨g_75, h⟩ := of_guard h
          refine x_iald F hW 2 rfl g_75 dX6_share_75 ?_
          refine lv_iconst (v := (1 : Int32)) hx hb dX6_share_76 (by decide) ?_
          refine lv_iadd hx hb dX6_share_77 ?_
          obtain ⟨g_78, h⟩ := of_guard h
          refine x_iast F hW 2 rfl g_78 (ws' := cMW G q (w_42.1, (upd p_61 p_71.toNatClampNeg ((p_61 p_71.toNatClampNeg) + (1 : Int32))), w_42.2.2.1, w_42.2.2.2.1, w_42.2.2.2.2.1, w_42.2.2.2.2.2.1, w_42.2.2.2.2.2.2.1, w_42.2.2.2.2.2.2.2.1, w_42.2.2.2.2.2.2.2.2.1, w_42.2.2.2.2.2.2.2.2.2.1, w_42.2.2.2.2.2.2.2.2.2.2.1, w_42.2.2.2.2.2.2.2.2.2.2.2.1, w_42.2.2.2.2.2.2.2.2.2.2.2.2.1, w_42.2.2.2.2.2.2.2.2.2.2.2.2.2)) rfl dX6_share_78 (fun H locs hW => ?_)
          refine lv_aload_n hx hb dX6_share_79 rfl (lv_at hl 3 rfl) ?_
          refine lv_iload_n hx hb dX6_share_80 rfl (lv_at hl 4 rfl) ?_
          obtain ⟨p_81, hc_81, h⟩ := of_bind h
          refine x_Vi (av := [.ref (q 0), .int x1]) (As := [.int x1]) F hW (c_X6_hangsIn l G q (w_42.1, (upd p_61 p_71.toNatClampNeg ((p_61 p_71.toNatClampNeg) + (1 : Int32))), w_42.2.2.1, w_42.2.2.2.1, w_42.2.2.2.2.1, w_42.2.2.2.2.2.1, w_42.2.2.2.2.2.2.1, w_42.2.2.2.2.2.2.2.1, w_42.2.2.2.2.2.2.2.2.1, w_42.2.2.2.2.2.2.2.2.2.1, w_42.2.2.2.2.2.2.2.2.2.2.1, w_42.2.2.2.2.2.2.2.2.2.2.2.1, w_42.2.2.2.2.2.2.2.2.2.2.2.2.1, w_42.2.2.2.2.2.2.2.2.2.2.2.2.2) x1 _ hc_81) [0, 1, 2, 3, 4, 5, 6, 7, 8, 9] rfl rfl (by intro q; cases q) cv_X6_164 rfl ⟨_, rfl, rfl⟩ rfl rfl rfl hl (Nat.le_of_ble_eq_true rfl) ⟨Nat.le_of_ble_eq_true rfl, Nat.le_of_ble_eq_true rfl⟩ ⟨rfl, rfl⟩ ⟨Nat.le_of_ble_eq_true rfl, Nat.le_of_ble_eq_true rfl⟩ dX6_share_81 rfl [some 0, some 1, some 2, some 3, some 4, some 5, some 6, some 7, some 8, some 9] rfl (ws' := cMW G q p_81.2) rfl (fun H locs hW => ?_)
          obtain ⟨x_84, e_x_84, h⟩ := of_nm h
          refine x_topi e_x_84 ?_
          refine lv_istore (lv' := [(6, .int x_84), (5, .int v5_42), (4, .int v4_42), (3, .int v3_42), (0, .ref (q 0)), (1, .int x1)]) hx hb dX6_share_84 hl (by decide) rfl (fun ls hl => ?_)
          refine lv_iload hx hb dX6_share_86 (lv_at hl 0 rfl) ?_
          refine lv_iload_n hx hb dX6_share_88 rfl (lv_at hl 3 rfl) ?_
          obtain ⟨ht_89, hf_89⟩ := of_ite h
          refine lv_icmp_gt (tgt := 95) hx hb dX6_share_89 (by decide) (fun c_89 => ?_) (fun c_89 => ?_)
          · have h := ht_89 c_89
            refine lv_iload hx hb dX6_share_95 (lv_at hl 1 rfl) ?_
            refine lv_istore (lv' := [(4, .int v5_42), (6, .int x_84), (5, .int v5_42), (3, .int v3_42), (0, .ref (q 0)), (1, .int x1)]) hx hb dX6_share_97 hl (by decide) rfl (fun ls hl => ?_)
            refine lv_iload hx hb dX6_share_99 (lv_at hl 1 rfl) ?_
            refine lv_istore_n (lv' := [(3, .int x_84), (4, .int v5_42), (6, .int x_84), (5, .int v5_42), (0, .ref (q 0)), (1, .int x1)]) hx hb dX6_share_101 rfl hl (by decide) rfl (fun ls hl => ?_)
            refine lv_iinc (v := (v5_42 + (1 : Int32))) (lv' := [(5, .int (v5_42 + (1 : Int32))), (3, .int x_84), (4, .int v5_42), (6, .int x_84), (0, .ref (q 0)), (1, .int x1)]) hx hb dX6_share_102 hl (k := 3) rfl rfl (by decide) rfl (fun ls hl => ?_)
            refine lv_goto (tgt := 42) hx hb dX6_share_105 (by decide) ?_
            exact ih0 (v5_42 + (1 : Int32)) v5_42 x_84 p_81.2 _ _ _ h hW (lv_sub hl [0, 2, 1, 4, 5] rfl)
          · have h := hf_89 c_89
            refine lv_goto (tgt := 102) hx hb dX6_share_92 (by decide) ?_
            refine lv_iinc (v := (v5_42 + (1 : Int32))) (lv' := [(5, .int (v5_42 + (1 : Int32))), (6, .int x_84), (4, .int v4_42), (3, .int v3_42), (0, .ref (q 0)), (1, .int x1)]) hx hb dX6_share_102 hl (k := 1) rfl rfl (by decide) rfl (fun ls hl => ?_)
            refine lv_goto (tgt := 42) hx hb dX6_share_105 (by decide) ?_
            exact ih0 (v5_42 + (1 : Int32)) v4_42 v3_42 p_81.2 _ _ _ h hW (lv_sub hl [0, 2, 3, 4, 5] rfl)
    exact L0 200 (0 : Int32) (-9 : Int32) x_34 p_31.2 _ _ _ h hW (lv_sub hl [0, 1, 2, 4, 5] rfl)
  · have h := hf_9 c_9
    refine lv_aload_n hx hb dX6_share_12 rfl (lv_at hl 1 rfl) ?_
    refine lv_iload_n hx hb dX6_share_13 rfl (lv_at hl 0 rfl) ?_
    obtain ⟨p_14, hc_14, h⟩ := of_bind h
    refine x_Vi (av := [.ref (q 0), .int p_4]) (As := [.int p_4]) F hW (c_X6_no l G q w p_4 _ hc_14) [0, 1, 2, 3, 4, 5, 6, 7, 8, 9] rfl rfl (by intro q; cases q) cv_X6_39 rfl ⟨_, rfl, rfl⟩ rfl rfl rfl hl (Nat.le_of_ble_eq_true rfl) ⟨Nat.le_of_ble_eq_true rfl, Nat.le_of_ble_eq_true rfl⟩ ⟨rfl, rfl⟩ ⟨Nat.le_of_ble_eq_true rfl, Nat.le_of_ble_eq_true rfl⟩ dX6_share_14 rfl [some 0, some 1, some 2, some 3, some 4, some 5, some 6, some 7, some 8, some 9] rfl (ws' := cMW G q p_14.2) rfl (fun H locs hW => ?_)
    obtain rfl := Option.some.inj h
    exact x_reti F hr hW rfl dX6_share_17
def f_X6_longest_43 (x1 : Int32) : Nat → Int32 → Int32 → MW → Option (Int32 × MW)
  | 0, _, _, _ => none
  | n0 + 1, v4_43, v3_43, w_43 =>
    if x1 ≤ v4_43 then
    some (v3_43, w_43)
    else
    Option.bind (f_X6_night w_43.2.1) fun p_53 =>
    nm p_53.1 fun x_56 =>
    Option.bind (f_X6_hangIn p_53.2) fun p_62 =>
    Option.bind (f_X6_bits p_62) fun p_65 =>
    if p_65 ≤ v3_43 then
    f_X6_longest_43 x1 n0 (v4_43 + (1 : Int32)) v3_43 (w_43.1, p_53.2, w_43.2.2.1, w_43.2.2.2.1, w_43.2.2.2.2.1, w_43.2.2.2.2.2.1, w_43.2.2.2.2.2.2.1, w_43.2.2.2.2.2.2.2.1, w_43.2.2.2.2.2.2.2.2.1, w_43.2.2.2.2.2.2.2.2.2.1, w_43.2.2.2.2.2.2.2.2.2.2.1, w_43.2.2.2.2.2.2.2.2.2.2.2.1, w_43.2.2.2.2.2.2.2.2.2.2.2.2.1, w_43.2.2.2.2.2.2.2.2.2.2.2.2.2)
    else
    Option.bind (f_X6_hangIn p_53.2) fun p_76 =>
    Option.bind (f_X6_bits p_76) fun p_79 =>
    f_X6_longest_43 x1 n0 (v4_43 + (1 : Int32)) p_79 (w_43.1, p_53.2, w_43.2.2.1, w_43.2.2.2.1, w_43.2.2.2.2.1, w_43.2.2.2.2.2.1, w_43.2.2.2.2.2.2.1, w_43.2.2.2.2.2.2.2.1, w_43.2.2.2.2.2.2.2.2.1, w_43.2.2.2.2.2.2.2.2.2.1, w_43.2.2.2.2.2.2.2.2.2.2.1, w_43.2.2.2.2.2.2.2.2.2.2.2.1, w_43.2.2.2.2.2.2.2.2.2.2.2.2.1, w_43.2.2.2.2.2.2.2.2.2.2.2.2.2)
def f_X6_longest (w : MW) (x1 : Int32) : Option (Int32 × MW) :=
  Option.bind (f_X6_wrongBy x1 (0 : Int32) (60 : Int32)) fun p_4 =>
    if p_4 = 0 then
    Option.bind (f_X6_copies w.1 w.2.1) fun p_26 =>
    Option.bind (f_X6_hangIn p_26) fun p_33 =>
    Option.bind (f_X6_bits p_33) fun p_36 =>
    f_X6_longest_43 x1 200 (0 : Int32) p_36 (w.1, p_26, w.2.2.1, w.2.2.2.1, w.2.2.2.2.1, w.2.2.2.2.2.1, w.2.2.2.2.2.2.1, w.2.2.2.2.2.2.2.1, w.2.2.2.2.2.2.2.2.1, w.2.2.2.2.2.2.2.2.2.1, w.2.2.2.2.2.2.2.2.2.2.1, w.2.2.2.2.2.2.2.2.2.2.2.1, w.2.2.2.2.2.2.2.2.2.2.2.2.1, w.2.2.2.2.2.2.2.2.2.2.2.2.2)
    else
    Option.bind (f_X6_no w p_4) fun p_14 =>
    some (p_14.1, p_14.2)
abbrev rmX6_longest : Room := { frames := 5, cells := 0, slots := 0, locals := 115 }
set_option maxRecDepth 100000 in
set_option maxHeartbeats 4000000 in
theorem c_X6_longest (l : Launch) (G : EnT) (q : Nat → Nat) (w : MW) (x1 : Int32) (o : Int32 × MW) (h : f_X6_longest w x1 = some o) : Mi l yX6_longest rmX6_longest cX6_longest 6 (some .int) G false [.ref (q 0), .int x1] (cMW G q w) o.1 (cMW G q o.2) := by
  refine Mi_of (by decide) (Nat.le_of_ble_eq_true rfl) ?_
  intro p e s m below meth c A0 F hr hW ls hl
  obtain ⟨hx, hb, hml, hown, hts, hK, hNW, hlocks, hA, hSX⟩ := id F
  have hl : lv_has ls 6 [(0, .ref (q 0)), (1, .int x1)] := hl
  have hW : Wd G A0 s (cMW G q w) s.heap [] := hW
  show W p l e rmX6_longest s m ([.ref (q 0), .int x1] : List Value).toArray below meth c s.heap [] 0 0 (Qi below G (cMW G q o.2) o.1 A0 ([.ref (q 0), .int x1] : List Value).toArray s) (F0 m 0 ls [])
  refine lv_iload_n hx hb dX6_longest_0 rfl (lv_at hl 1 rfl) ?_
  refine lv_iconst (v := (0 : Int32)) hx hb dX6_longest_1 (by decide) ?_
  refine lv_bipush (v := (60 : Int32)) hx hb dX6_longest_2 (by decide) ?_
  obtain ⟨p_4, hc_4, h⟩ := of_bind h
  refine x_Si (av := [.int x1, .int (0 : Int32), .int (60 : Int32)]) F hW (c_X6_wrongBy l G x1 (0 : Int32) (60 : Int32) _ hc_4) [] rfl rfl (by intro q; cases q) cs_X6_141 rfl rfl hl (Nat.le_of_ble_eq_true rfl) ⟨Nat.le_of_ble_eq_true rfl, Nat.le_of_ble_eq_true rfl⟩ ⟨rfl, rfl⟩ ⟨Nat.le_of_ble_eq_true rfl, Nat.le_of_ble_eq_true rfl⟩ dX6_longest_4 rfl [none, none, none, none, none, none, none, none, none, none] rfl (ws' := cMW G q w) rfl (fun H locs hW => ?_)
  refine lv_istore_n (lv' := [(2, .int p_4), (0, .ref (q 0)), (1, .int x1)]) hx hb dX6_longest_7 rfl hl (by decide) rfl (fun ls hl => ?_)
  refine lv_iload_n hx hb dX6_longest_8 rfl (lv_at hl 0 rfl) ?_
  obtain ⟨ht_9, hf_9⟩ := of_ite h
  refine lv_if_eq (tgt := 18) hx hb dX6_longest_9 (by decide) (fun c_9 => ?_) (fun c_9 => ?_)
  · have h := ht_9 c_9
    refine lv_aload_n hx hb dX6_longest_18 rfl (lv_at hl 1 rfl) ?_
    refine x_get F hW 0 rfl fa_X6_9 rfl dX6_longest_19 ?_
    refine lv_aload_n hx hb dX6_longest_22 rfl (lv_at hl 1 rfl) ?_
    refine x_get F hW 0 rfl fa_X6_13 rfl dX6_longest_23 ?_
    obtain ⟨p_26, hc_26, h⟩ := of_bind h
    refine x_Sv (av := [.ref (q 1), .ref (q 2)]) F hW (c_X6_copies l G (fun i => q (i + 1)) w.1 (fun i => q (i + 2)) w.2.1 _ hc_26) [1, 2] rfl rfl (by intro q; cases q) cs_X6_134 rfl rfl hl (Nat.le_of_ble_eq_true rfl) ⟨Nat.le_of_ble_eq_true rfl, Nat.le_of_ble_eq_true rfl⟩ ⟨rfl, rfl⟩ ⟨Nat.le_of_ble_eq_true rfl, Nat.le_of_ble_eq_true rfl⟩ dX6_longest_26 rfl [none, some 0, some 1, none, none, none, none, none, none, none] rfl (ws' := cMW G q (w.1, p_26, w.2.2.1, w.2.2.2.1, w.2.2.2.2.1, w.2.2.2.2.2.1, w.2.2.2.2.2.2.1, w.2.2.2.2.2.2.2.1, w.2.2.2.2.2.2.2.2.1, w.2.2.2.2.2.2.2.2.2.1, w.2.2.2.2.2.2.2.2.2.2.1, w.2.2.2.2.2.2.2.2.2.2.2.1, w.2.2.2.2.2.2.2.2.2.2.2.2.1, w.2.2.2.2.2.2.2.2.2.2.2.2.2)) rfl (fun H locs hW => ?_)
    refine lv_aload_n hx hb dX6_longest_29 rfl (lv_at hl 1 rfl) ?_
    refine x_get F hW 0 rfl fa_X6_13 rfl dX6_longest_30 ?_
    obtain ⟨p_33, hc_33, h⟩ := of_bind h
    refine x_Si (av := [.ref (q 2)]) F hW (c_X6_hangIn l G (fun i => q (i + 2)) p_26 _ hc_33) [2] rfl rfl (by intro q; cases q) cs_X6_145 rfl rfl hl (Nat.le_of_ble_eq_true rfl) ⟨Nat.le_of_ble_eq_true rfl, Nat.le_of_ble_eq_true rfl⟩ ⟨rfl, rfl⟩ ⟨Nat.le_of_ble_eq_true rfl, Nat.le_of_ble_eq_true rfl⟩ dX6_longest_33 rfl [none, none, some 0, none, none, none, none, none, none, none] rfl (ws' := cMW G q (w.1, p_26, w.2.2.1, w.2.2.2.1, w.2.2.2.2.1, w.2.2.2.2.2.1, w.2.2.2.2.2.2.1, w.2.2.2.2.2.2.2.1, w.2.2.2.2.2.2.2.2.1, w.2.2.2.2.2.2.2.2.2.1, w.2.2.2.2.2.2.2.2.2.2.1, w.2.2.2.2.2.2.2.2.2.2.2.1, w.2.2.2.2.2.2.2.2.2.2.2.2.1, w.2.2.2.2.2.2.2.2.2.2.2.2.2)) rfl (fun H locs hW => ?_)
    obtain ⟨p_36, hc_36, h⟩ := of_bind h
    refine x_Si (av := [.int p_33]) F hW (c_X6_bits l G p_33 _ hc_36) [] rfl rfl (by intro q; cases q) cs_X6_148 rfl rfl hl (Nat.le_of_ble_eq_true rfl) ⟨Nat.le_of_ble_eq_true rfl, Nat.le_of_ble_eq_true rfl⟩ ⟨rfl, rfl⟩ ⟨Nat.le_of_ble_eq_true rfl, Nat.le_of_ble_eq_true rfl⟩ dX6_longest_36 rfl [none, none, none, none, none, none, none, none, none, none] rfl (ws' := cMW G q (w.1, p_26, w.2.2.1, w.2.2.2.1, w.2.2.2.2.1, w.2.2.2.2.2.1, w.2.2.2.2.2.2.1, w.2.2.2.2.2.2.2.1, w.2.2.2.2.2.2.2.2.1, w.2.2.2.2.2.2.2.2.2.1, w.2.2.2.2.2.2.2.2.2.2.1, w.2.2.2.2.2.2.2.2.2.2.2.1, w.2.2.2.2.2.2.2.2.2.2.2.2.1, w.2.2.2.2.2.2.2.2.2.2.2.2.2)) rfl (fun H locs hW => ?_)
    refine lv_istore_n (lv' := [(3, .int p_36), (2, .int p_4), (0, .ref (q 0)), (1, .int x1)]) hx hb dX6_longest_39 rfl hl (by decide) rfl (fun ls hl => ?_)
    refine lv_iconst (v := (0 : Int32)) hx hb dX6_longest_40 (by decide) ?_
    refine lv_istore (lv' := [(4, .int (0 : Int32)), (3, .int p_36), (2, .int p_4), (0, .ref (q 0)), (1, .int x1)]) hx hb dX6_longest_41 hl (by decide) rfl (fun ls hl => ?_)
    have L0 : ∀ (n0 : Nat) (v4_43 : Int32) (v3_43 : Int32) (w_43 : MW) (H : Heap) (locs : List Loc) (ls : Array Slot), f_X6_longest_43 x1 n0 v4_43 v3_43 w_43 = some o → Wd G A0 s (cMW G q w_43) H locs → lv_has ls 6 [(4, .int v4_43), (3, .int v3_43), (0, .ref (q 0)), (1, .int x1)] → W p l e rmX6_longest s m ([.ref (q 0), .int x1] : List Value).toArray below meth c H locs 0 0 (Qi below G (cMW G q o.2) o.1 A0 ([.ref (q 0), .int x1] : List Value).toArray s) (F0 m 43 ls []) := by
      intro n0
      induction n0 with
      | zero => intro v4_43 v3_43 w_43 H locs ls h; cases (show (none : Option (Int32 × MW)) = some o from h)
      | succ n0 ih0 =>
        intro v4_43 v3_43 w_43 H locs ls h hW hl
        refine lv_iload hx hb dX6_longest_43 (lv_at hl 0 rfl) ?_
        refine lv_iload_n hx hb dX6_longest_45 rfl (lv_at hl 3 rfl) ?_
        obtain ⟨ht_46, hf_46⟩ := of_ite h
        refine lv_icmp_ge (tgt := 93) hx hb dX6_longest_46 (by decide) (fun c_46 => ?_) (fun c_46 => ?_)
        · have h := ht_46 c_46
          refine lv_iload_n hx hb dX6_longest_93 rfl (lv_at hl 1 rfl) ?_
          obtain rfl := Option.some.inj h
          exact x_reti F hr hW rfl dX6_longest_94
        · have h := hf_46 c_46
          refine lv_aload_n hx hb dX6_longest_49 rfl (lv_at hl 2 rfl) ?_
          refine x_get F hW 0 rfl fa_X6_13 rfl dX6_longest_50 ?_
          obtain ⟨p_53, hc_53, h⟩ := of_bind h
          refine x_Si (av := [.ref (q 2)]) F hW (c_X6_night l G (fun i => q (i + 2)) w_43.2.1 _ hc_53) [2] rfl rfl (by intro q; cases q) cs_X6_90 rfl rfl hl (Nat.le_of_ble_eq_true rfl) ⟨Nat.le_of_ble_eq_true rfl, Nat.le_of_ble_eq_true rfl⟩ ⟨rfl, rfl⟩ ⟨Nat.le_of_ble_eq_true rfl, Nat.le_of_ble_eq_true rfl⟩ dX6_longest_53 rfl [none, none, some 0, none, none, none, none, none, none, none] rfl (ws' := cMW G q (w_43.1, p_53.2, w_43.2.2.1, w_43.2.2.2.1, w_43.2.2.2.2.1, w_43.2.2.2.2.2.1, w_43.2.2.2.2.2.2.1, w_43.2.2.2.2.2.2.2.1, w_43.2.2.2.2.2.2.2.2.1, w_43.2.2.2.2.2.2.2.2.2.1, w_43.2.2.2.2.2.2.2.2.2.2.1, w_43.2.2.2.2.2.2.2.2.2.2.2.1, w_43.2.2.2.2.2.2.2.2.2.2.2.2.1, w_43.2.2.2.2.2.2.2.2.2.2.2.2.2)) rfl (fun H locs hW => ?_)
          obtain ⟨x_56, e_x_56, h⟩ := of_nm h
          refine x_topi e_x_56 ?_
          refine lv_istore (lv' := [(5, .int x_56), (4, .int v4_43), (3, .int v3_43), (0, .ref (q 0)), (1, .int x1)]) hx hb dX6_longest_56 hl (by decide) rfl (fun ls hl => ?_)
          refine lv_aload_n hx hb dX6_longest_58 rfl (lv_at hl 3 rfl) ?_
          refine x_get F hW 0 rfl fa_X6_13 rfl dX6_longest_59 ?_
          obtain ⟨p_62, hc_62, h⟩ := of_bind h
          refine x_Si (av := [.ref (q 2)]) F hW (c_X6_hangIn l G (fun i => q (i + 2)) p_53.2 _ hc_62) [2] rfl rfl (by intro q; cases q) cs_X6_145 rfl rfl hl (Nat.le_of_ble_eq_true rfl) ⟨Nat.le_of_ble_eq_true rfl, Nat.le_of_ble_eq_true rfl⟩ ⟨rfl, rfl⟩ ⟨Nat.le_of_ble_eq_true rfl, Nat.le_of_ble_eq_true rfl⟩ dX6_longest_62 rfl [none, none, some 0, none, none, none, none, none, none, none] rfl (ws' := cMW G q (w_43.1, p_53.2, w_43.2.2.1, w_43.2.2.2.1, w_43.2.2.2.2.1, w_43.2.2.2.2.2.1, w_43.2.2.2.2.2.2.1, w_43.2.2.2.2.2.2.2.1, w_43.2.2.2.2.2.2.2.2.1, w_43.2.2.2.2.2.2.2.2.2.1, w_43.2.2.2.2.2.2.2.2.2.2.1, w_43.2.2.2.2.2.2.2.2.2.2.2.1, w_43.2.2.2.2.2.2.2.2.2.2.2.2.1, w_43.2.2.2.2.2.2.2.2.2.2.2.2.2)) rfl (fun H locs hW => ?_)
          obtain ⟨p_65, hc_65, h⟩ := of_bind h
          refine x_Si (av := [.int p_62]) F hW (c_X6_bits l G p_62 _ hc_65) [] rfl rfl (by intro q; cases q) cs_X6_148 rfl rfl hl (Nat.le_of_ble_eq_true rfl) ⟨Nat.le_of_ble_eq_true rfl, Nat.le_of_ble_eq_true rfl⟩ ⟨rfl, rfl⟩ ⟨Nat.le_of_ble_eq_true rfl, Nat.le_of_ble_eq_true rfl⟩ dX6_longest_65 rfl [none, none, none, none, none, none, none, none, none, none] rfl (ws' := cMW G q (w_43.1, p_53.2, w_43.2.2.1, w_43.2.2.2.1, w_43.2.2.2.2.1, w_43.2.2.2.2.2.1, w_43.2.2.2.2.2.2.1, w_43.2.2.2.2.2.2.2.1, w_43.2.2.2.2.2.2.2.2.1, w_43.2.2.2.2.2.2.2.2.2.1, w_43.2.2.2.2.2.2.2.2.2.2.1, w_43.2.2.2.2.2.2.2.2.2.2.2.1, w_43.2.2.2.2.2.2.2.2.2.2.2.2.1, w_43.2.2.2.2.2.2.2.2.2.2.2.2.2)) rfl (fun H locs hW => ?_)
          refine lv_iload_n hx hb dX6_longest_68 rfl (lv_at hl 2 rfl) ?_
          obtain ⟨ht_69, hf_69⟩ := of_ite h
          refine lv_icmp_le (tgt := 85) hx hb dX6_longest_69 (by decide) (fun c_69 => ?_) (fun c_69 => ?_)
          · have h := ht_69 c_69
            refine lv_iload_n hx hb dX6_longest_85 rfl (lv_at hl 2 rfl) ?_
            refine lv_istore_n (lv' := [(3, .int v3_43), (5, .int x_56), (4, .int v4_43), (0, .ref (q 0)), (1, .int x1)]) hx hb dX6_longest_86 rfl hl (by decide) rfl (fun ls hl => ?_)
            refine lv_iinc (v := (v4_43 + (1 : Int32))) (lv' := [(4, .int (v4_43 + (1 : Int32))), (3, .int v3_43), (5, .int x_56), (0, .ref (q 0)), (1, .int x1)]) hx hb dX6_longest_87 hl (k := 2) rfl rfl (by decide) rfl (fun ls hl => ?_)
            refine lv_goto (tgt := 43) hx hb dX6_longest_90 (by decide) ?_
            exact ih0 (v4_43 + (1 : Int32)) v3_43 (w_43.1, p_53.2, w_43.2.2.1, w_43.2.2.2.1, w_43.2.2.2.2.1, w_43.2.2.2.2.2.1, w_43.2.2.2.2.2.2.1, w_43.2.2.2.2.2.2.2.1, w_43.2.2.2.2.2.2.2.2.1, w_43.2.2.2.2.2.2.2.2.2.1, w_43.2.2.2.2.2.2.2.2.2.2.1, w_43.2.2.2.2.2.2.2.2.2.2.2.1, w_43.2.2.2.2.2.2.2.2.2.2.2.2.1, w_43.2.2.2.2.2.2.2.2.2.2.2.2.2) _ _ _ h hW (lv_sub hl [0, 1, 3, 4] rfl)
          · have h := hf_69 c_69
            refine lv_aload_n hx hb dX6_longest_72 rfl (lv_at hl 3 rfl) ?_
            refine x_get F hW 0 rfl fa_X6_13 rfl dX6_longest_73 ?_
            obtain ⟨p_76, hc_76, h⟩ := of_bind h
            refine x_Si (av := [.ref (q 2)]) F hW (c_X6_hangIn l G (fun i => q (i + 2)) p_53.2 _ hc_76) [2] rfl rfl (by intro q; cases q) cs_X6_145 rfl rfl hl (Nat.le_of_ble_eq_true rfl) ⟨Nat.le_of_ble_eq_true rfl, Nat.le_of_ble_eq_true rfl⟩ ⟨rfl, rfl⟩ ⟨Nat.le_of_ble_eq_true rfl, Nat.le_of_ble_eq_true rfl⟩ dX6_longest_76 rfl [none, none, some 0, none, none, none, none, none, none, none] rfl (ws' := cMW G q (w_43.1, p_53.2, w_43.2.2.1, w_43.2.2.2.1, w_43.2.2.2.2.1, w_43.2.2.2.2.2.1, w_43.2.2.2.2.2.2.1, w_43.2.2.2.2.2.2.2.1, w_43.2.2.2.2.2.2.2.2.1, w_43.2.2.2.2.2.2.2.2.2.1, w_43.2.2.2.2.2.2.2.2.2.2.1, w_43.2.2.2.2.2.2.2.2.2.2.2.1, w_43.2.2.2.2.2.2.2.2.2.2.2.2.1, w_43.2.2.2.2.2.2.2.2.2.2.2.2.2)) rfl (fun H locs hW => ?_)
            obtain ⟨p_79, hc_79, h⟩ := of_bind h
            refine x_Si (av := [.int p_76]) F hW (c_X6_bits l G p_76 _ hc_79) [] rfl rfl (by intro q; cases q) cs_X6_148 rfl rfl hl (Nat.le_of_ble_eq_true rfl) ⟨Nat.le_of_ble_eq_true rfl, Nat.le_of_ble_eq_true rfl⟩ ⟨rfl, rfl⟩ ⟨Nat.le_of_ble_eq_true rfl, Nat.le_of_ble_eq_true rfl⟩ dX6_longest_79 rfl [none, none, none, none, none, none, none, none, none, none] rfl (ws' := cMW G q (w_43.1, p_53.2, w_43.2.2.1, w_43.2.2.2.1, w_43.2.2.2.2.1, w_43.2.2.2.2.2.1, w_43.2.2.2.2.2.2.1, w_43.2.2.2.2.2.2.2.1, w_43.2.2.2.2.2.2.2.2.1, w_43.2.2.2.2.2.2.2.2.2.1, w_43.2.2.2.2.2.2.2.2.2.2.1, w_43.2.2.2.2.2.2.2.2.2.2.2.1, w_43.2.2.2.2.2.2.2.2.2.2.2.2.1, w_43.2.2.2.2.2.2.2.2.2.2.2.2.2)) rfl (fun H locs hW => ?_)
            refine lv_goto (tgt := 86) hx hb dX6_longest_82 (by decide) ?_
            refine lv_istore_n (lv' := [(3, .int p_79), (5, .int x_56), (4, .int v4_43), (0, .ref (q 0)), (1, .int x1)]) hx hb dX6_longest_86 rfl hl (by decide) rfl (fun ls hl => ?_)
            refine lv_iinc (v := (v4_43 + (1 : Int32))) (lv' := [(4, .int (v4_43 + (1 : Int32))), (3, .int p_79), (5, .int x_56), (0, .ref (q 0)), (1, .int x1)]) hx hb dX6_longest_87 hl (k := 2) rfl rfl (by decide) rfl (fun ls hl => ?_)
            refine lv_goto (tgt := 43) hx hb dX6_longest_90 (by decide) ?_
            exact ih0 (v4_43 + (1 : Int32)) p_79 (w_43.1, p_53.2, w_43.2.2.1, w_43.2.2.2.1, w_43.2.2.2.2.1, w_43.2.2.2.2.2.1, w_43.2.2.2.2.2.2.1, w_43.2.2.2.2.2.2.2.1, w_43.2.2.2.2.2.2.2.2.1, w_43.2.2.2.2.2.2.2.2.2.1, w_43.2.2.2.2.2.2.2.2.2.2.1, w_43.2.2.2.2.2.2.2.2.2.2.2.1, w_43.2.2.2.2.2.2.2.2.2.2.2.2.1, w_43.2.2.2.2.2.2.2.2.2.2.2.2.2) _ _ _ h hW (lv_sub hl [0, 1, 3, 4] rfl)
    exact L0 200 (0 : Int32) p_36 (w.1, p_26, w.2.2.1, w.2.2.2.1, w.2.2.2.2.1, w.2.2.2.2.2.1, w.2.2.2.2.2.2.1, w.2.2.2.2.2.2.2.1, w.2.2.2.2.2.2.2.2.1, w.2.2.2.2.2.2.2.2.2.1, w.2.2.2.2.2.2.2.2.2.2.1, w.2.2.2.2.2.2.2.2.2.2.2.1, w.2.2.2.2.2.2.2.2.2.2.2.2.1, w.2.2.2.2.2.2.2.2.2.2.2.2.2) _ _ _ h hW (lv_sub hl [0, 1, 3, 4] rfl)
  · have h := hf_9 c_9
    refine lv_aload_n hx hb dX6_longest_12 rfl (lv_at hl 1 rfl) ?_
    refine lv_iload_n hx hb dX6_longest_13 rfl (lv_at hl 0 rfl) ?_
    obtain ⟨p_14, hc_14, h⟩ := of_bind h
    refine x_Vi (av := [.ref (q 0), .int p_4]) (As := [.int p_4]) F hW (c_X6_no l G q w p_4 _ hc_14) [0, 1, 2, 3, 4, 5, 6, 7, 8, 9] rfl rfl (by intro q; cases q) cv_X6_39 rfl ⟨_, rfl, rfl⟩ rfl rfl rfl hl (Nat.le_of_ble_eq_true rfl) ⟨Nat.le_of_ble_eq_true rfl, Nat.le_of_ble_eq_true rfl⟩ ⟨rfl, rfl⟩ ⟨Nat.le_of_ble_eq_true rfl, Nat.le_of_ble_eq_true rfl⟩ dX6_longest_14 rfl [some 0, some 1, some 2, some 3, some 4, some 5, some 6, some 7, some 8, some 9] rfl (ws' := cMW G q p_14.2) rfl (fun H locs hW => ?_)
    obtain rfl := Option.some.inj h
    exact x_reti F hr hW rfl dX6_longest_17
def f_X6_fogged_2 : Nat → Int32 → MW → Option (Int32 × MW)
  | 0, _, _ => none
  | n0 + 1, v1_2, w_2 =>
    if (10 : Int32) ≤ v1_2 then
    some ((-9 : Int32), w_2)
    else
    Option.bind (f_X6_copies w_2.1 w_2.2.1) fun p_16 =>
    if inR (2 : Int32) 71 then
    Option.bind (f_X6_hangIn (upd p_16 (2 : Int32).toNatClampNeg v1_2)) fun p_30 =>
    if p_30 = 0 then
    some (v1_2, (w_2.1, (upd p_16 (2 : Int32).toNatClampNeg v1_2), w_2.2.2.1, w_2.2.2.2.1, w_2.2.2.2.2.1, w_2.2.2.2.2.2.1, w_2.2.2.2.2.2.2.1, w_2.2.2.2.2.2.2.2.1, w_2.2.2.2.2.2.2.2.2.1, w_2.2.2.2.2.2.2.2.2.2.1, w_2.2.2.2.2.2.2.2.2.2.2.1, w_2.2.2.2.2.2.2.2.2.2.2.2.1, w_2.2.2.2.2.2.2.2.2.2.2.2.2.1, w_2.2.2.2.2.2.2.2.2.2.2.2.2.2))
    else
    f_X6_fogged_2 n0 (v1_2 + (1 : Int32)) (w_2.1, (upd p_16 (2 : Int32).toNatClampNeg v1_2), w_2.2.2.1, w_2.2.2.2.1, w_2.2.2.2.2.1, w_2.2.2.2.2.2.1, w_2.2.2.2.2.2.2.1, w_2.2.2.2.2.2.2.2.1, w_2.2.2.2.2.2.2.2.2.1, w_2.2.2.2.2.2.2.2.2.2.1, w_2.2.2.2.2.2.2.2.2.2.2.1, w_2.2.2.2.2.2.2.2.2.2.2.2.1, w_2.2.2.2.2.2.2.2.2.2.2.2.2.1, w_2.2.2.2.2.2.2.2.2.2.2.2.2.2)
    else none
def f_X6_fogged (w : MW) : Option (Int32 × MW) :=
  f_X6_fogged_2 200 (0 : Int32) w
abbrev rmX6_fogged : Room := { frames := 5, cells := 0, slots := 0, locals := 115 }
set_option maxRecDepth 100000 in
set_option maxHeartbeats 4000000 in
theorem c_X6_fogged (l : Launch) (G : EnT) (q : Nat → Nat) (w : MW) (o : Int32 × MW) (h : f_X6_fogged w = some o) : Mi l yX6_fogged rmX6_fogged cX6_fogged 2 (some .int) G false [.ref (q 0)] (cMW G q w) o.1 (cMW G q o.2) := by
  refine Mi_of (by decide) (Nat.le_of_ble_eq_true rfl) ?_
  intro p e s m below meth c A0 F hr hW ls hl
  obtain ⟨hx, hb, hml, hown, hts, hK, hNW, hlocks, hA, hSX⟩ := id F
  have hl : lv_has ls 2 [(0, .ref (q 0))] := hl
  have hW : Wd G A0 s (cMW G q w) s.heap [] := hW
  show W p l e rmX6_fogged s m ([.ref (q 0)] : List Value).toArray below meth c s.heap [] 0 0 (Qi below G (cMW G q o.2) o.1 A0 ([.ref (q 0)] : List Value).toArray s) (F0 m 0 ls [])
  refine lv_iconst (v := (0 : Int32)) hx hb dX6_fogged_0 (by decide) ?_
  refine lv_istore_n (lv' := [(1, .int (0 : Int32)), (0, .ref (q 0))]) hx hb dX6_fogged_1 rfl hl (by decide) rfl (fun ls hl => ?_)
  have L0 : ∀ (n0 : Nat) (v1_2 : Int32) (w_2 : MW) (H : Heap) (locs : List Loc) (ls : Array Slot), f_X6_fogged_2 n0 v1_2 w_2 = some o → Wd G A0 s (cMW G q w_2) H locs → lv_has ls 2 [(1, .int v1_2), (0, .ref (q 0))] → W p l e rmX6_fogged s m ([.ref (q 0)] : List Value).toArray below meth c H locs 0 0 (Qi below G (cMW G q o.2) o.1 A0 ([.ref (q 0)] : List Value).toArray s) (F0 m 2 ls []) := by
    intro n0
    induction n0 with
    | zero => intro v1_2 w_2 H locs ls h; cases (show (none : Option (Int32 × MW)) = some o from h)
    | succ n0 ih0 =>
      intro v1_2 w_2 H locs ls h hW hl
      refine lv_iload_n hx hb dX6_fogged_2 rfl (lv_at hl 0 rfl) ?_
      refine lv_bipush (v := (10 : Int32)) hx hb dX6_fogged_3 (by decide) ?_
      obtain ⟨ht_5, hf_5⟩ := of_ite h
      refine lv_icmp_ge (tgt := 44) hx hb dX6_fogged_5 (by decide) (fun c_5 => ?_) (fun c_5 => ?_)
      · have h := ht_5 c_5
        refine lv_bipush (v := (-9 : Int32)) hx hb dX6_fogged_44 (by decide) ?_
        obtain rfl := Option.some.inj h
        exact x_reti F hr hW rfl dX6_fogged_46
      · have h := hf_5 c_5
        refine lv_aload_n hx hb dX6_fogged_8 rfl (lv_at hl 1 rfl) ?_
        refine x_get F hW 0 rfl fa_X6_9 rfl dX6_fogged_9 ?_
        refine lv_aload_n hx hb dX6_fogged_12 rfl (lv_at hl 1 rfl) ?_
        refine x_get F hW 0 rfl fa_X6_13 rfl dX6_fogged_13 ?_
        obtain ⟨p_16, hc_16, h⟩ := of_bind h
        refine x_Sv (av := [.ref (q 1), .ref (q 2)]) F hW (c_X6_copies l G (fun i => q (i + 1)) w_2.1 (fun i => q (i + 2)) w_2.2.1 _ hc_16) [1, 2] rfl rfl (by intro q; cases q) cs_X6_134 rfl rfl hl (Nat.le_of_ble_eq_true rfl) ⟨Nat.le_of_ble_eq_true rfl, Nat.le_of_ble_eq_true rfl⟩ ⟨rfl, rfl⟩ ⟨Nat.le_of_ble_eq_true rfl, Nat.le_of_ble_eq_true rfl⟩ dX6_fogged_16 rfl [none, some 0, some 1, none, none, none, none, none, none, none] rfl (ws' := cMW G q (w_2.1, p_16, w_2.2.2.1, w_2.2.2.2.1, w_2.2.2.2.2.1, w_2.2.2.2.2.2.1, w_2.2.2.2.2.2.2.1, w_2.2.2.2.2.2.2.2.1, w_2.2.2.2.2.2.2.2.2.1, w_2.2.2.2.2.2.2.2.2.2.1, w_2.2.2.2.2.2.2.2.2.2.2.1, w_2.2.2.2.2.2.2.2.2.2.2.2.1, w_2.2.2.2.2.2.2.2.2.2.2.2.2.1, w_2.2.2.2.2.2.2.2.2.2.2.2.2.2)) rfl (fun H locs hW => ?_)
        refine lv_aload_n hx hb dX6_fogged_19 rfl (lv_at hl 1 rfl) ?_
        refine x_get F hW 0 rfl fa_X6_13 rfl dX6_fogged_20 ?_
        refine lv_iconst (v := (2 : Int32)) hx hb dX6_fogged_23 (by decide) ?_
        refine lv_iload_n hx hb dX6_fogged_24 rfl (lv_at hl 0 rfl) ?_
        obtain ⟨g_25, h⟩ := of_guard h
        refine x_iast F hW 2 rfl g_25 (ws' := cMW G q (w_2.1, (upd p_16 (2 : Int32).toNatClampNeg v1_2), w_2.2.2.1, w_2.2.2.2.1, w_2.2.2.2.2.1, w_2.2.2.2.2.2.1, w_2.2.2.2.2.2.2.1, w_2.2.2.2.2.2.2.2.1, w_2.2.2.2.2.2.2.2.2.1, w_2.2.2.2.2.2.2.2.2.2.1, w_2.2.2.2.2.2.2.2.2.2.2.1, w_2.2.2.2.2.2.2.2.2.2.2.2.1, w_2.2.2.2.2.2.2.2.2.2.2.2.2.1, w_2.2.2.2.2.2.2.2.2.2.2.2.2.2)) rfl dX6_fogged_25 (fun H locs hW => ?_)
        refine lv_aload_n hx hb dX6_fogged_26 rfl (lv_at hl 1 rfl) ?_
        refine x_get F hW 0 rfl fa_X6_13 rfl dX6_fogged_27 ?_
        obtain ⟨p_30, hc_30, h⟩ := of_bind h
        refine x_Si (av := [.ref (q 2)]) F hW (c_X6_hangIn l G (fun i => q (i + 2)) (upd p_16 (2 : Int32).toNatClampNeg v1_2) _ hc_30) [2] rfl rfl (by intro q; cases q) cs_X6_145 rfl rfl hl (Nat.le_of_ble_eq_true rfl) ⟨Nat.le_of_ble_eq_true rfl, Nat.le_of_ble_eq_true rfl⟩ ⟨rfl, rfl⟩ ⟨Nat.le_of_ble_eq_true rfl, Nat.le_of_ble_eq_true rfl⟩ dX6_fogged_30 rfl [none, none, some 0, none, none, none, none, none, none, none] rfl (ws' := cMW G q (w_2.1, (upd p_16 (2 : Int32).toNatClampNeg v1_2), w_2.2.2.1, w_2.2.2.2.1, w_2.2.2.2.2.1, w_2.2.2.2.2.2.1, w_2.2.2.2.2.2.2.1, w_2.2.2.2.2.2.2.2.1, w_2.2.2.2.2.2.2.2.2.1, w_2.2.2.2.2.2.2.2.2.2.1, w_2.2.2.2.2.2.2.2.2.2.2.1, w_2.2.2.2.2.2.2.2.2.2.2.2.1, w_2.2.2.2.2.2.2.2.2.2.2.2.2.1, w_2.2.2.2.2.2.2.2.2.2.2.2.2.2)) rfl (fun H locs hW => ?_)
        obtain ⟨ht_33, hf_33⟩ := of_ite h
        refine lv_if_ne (tgt := 38) hx hb dX6_fogged_33 (by decide) (fun c_33 => ?_) (fun c_33 => ?_)
        · have h := hf_33 c_33
          refine lv_iinc (v := (v1_2 + (1 : Int32))) (lv' := [(1, .int (v1_2 + (1 : Int32))), (0, .ref (q 0))]) hx hb dX6_fogged_38 hl (k := 0) rfl rfl (by decide) rfl (fun ls hl => ?_)
          refine lv_goto (tgt := 2) hx hb dX6_fogged_41 (by decide) ?_
          exact ih0 (v1_2 + (1 : Int32)) (w_2.1, (upd p_16 (2 : Int32).toNatClampNeg v1_2), w_2.2.2.1, w_2.2.2.2.1, w_2.2.2.2.2.1, w_2.2.2.2.2.2.1, w_2.2.2.2.2.2.2.1, w_2.2.2.2.2.2.2.2.1, w_2.2.2.2.2.2.2.2.2.1, w_2.2.2.2.2.2.2.2.2.2.1, w_2.2.2.2.2.2.2.2.2.2.2.1, w_2.2.2.2.2.2.2.2.2.2.2.2.1, w_2.2.2.2.2.2.2.2.2.2.2.2.2.1, w_2.2.2.2.2.2.2.2.2.2.2.2.2.2) _ _ _ h hW (lv_sub hl [0, 1] rfl)
        · have h := ht_33 c_33
          refine lv_iload_n hx hb dX6_fogged_36 rfl (lv_at hl 0 rfl) ?_
          obtain rfl := Option.some.inj h
          exact x_reti F hr hW rfl dX6_fogged_37
  exact L0 200 (0 : Int32) w _ _ _ h hW (lv_sub hl [0, 1] rfl)
def f_X6_highest_4 (w : MW) : Nat → Int32 → Int32 → Option (Int32)
  | 0, _, _ => none
  | n0 + 1, v2_4, v1_4 =>
    if (20 : Int32) ≤ v2_4 then
    some v1_4
    else
    if inR ((3 : Int32) + v2_4) 71 then
    if inR ((3 : Int32) + v1_4) 71 then
    if (w.1 ((3 : Int32) + v2_4).toNatClampNeg) ≤ (w.1 ((3 : Int32) + v1_4).toNatClampNeg) then
    f_X6_highest_4 w n0 (v2_4 + (1 : Int32)) v1_4
    else
    f_X6_highest_4 w n0 (v2_4 + (1 : Int32)) v2_4
    else none
    else none
def f_X6_highest (w : MW) : Option (Int32) :=
  f_X6_highest_4 w 200 (0 : Int32) (0 : Int32)
abbrev rmX6_highest : Room := { frames := 0, cells := 0, slots := 0, locals := 0 }
set_option maxRecDepth 100000 in
set_option maxHeartbeats 4000000 in
theorem c_X6_highest (l : Launch) (G : EnT) (q : Nat → Nat) (w : MW) (o : Int32) (h : f_X6_highest w = some o) : Mi l yX6_highest rmX6_highest cX6_highest 3 (some .int) G false [.ref (q 0)] (cMW G q w) o (cMW G q w) := by
  refine Mi_of (by decide) (Nat.le_of_ble_eq_true rfl) ?_
  intro p e s m below meth c A0 F hr hW ls hl
  obtain ⟨hx, hb, hml, hown, hts, hK, hNW, hlocks, hA, hSX⟩ := id F
  have hl : lv_has ls 3 [(0, .ref (q 0))] := hl
  have hW : Wd G A0 s (cMW G q w) s.heap [] := hW
  show W p l e rmX6_highest s m ([.ref (q 0)] : List Value).toArray below meth c s.heap [] 0 0 (Qi below G (cMW G q w) o A0 ([.ref (q 0)] : List Value).toArray s) (F0 m 0 ls [])
  refine lv_iconst (v := (0 : Int32)) hx hb dX6_highest_0 (by decide) ?_
  refine lv_istore_n (lv' := [(1, .int (0 : Int32)), (0, .ref (q 0))]) hx hb dX6_highest_1 rfl hl (by decide) rfl (fun ls hl => ?_)
  refine lv_iconst (v := (0 : Int32)) hx hb dX6_highest_2 (by decide) ?_
  refine lv_istore_n (lv' := [(2, .int (0 : Int32)), (1, .int (0 : Int32)), (0, .ref (q 0))]) hx hb dX6_highest_3 rfl hl (by decide) rfl (fun ls hl => ?_)
  have L0 : ∀ (n0 : Nat) (v2_4 : Int32) (v1_4 : Int32) (H : Heap) (locs : List Loc) (ls : Array Slot), f_X6_highest_4 w n0 v2_4 v1_4 = some o → Wd G A0 s (cMW G q w) H locs → lv_has ls 3 [(2, .int v2_4), (1, .int v1_4), (0, .ref (q 0))] → W p l e rmX6_highest s m ([.ref (q 0)] : List Value).toArray below meth c H locs 0 0 (Qi below G (cMW G q w) o A0 ([.ref (q 0)] : List Value).toArray s) (F0 m 4 ls []) := by
    intro n0
    induction n0 with
    | zero => intro v2_4 v1_4 H locs ls h; cases (show (none : Option (Int32)) = some o from h)
    | succ n0 ih0 =>
      intro v2_4 v1_4 H locs ls h hW hl
      refine lv_iload_n hx hb dX6_highest_4 rfl (lv_at hl 0 rfl) ?_
      refine lv_bipush (v := (20 : Int32)) hx hb dX6_highest_5 (by decide) ?_
      obtain ⟨ht_7, hf_7⟩ := of_ite h
      refine lv_icmp_ge (tgt := 37) hx hb dX6_highest_7 (by decide) (fun c_7 => ?_) (fun c_7 => ?_)
      · have h := ht_7 c_7
        refine lv_iload_n hx hb dX6_highest_37 rfl (lv_at hl 1 rfl) ?_
        obtain rfl := Option.some.inj h
        exact x_reti F hr hW rfl dX6_highest_38
      · have h := hf_7 c_7
        refine lv_aload_n hx hb dX6_highest_10 rfl (lv_at hl 2 rfl) ?_
        refine x_get F hW 0 rfl fa_X6_9 rfl dX6_highest_11 ?_
        refine lv_iconst (v := (3 : Int32)) hx hb dX6_highest_14 (by decide) ?_
        refine lv_iload_n hx hb dX6_highest_15 rfl (lv_at hl 0 rfl) ?_
        refine lv_iadd hx hb dX6_highest_16 ?_
        obtain ⟨g_17, h⟩ := of_guard h
        refine x_iald F hW 1 rfl g_17 dX6_highest_17 ?_
        refine lv_aload_n hx hb dX6_highest_18 rfl (lv_at hl 2 rfl) ?_
        refine x_get F hW 0 rfl fa_X6_9 rfl dX6_highest_19 ?_
        refine lv_iconst (v := (3 : Int32)) hx hb dX6_highest_22 (by decide) ?_
        refine lv_iload_n hx hb dX6_highest_23 rfl (lv_at hl 1 rfl) ?_
        refine lv_iadd hx hb dX6_highest_24 ?_
        obtain ⟨g_25, h⟩ := of_guard h
        refine x_iald F hW 1 rfl g_25 dX6_highest_25 ?_
        obtain ⟨ht_26, hf_26⟩ := of_ite h
        refine lv_icmp_le (tgt := 31) hx hb dX6_highest_26 (by decide) (fun c_26 => ?_) (fun c_26 => ?_)
        · have h := ht_26 c_26
          refine lv_iinc (v := (v2_4 + (1 : Int32))) (lv' := [(2, .int (v2_4 + (1 : Int32))), (1, .int v1_4), (0, .ref (q 0))]) hx hb dX6_highest_31 hl (k := 0) rfl rfl (by decide) rfl (fun ls hl => ?_)
          refine lv_goto (tgt := 4) hx hb dX6_highest_34 (by decide) ?_
          exact ih0 (v2_4 + (1 : Int32)) v1_4 _ _ _ h hW (lv_sub hl [0, 1, 2] rfl)
        · have h := hf_26 c_26
          refine lv_iload_n hx hb dX6_highest_29 rfl (lv_at hl 0 rfl) ?_
          refine lv_istore_n (lv' := [(1, .int v2_4), (2, .int v2_4), (0, .ref (q 0))]) hx hb dX6_highest_30 rfl hl (by decide) rfl (fun ls hl => ?_)
          refine lv_iinc (v := (v2_4 + (1 : Int32))) (lv' := [(2, .int (v2_4 + (1 : Int32))), (1, .int v2_4), (0, .ref (q 0))]) hx hb dX6_highest_31 hl (k := 1) rfl rfl (by decide) rfl (fun ls hl => ?_)
          refine lv_goto (tgt := 4) hx hb dX6_highest_34 (by decide) ?_
          exact ih0 (v2_4 + (1 : Int32)) v2_4 _ _ _ h hW (lv_sub hl [0, 1, 2] rfl)
  exact L0 200 (0 : Int32) (0 : Int32) _ _ _ h hW (lv_sub hl [0, 1, 2] rfl)
def f_X6_hasBy_69 (k0 : Int32 → Int32 → MW → Option (Int32 × MW)) (x1 : Int32) (x2 : Int32) (x3 : Int32) (x5 : Int32) (v7_69 : Int32) (t0_69 : Int32) (t1_69 : Int32) (w_69 : MW) : Option (Int32 × MW) :=
  if x1 = x2 then
    nm (t1_69 + (t0_69 - x3)) fun x_82_2 =>
    Option.bind (f_X6_night w_69.2.1) fun p_88_2 =>
    nm p_88_2.1 fun x_91_2 =>
    k0 (v7_69 + (1 : Int32)) x_82_2 (w_69.1, p_88_2.2, w_69.2.2.1, w_69.2.2.2.1, w_69.2.2.2.2.1, w_69.2.2.2.2.2.1, w_69.2.2.2.2.2.2.1, w_69.2.2.2.2.2.2.2.1, w_69.2.2.2.2.2.2.2.2.1, w_69.2.2.2.2.2.2.2.2.2.1, w_69.2.2.2.2.2.2.2.2.2.2.1, w_69.2.2.2.2.2.2.2.2.2.2.2.1, w_69.2.2.2.2.2.2.2.2.2.2.2.2.1, w_69.2.2.2.2.2.2.2.2.2.2.2.2.2)
    else
    nm (t1_69 + (t0_69 - x5)) fun x_82 =>
    Option.bind (f_X6_night w_69.2.1) fun p_88 =>
    nm p_88.1 fun x_91 =>
    k0 (v7_69 + (1 : Int32)) x_82 (w_69.1, p_88.2, w_69.2.2.1, w_69.2.2.2.1, w_69.2.2.2.2.1, w_69.2.2.2.2.2.1, w_69.2.2.2.2.2.2.1, w_69.2.2.2.2.2.2.2.1, w_69.2.2.2.2.2.2.2.2.1, w_69.2.2.2.2.2.2.2.2.2.1, w_69.2.2.2.2.2.2.2.2.2.2.1, w_69.2.2.2.2.2.2.2.2.2.2.2.1, w_69.2.2.2.2.2.2.2.2.2.2.2.2.1, w_69.2.2.2.2.2.2.2.2.2.2.2.2.2)
def f_X6_hasBy_41 (x1 : Int32) (x2 : Int32) (x3 : Int32) (x5 : Int32) : Nat → Int32 → Int32 → MW → Option (Int32 × MW)
  | 0, _, _, _ => none
  | n0 + 1, v7_41, v6_41, w_41 =>
    if (6 : Int32) ≤ v7_41 then
    some (v6_41, w_41)
    else
    Option.bind (f_X6_hangIn w_41.2.1) fun p_54 =>
    Option.bind (f_X6_has p_54 x1) fun p_58 =>
    if p_58 = 0 then
    f_X6_hasBy_69 (fun a0 a1 a2 => f_X6_hasBy_41 x1 x2 x3 x5 n0 a0 a1 a2) x1 x2 x3 x5 v7_41 (0 : Int32) v6_41 w_41
    else
    f_X6_hasBy_69 (fun a0 a1 a2 => f_X6_hasBy_41 x1 x2 x3 x5 n0 a0 a1 a2) x1 x2 x3 x5 v7_41 (2 : Int32) v6_41 w_41
def f_X6_hasBy (w : MW) (x1 : Int32) (x2 : Int32) (x3 : Int32) (x4 : Int32) (x5 : Int32) : Option (Int32 × MW) :=
  Option.bind (f_X6_copies w.1 w.2.1) fun p_8 =>
    Option.bind (f_X6_of x2 (4 : Int32)) fun p_17 =>
    if inR p_17 71 then
    Option.bind (f_X6_of x4 (4 : Int32)) fun p_29 =>
    if inR p_29 71 then
    f_X6_hasBy_41 x1 x2 x3 x5 200 (0 : Int32) (0 : Int32) (w.1, (upd (upd p_8 p_17.toNatClampNeg x3) p_29.toNatClampNeg x5), w.2.2.1, w.2.2.2.1, w.2.2.2.2.1, w.2.2.2.2.2.1, w.2.2.2.2.2.2.1, w.2.2.2.2.2.2.2.1, w.2.2.2.2.2.2.2.2.1, w.2.2.2.2.2.2.2.2.2.1, w.2.2.2.2.2.2.2.2.2.2.1, w.2.2.2.2.2.2.2.2.2.2.2.1, w.2.2.2.2.2.2.2.2.2.2.2.2.1, w.2.2.2.2.2.2.2.2.2.2.2.2.2)
    else none
    else none
abbrev rmX6_hasBy : Room := { frames := 5, cells := 0, slots := 0, locals := 115 }
set_option maxRecDepth 100000 in
set_option maxHeartbeats 4000000 in
theorem c_X6_hasBy (l : Launch) (G : EnT) (q : Nat → Nat) (w : MW) (x1 : Int32) (x2 : Int32) (x3 : Int32) (x4 : Int32) (x5 : Int32) (o : Int32 × MW) (h : f_X6_hasBy w x1 x2 x3 x4 x5 = some o) : Mi l yX6_hasBy rmX6_hasBy cX6_hasBy 9 (some .int) G false [.ref (q 0), .int x1, .int x2, .int x3, .int x4, .int x5] (cMW G q w) o.1 (cMW G q o.2) := by
  refine Mi_of (by decide) (Nat.le_of_ble_eq_true rfl) ?_
  intro p e s m below meth c A0 F hr hW ls hl
  obtain ⟨hx, hb, hml, hown, hts, hK, hNW, hlocks, hA, hSX⟩ := id F
  have hl : lv_has ls 9 [(0, .ref (q 0)), (1, .int x1), (2, .int x2), (3, .int x3), (4, .int x4), (5, .int x5)] := hl
  have hW : Wd G A0 s (cMW G q w) s.heap [] := hW
  show W p l e rmX6_hasBy s m ([.ref (q 0), .int x1, .int x2, .int x3, .int x4, .int x5] : List Value).toArray below meth c s.heap [] 0 0 (Qi below G (cMW G q o.2) o.1 A0 ([.ref (q 0), .int x1, .int x2, .int x3, .int x4, .int x5] : List Value).toArray s) (F0 m 0 ls [])
  refine lv_aload_n hx hb dX6_hasBy_0 rfl (lv_at hl 0 rfl) ?_
  refine x_get F hW 0 rfl fa_X6_9 rfl dX6_hasBy_1 ?_
  refine lv_aload_n hx hb dX6_hasBy_4 rfl (lv_at hl 0 rfl) ?_
  refine x_get F hW 0 rfl fa_X6_13 rfl dX6_hasBy_5 ?_
  obtain ⟨p_8, hc_8, h⟩ := of_bind h
  refine x_Sv (av := [.ref (q 1), .ref (q 2)]) F hW (c_X6_copies l G (fun i => q (i + 1)) w.1 (fun i => q (i + 2)) w.2.1 _ hc_8) [1, 2] rfl rfl (by intro q; cases q) cs_X6_134 rfl rfl hl (Nat.le_of_ble_eq_true rfl) ⟨Nat.le_of_ble_eq_true rfl, Nat.le_of_ble_eq_true rfl⟩ ⟨rfl, rfl⟩ ⟨Nat.le_of_ble_eq_true rfl, Nat.le_of_ble_eq_true rfl⟩ dX6_hasBy_8 rfl [none, some 0, some 1, none, none, none, none, none, none, none] rfl (ws' := cMW G q (w.1, p_8, w.2.2.1, w.2.2.2.1, w.2.2.2.2.1, w.2.2.2.2.2.1, w.2.2.2.2.2.2.1, w.2.2.2.2.2.2.2.1, w.2.2.2.2.2.2.2.2.1, w.2.2.2.2.2.2.2.2.2.1, w.2.2.2.2.2.2.2.2.2.2.1, w.2.2.2.2.2.2.2.2.2.2.2.1, w.2.2.2.2.2.2.2.2.2.2.2.2.1, w.2.2.2.2.2.2.2.2.2.2.2.2.2)) rfl (fun H locs hW => ?_)
  refine lv_aload_n hx hb dX6_hasBy_11 rfl (lv_at hl 0 rfl) ?_
  refine x_get F hW 0 rfl fa_X6_13 rfl dX6_hasBy_12 ?_
  refine lv_iload_n hx hb dX6_hasBy_15 rfl (lv_at hl 2 rfl) ?_
  refine lv_iconst (v := (4 : Int32)) hx hb dX6_hasBy_16 (by decide) ?_
  obtain ⟨p_17, hc_17, h⟩ := of_bind h
  refine x_Si (av := [.int x2, .int (4 : Int32)]) F hW (c_X6_of l G x2 (4 : Int32) _ hc_17) [] rfl rfl (by intro q; cases q) cs_X6_47 rfl rfl hl (Nat.le_of_ble_eq_true rfl) ⟨Nat.le_of_ble_eq_true rfl, Nat.le_of_ble_eq_true rfl⟩ ⟨rfl, rfl⟩ ⟨Nat.le_of_ble_eq_true rfl, Nat.le_of_ble_eq_true rfl⟩ dX6_hasBy_17 rfl [none, none, none, none, none, none, none, none, none, none] rfl (ws' := cMW G q (w.1, p_8, w.2.2.1, w.2.2.2.1, w.2.2.2.2.1, w.2.2.2.2.2.1, w.2.2.2.2.2.2.1, w.2.2.2.2.2.2.2.1, w.2.2.2.2.2.2.2.2.1, w.2.2.2.2.2.2.2.2.2.1, w.2.2.2.2.2.2.2.2.2.2.1, w.2.2.2.2.2.2.2.2.2.2.2.1, w.2.2.2.2.2.2.2.2.2.2.2.2.1, w.2.2.2.2.2.2.2.2.2.2.2.2.2)) rfl (fun H locs hW => ?_)
  refine lv_iload_n hx hb dX6_hasBy_20 rfl (lv_at hl 3 rfl) ?_
  obtain ⟨g_21, h⟩ := of_guard h
  refine x_iast F hW 2 rfl g_21 (ws' := cMW G q (w.1, (upd p_8 p_17.toNatClampNeg x3), w.2.2.1, w.2.2.2.1, w.2.2.2.2.1, w.2.2.2.2.2.1, w.2.2.2.2.2.2.1, w.2.2.2.2.2.2.2.1, w.2.2.2.2.2.2.2.2.1, w.2.2.2.2.2.2.2.2.2.1, w.2.2.2.2.2.2.2.2.2.2.1, w.2.2.2.2.2.2.2.2.2.2.2.1, w.2.2.2.2.2.2.2.2.2.2.2.2.1, w.2.2.2.2.2.2.2.2.2.2.2.2.2)) rfl dX6_hasBy_21 (fun H locs hW => ?_)
  refine lv_aload_n hx hb dX6_hasBy_22 rfl (lv_at hl 0 rfl) ?_
  refine x_get F hW 0 rfl fa_X6_13 rfl dX6_hasBy_23 ?_
  refine lv_iload hx hb dX6_hasBy_26 (lv_at hl 4 rfl) ?_
  refine lv_iconst (v := (4 : Int32)) hx hb dX6_hasBy_28 (by decide) ?_
  obtain ⟨p_29, hc_29, h⟩ := of_bind h
  refine x_Si (av := [.int x4, .int (4 : Int32)]) F hW (c_X6_of l G x4 (4 : Int32) _ hc_29) [] rfl rfl (by intro q; cases q) cs_X6_47 rfl rfl hl (Nat.le_of_ble_eq_true rfl) ⟨Nat.le_of_ble_eq_true rfl, Nat.le_of_ble_eq_true rfl⟩ ⟨rfl, rfl⟩ ⟨Nat.le_of_ble_eq_true rfl, Nat.le_of_ble_eq_true rfl⟩ dX6_hasBy_29 rfl [none, none, none, none, none, none, none, none, none, none] rfl (ws' := cMW G q (w.1, (upd p_8 p_17.toNatClampNeg x3), w.2.2.1, w.2.2.2.1, w.2.2.2.2.1, w.2.2.2.2.2.1, w.2.2.2.2.2.2.1, w.2.2.2.2.2.2.2.1, w.2.2.2.2.2.2.2.2.1, w.2.2.2.2.2.2.2.2.2.1, w.2.2.2.2.2.2.2.2.2.2.1, w.2.2.2.2.2.2.2.2.2.2.2.1, w.2.2.2.2.2.2.2.2.2.2.2.2.1, w.2.2.2.2.2.2.2.2.2.2.2.2.2)) rfl (fun H locs hW => ?_)
  refine lv_iload hx hb dX6_hasBy_32 (lv_at hl 5 rfl) ?_
  obtain ⟨g_34, h⟩ := of_guard h
  refine x_iast F hW 2 rfl g_34 (ws' := cMW G q (w.1, (upd (upd p_8 p_17.toNatClampNeg x3) p_29.toNatClampNeg x5), w.2.2.1, w.2.2.2.1, w.2.2.2.2.1, w.2.2.2.2.2.1, w.2.2.2.2.2.2.1, w.2.2.2.2.2.2.2.1, w.2.2.2.2.2.2.2.2.1, w.2.2.2.2.2.2.2.2.2.1, w.2.2.2.2.2.2.2.2.2.2.1, w.2.2.2.2.2.2.2.2.2.2.2.1, w.2.2.2.2.2.2.2.2.2.2.2.2.1, w.2.2.2.2.2.2.2.2.2.2.2.2.2)) rfl dX6_hasBy_34 (fun H locs hW => ?_)
  refine lv_iconst (v := (0 : Int32)) hx hb dX6_hasBy_35 (by decide) ?_
  refine lv_istore (lv' := [(6, .int (0 : Int32)), (0, .ref (q 0)), (1, .int x1), (2, .int x2), (3, .int x3), (4, .int x4), (5, .int x5)]) hx hb dX6_hasBy_36 hl (by decide) rfl (fun ls hl => ?_)
  refine lv_iconst (v := (0 : Int32)) hx hb dX6_hasBy_38 (by decide) ?_
  refine lv_istore (lv' := [(7, .int (0 : Int32)), (6, .int (0 : Int32)), (0, .ref (q 0)), (1, .int x1), (2, .int x2), (3, .int x3), (4, .int x4), (5, .int x5)]) hx hb dX6_hasBy_39 hl (by decide) rfl (fun ls hl => ?_)
  have L0 : ∀ (n0 : Nat) (v7_41 : Int32) (v6_41 : Int32) (w_41 : MW) (H : Heap) (locs : List Loc) (ls : Array Slot), f_X6_hasBy_41 x1 x2 x3 x5 n0 v7_41 v6_41 w_41 = some o → Wd G A0 s (cMW G q w_41) H locs → lv_has ls 9 [(7, .int v7_41), (6, .int v6_41), (0, .ref (q 0)), (1, .int x1), (2, .int x2), (3, .int x3), (5, .int x5)] → W p l e rmX6_hasBy s m ([.ref (q 0), .int x1, .int x2, .int x3, .int x4, .int x5] : List Value).toArray below meth c H locs 0 0 (Qi below G (cMW G q o.2) o.1 A0 ([.ref (q 0), .int x1, .int x2, .int x3, .int x4, .int x5] : List Value).toArray s) (F0 m 41 ls []) := by
    intro n0
    induction n0 with
    | zero => intro v7_41 v6_41 w_41 H locs ls h; cases (show (none : Option (Int32 × MW)) = some o from h)
    | succ n0 ih0 =>
      intro v7_41 v6_41 w_41 H locs ls h hW hl
      have J1 : ∀ (v7_69 : Int32) (t0_69 : Int32) (t1_69 : Int32) (w_69 : MW) (H : Heap) (locs : List Loc) (ls : Array Slot), f_X6_hasBy_69 (fun a0 a1 a2 => f_X6_hasBy_41 x1 x2 x3 x5 n0 a0 a1 a2) x1 x2 x3 x5 v7_69 t0_69 t1_69 w_69 = some o → Wd G A0 s (cMW G q w_69) H locs → lv_has ls 9 [(7, .int v7_69), (0, .ref (q 0)), (1, .int x1), (2, .int x2), (3, .int x3), (5, .int x5)] → W p l e rmX6_hasBy s m ([.ref (q 0), .int x1, .int x2, .int x3, .int x4, .int x5] : List Value).toArray below meth c H locs 0 0 (Qi below G (cMW G q o.2) o.1 A0 ([.ref (q 0), .int x1, .int x2, .int x3, .int x4, .int x5] : List Value).toArray s) (F0 m 69 ls [.int t0_69, .int t1_69]) := by
        intro v7_69 t0_69 t1_69 w_69 H locs ls h hW hl
        refine lv_iload_n hx hb dX6_hasBy_69 rfl (lv_at hl 2 rfl) ?_
        refine lv_iload_n hx hb dX6_hasBy_70 rfl (lv_at hl 3 rfl) ?_
        obtain ⟨ht_71, hf_71⟩ := of_ite h
        refine lv_icmp_ne (tgt := 78) hx hb dX6_hasBy_71 (by decide) (fun c_71 => ?_) (fun c_71 => ?_)
        · have h := hf_71 c_71
          refine lv_iload hx hb dX6_hasBy_78 (lv_at hl 5 rfl) ?_
          refine lv_isub hx hb dX6_hasBy_80 ?_
          refine lv_iadd hx hb dX6_hasBy_81 ?_
          obtain ⟨x_82, e_x_82, h⟩ := of_nm h
          refine x_topi e_x_82 ?_
          refine lv_istore (lv' := [(6, .int x_82), (7, .int v7_69), (0, .ref (q 0)), (1, .int x1), (2, .int x2), (3, .int x3), (5, .int x5)]) hx hb dX6_hasBy_82 hl (by decide) rfl (fun ls hl => ?_)
          refine lv_aload_n hx hb dX6_hasBy_84 rfl (lv_at hl 2 rfl) ?_
          refine x_get F hW 0 rfl fa_X6_13 rfl dX6_hasBy_85 ?_
          obtain ⟨p_88, hc_88, h⟩ := of_bind h
          refine x_Si (av := [.ref (q 2)]) F hW (c_X6_night l G (fun i => q (i + 2)) w_69.2.1 _ hc_88) [2] rfl rfl (by intro q; cases q) cs_X6_90 rfl rfl hl (Nat.le_of_ble_eq_true rfl) ⟨Nat.le_of_ble_eq_true rfl, Nat.le_of_ble_eq_true rfl⟩ ⟨rfl, rfl⟩ ⟨Nat.le_of_ble_eq_true rfl, Nat.le_of_ble_eq_true rfl⟩ dX6_hasBy_88 rfl [none, none, some 0, none, none, none, none, none, none, none] rfl (ws' := cMW G q (w_69.1, p_88.2, w_69.2.2.1, w_69.2.2.2.1, w_69.2.2.2.2.1, w_69.2.2.2.2.2.1, w_69.2.2.2.2.2.2.1, w_69.2.2.2.2.2.2.2.1, w_69.2.2.2.2.2.2.2.2.1, w_69.2.2.2.2.2.2.2.2.2.1, w_69.2.2.2.2.2.2.2.2.2.2.1, w_69.2.2.2.2.2.2.2.2.2.2.2.1, w_69.2.2.2.2.2.2.2.2.2.2.2.2.1, w_69.2.2.2.2.2.2.2.2.2.2.2.2.2)) rfl (fun H locs hW => ?_)
          obtain ⟨x_91, e_x_91, h⟩ := of_nm h
          refine x_topi e_x_91 ?_
          refine lv_istore (lv' := [(8, .int x_91), (6, .int x_82), (7, .int v7_69), (0, .ref (q 0)), (1, .int x1), (2, .int x2), (3, .int x3), (5, .int x5)]) hx hb dX6_hasBy_91 hl (by decide) rfl (fun ls hl => ?_)
          refine lv_iinc (v := (v7_69 + (1 : Int32))) (lv' := [(7, .int (v7_69 + (1 : Int32))), (8, .int x_91), (6, .int x_82), (0, .ref (q 0)), (1, .int x1), (2, .int x2), (3, .int x3), (5, .int x5)]) hx hb dX6_hasBy_93 hl (k := 2) rfl rfl (by decide) rfl (fun ls hl => ?_)
          refine lv_goto (tgt := 41) hx hb dX6_hasBy_96 (by decide) ?_
          exact ih0 (v7_69 + (1 : Int32)) x_82 (w_69.1, p_88.2, w_69.2.2.1, w_69.2.2.2.1, w_69.2.2.2.2.1, w_69.2.2.2.2.2.1, w_69.2.2.2.2.2.2.1, w_69.2.2.2.2.2.2.2.1, w_69.2.2.2.2.2.2.2.2.1, w_69.2.2.2.2.2.2.2.2.2.1, w_69.2.2.2.2.2.2.2.2.2.2.1, w_69.2.2.2.2.2.2.2.2.2.2.2.1, w_69.2.2.2.2.2.2.2.2.2.2.2.2.1, w_69.2.2.2.2.2.2.2.2.2.2.2.2.2) _ _ _ h hW (lv_sub hl [0, 2, 3, 4, 5, 6, 7] rfl)
        · have h := ht_71 c_71
          refine lv_iload_n hx hb dX6_hasBy_74 rfl (lv_at hl 4 rfl) ?_
          refine lv_goto (tgt := 80) hx hb dX6_hasBy_75 (by decide) ?_
          refine lv_isub hx hb dX6_hasBy_80 ?_
          refine lv_iadd hx hb dX6_hasBy_81 ?_
          obtain ⟨x_82_2, e_x_82_2, h⟩ := of_nm h
          refine x_topi e_x_82_2 ?_
          refine lv_istore (lv' := [(6, .int x_82_2), (7, .int v7_69), (0, .ref (q 0)), (1, .int x1), (2, .int x2), (3, .int x3), (5, .int x5)]) hx hb dX6_hasBy_82 hl (by decide) rfl (fun ls hl => ?_)
          refine lv_aload_n hx hb dX6_hasBy_84 rfl (lv_at hl 2 rfl) ?_
          refine x_get F hW 0 rfl fa_X6_13 rfl dX6_hasBy_85 ?_
          obtain ⟨p_88_2, hc_88, h⟩ := of_bind h
          refine x_Si (av := [.ref (q 2)]) F hW (c_X6_night l G (fun i => q (i + 2)) w_69.2.1 _ hc_88) [2] rfl rfl (by intro q; cases q) cs_X6_90 rfl rfl hl (Nat.le_of_ble_eq_true rfl) ⟨Nat.le_of_ble_eq_true rfl, Nat.le_of_ble_eq_true rfl⟩ ⟨rfl, rfl⟩ ⟨Nat.le_of_ble_eq_true rfl, Nat.le_of_ble_eq_true rfl⟩ dX6_hasBy_88 rfl [none, none, some 0, none, none, none, none, none, none, none] rfl (ws' := cMW G q (w_69.1, p_88_2.2, w_69.2.2.1, w_69.2.2.2.1, w_69.2.2.2.2.1, w_69.2.2.2.2.2.1, w_69.2.2.2.2.2.2.1, w_69.2.2.2.2.2.2.2.1, w_69.2.2.2.2.2.2.2.2.1, w_69.2.2.2.2.2.2.2.2.2.1, w_69.2.2.2.2.2.2.2.2.2.2.1, w_69.2.2.2.2.2.2.2.2.2.2.2.1, w_69.2.2.2.2.2.2.2.2.2.2.2.2.1, w_69.2.2.2.2.2.2.2.2.2.2.2.2.2)) rfl (fun H locs hW => ?_)
          obtain ⟨x_91_2, e_x_91_2, h⟩ := of_nm h
          refine x_topi e_x_91_2 ?_
          refine lv_istore (lv' := [(8, .int x_91_2), (6, .int x_82_2), (7, .int v7_69), (0, .ref (q 0)), (1, .int x1), (2, .int x2), (3, .int x3), (5, .int x5)]) hx hb dX6_hasBy_91 hl (by decide) rfl (fun ls hl => ?_)
          refine lv_iinc (v := (v7_69 + (1 : Int32))) (lv' := [(7, .int (v7_69 + (1 : Int32))), (8, .int x_91_2), (6, .int x_82_2), (0, .ref (q 0)), (1, .int x1), (2, .int x2), (3, .int x3), (5, .int x5)]) hx hb dX6_hasBy_93 hl (k := 2) rfl rfl (by decide) rfl (fun ls hl => ?_)
          refine lv_goto (tgt := 41) hx hb dX6_hasBy_96 (by decide) ?_
          exact ih0 (v7_69 + (1 : Int32)) x_82_2 (w_69.1, p_88_2.2, w_69.2.2.1, w_69.2.2.2.1, w_69.2.2.2.2.1, w_69.2.2.2.2.2.1, w_69.2.2.2.2.2.2.1, w_69.2.2.2.2.2.2.2.1, w_69.2.2.2.2.2.2.2.2.1, w_69.2.2.2.2.2.2.2.2.2.1, w_69.2.2.2.2.2.2.2.2.2.2.1, w_69.2.2.2.2.2.2.2.2.2.2.2.1, w_69.2.2.2.2.2.2.2.2.2.2.2.2.1, w_69.2.2.2.2.2.2.2.2.2.2.2.2.2) _ _ _ h hW (lv_sub hl [0, 2, 3, 4, 5, 6, 7] rfl)
      refine lv_iload hx hb dX6_hasBy_41 (lv_at hl 0 rfl) ?_
      refine lv_bipush (v := (6 : Int32)) hx hb dX6_hasBy_43 (by decide) ?_
      obtain ⟨ht_45, hf_45⟩ := of_ite h
      refine lv_icmp_ge (tgt := 99) hx hb dX6_hasBy_45 (by decide) (fun c_45 => ?_) (fun c_45 => ?_)
      · have h := ht_45 c_45
        refine lv_iload hx hb dX6_hasBy_99 (lv_at hl 1 rfl) ?_
        obtain rfl := Option.some.inj h
        exact x_reti F hr hW rfl dX6_hasBy_101
      · have h := hf_45 c_45
        refine lv_iload hx hb dX6_hasBy_48 (lv_at hl 1 rfl) ?_
        refine lv_aload_n hx hb dX6_hasBy_50 rfl (lv_at hl 2 rfl) ?_
        refine x_get F hW 0 rfl fa_X6_13 rfl dX6_hasBy_51 ?_
        obtain ⟨p_54, hc_54, h⟩ := of_bind h
        refine x_Si (av := [.ref (q 2)]) F hW (c_X6_hangIn l G (fun i => q (i + 2)) w_41.2.1 _ hc_54) [2] rfl rfl (by intro q; cases q) cs_X6_145 rfl rfl hl (Nat.le_of_ble_eq_true rfl) ⟨Nat.le_of_ble_eq_true rfl, Nat.le_of_ble_eq_true rfl⟩ ⟨rfl, rfl⟩ ⟨Nat.le_of_ble_eq_true rfl, Nat.le_of_ble_eq_true rfl⟩ dX6_hasBy_54 rfl [none, none, some 0, none, none, none, none, none, none, none] rfl (ws' := cMW G q w_41) rfl (fun H locs hW => ?_)
        refine lv_iload_n hx hb dX6_hasBy_57 rfl (lv_at hl 3 rfl) ?_
        obtain ⟨p_58, hc_58, h⟩ := of_bind h
        refine x_Si (av := [.int p_54, .int x1]) F hW (c_X6_has l G p_54 x1 _ hc_58) [] rfl rfl (by intro q; cases q) cs_X6_75 rfl rfl hl (Nat.le_of_ble_eq_true rfl) ⟨Nat.le_of_ble_eq_true rfl, Nat.le_of_ble_eq_true rfl⟩ ⟨rfl, rfl⟩ ⟨Nat.le_of_ble_eq_true rfl, Nat.le_of_ble_eq_true rfl⟩ dX6_hasBy_58 rfl [none, none, none, none, none, none, none, none, none, none] rfl (ws' := cMW G q w_41) rfl (fun H locs hW => ?_)
        obtain ⟨ht_61, hf_61⟩ := of_ite h
        refine lv_if_eq (tgt := 68) hx hb dX6_hasBy_61 (by decide) (fun c_61 => ?_) (fun c_61 => ?_)
        · have h := ht_61 c_61
          refine lv_iconst (v := (0 : Int32)) hx hb dX6_hasBy_68 (by decide) ?_
          exact J1 v7_41 (0 : Int32) v6_41 w_41 _ _ _ h hW (lv_sub hl [0, 2, 3, 4, 5, 6] rfl)
        · have h := hf_61 c_61
          refine lv_iconst (v := (2 : Int32)) hx hb dX6_hasBy_64 (by decide) ?_
          refine lv_goto (tgt := 69) hx hb dX6_hasBy_65 (by decide) ?_
          exact J1 v7_41 (2 : Int32) v6_41 w_41 _ _ _ h hW (lv_sub hl [0, 2, 3, 4, 5, 6] rfl)
  exact L0 200 (0 : Int32) (0 : Int32) (w.1, (upd (upd p_8 p_17.toNatClampNeg x3) p_29.toNatClampNeg x5), w.2.2.1, w.2.2.2.1, w.2.2.2.2.1, w.2.2.2.2.2.1, w.2.2.2.2.2.2.1, w.2.2.2.2.2.2.2.1, w.2.2.2.2.2.2.2.2.1, w.2.2.2.2.2.2.2.2.2.1, w.2.2.2.2.2.2.2.2.2.2.1, w.2.2.2.2.2.2.2.2.2.2.2.1, w.2.2.2.2.2.2.2.2.2.2.2.2.1, w.2.2.2.2.2.2.2.2.2.2.2.2.2) _ _ _ h hW (lv_sub hl [0, 1, 2, 3, 4, 5, 7] rfl)
def f_X6_two_29 (x1 : Int32) (x2 : Int32) : Nat → Int32 → MW → Option (Int32 × MW)
  | 0, _, _ => none
  | n0 + 1, v3_29, w_29 =>
    if (4 : Int32) ≤ v3_29 then
    some ((-9 : Int32), w_29)
    else
    nm (v3_29 / (2 : Int32)) fun x_37 =>
    nm (remI v3_29 (2 : Int32)) fun x_42 =>
    Option.bind (f_X6_hasBy w_29 x1 x1 ((1 : Int32) - x_37) x2 x_42) fun p_54 =>
    Option.bind (f_X6_hasBy p_54.2 x1 x1 x_37 x2 x_42) fun p_65 =>
    if p_65.1 < p_54.1 then
    f_X6_two_29 x1 x2 n0 (v3_29 + (1 : Int32)) p_65.2
    else
    Option.bind (f_X6_hasBy p_65.2 x2 x1 x_37 x2 ((1 : Int32) - x_42)) fun p_81 =>
    Option.bind (f_X6_hasBy p_81.2 x2 x1 x_37 x2 x_42) fun p_92 =>
    if p_92.1 < p_81.1 then
    f_X6_two_29 x1 x2 n0 (v3_29 + (1 : Int32)) p_92.2
    else
    some ((((10 : Int32) * x_37) + x_42), p_92.2)
def f_X6_two (w : MW) (x1 : Int32) (x2 : Int32) : Option (Int32 × MW) :=
  Option.bind (f_X6_isHouse w x1) fun p_2 =>
    if p_2 = 0 then
    Option.bind (f_X6_no w (-1 : Int32)) fun p_23 =>
    some (p_23.1, p_23.2)
    else
    Option.bind (f_X6_isHouse w x2) fun p_10 =>
    if p_10 = 0 then
    Option.bind (f_X6_no w (-1 : Int32)) fun p_23_2 =>
    some (p_23_2.1, p_23_2.2)
    else
    if x1 = x2 then
    Option.bind (f_X6_no w (-1 : Int32)) fun p_23_3 =>
    some (p_23_3.1, p_23_3.2)
    else
    f_X6_two_29 x1 x2 200 (0 : Int32) w
abbrev rmX6_two : Room := { frames := 6, cells := 0, slots := 0, locals := 143 }
set_option maxRecDepth 100000 in
set_option maxHeartbeats 4000000 in
theorem c_X6_two (l : Launch) (G : EnT) (q : Nat → Nat) (w : MW) (x1 : Int32) (x2 : Int32) (o : Int32 × MW) (h : f_X6_two w x1 x2 = some o) : Mi l yX6_two rmX6_two cX6_two 6 (some .int) G false [.ref (q 0), .int x1, .int x2] (cMW G q w) o.1 (cMW G q o.2) := by
  refine Mi_of (by decide) (Nat.le_of_ble_eq_true rfl) ?_
  intro p e s m below meth c A0 F hr hW ls hl
  obtain ⟨hx, hb, hml, hown, hts, hK, hNW, hlocks, hA, hSX⟩ := id F
  have hl : lv_has ls 6 [(0, .ref (q 0)), (1, .int x1), (2, .int x2)] := hl
  have hW : Wd G A0 s (cMW G q w) s.heap [] := hW
  show W p l e rmX6_two s m ([.ref (q 0), .int x1, .int x2] : List Value).toArray below meth c s.heap [] 0 0 (Qi below G (cMW G q o.2) o.1 A0 ([.ref (q 0), .int x1, .int x2] : List Value).toArray s) (F0 m 0 ls [])
  refine lv_aload_n hx hb dX6_two_0 rfl (lv_at hl 0 rfl) ?_
  refine lv_iload_n hx hb dX6_two_1 rfl (lv_at hl 1 rfl) ?_
  obtain ⟨p_2, hc_2, h⟩ := of_bind h
  refine x_Vi (av := [.ref (q 0), .int x1]) (As := [.int x1]) F hW (c_X6_isHouse l G q w x1 _ hc_2) [0, 1, 2, 3, 4, 5, 6, 7, 8, 9] rfl rfl (by intro q; cases q) cv_X6_122 rfl ⟨_, rfl, rfl⟩ rfl rfl rfl hl (Nat.le_of_ble_eq_true rfl) ⟨Nat.le_of_ble_eq_true rfl, Nat.le_of_ble_eq_true rfl⟩ ⟨rfl, rfl⟩ ⟨Nat.le_of_ble_eq_true rfl, Nat.le_of_ble_eq_true rfl⟩ dX6_two_2 rfl [some 0, some 1, some 2, some 3, some 4, some 5, some 6, some 7, some 8, some 9] rfl (ws' := cMW G q w) rfl (fun H locs hW => ?_)
  obtain ⟨ht_5, hf_5⟩ := of_ite h
  refine lv_if_eq (tgt := 21) hx hb dX6_two_5 (by decide) (fun c_5 => ?_) (fun c_5 => ?_)
  · have h := ht_5 c_5
    refine lv_aload_n hx hb dX6_two_21 rfl (lv_at hl 0 rfl) ?_
    refine lv_iconst (v := (-1 : Int32)) hx hb dX6_two_22 (by decide) ?_
    obtain ⟨p_23, hc_23, h⟩ := of_bind h
    refine x_Vi (av := [.ref (q 0), .int (-1 : Int32)]) (As := [.int (-1 : Int32)]) F hW (c_X6_no l G q w (-1 : Int32) _ hc_23) [0, 1, 2, 3, 4, 5, 6, 7, 8, 9] rfl rfl (by intro q; cases q) cv_X6_39 rfl ⟨_, rfl, rfl⟩ rfl rfl rfl hl (Nat.le_of_ble_eq_true rfl) ⟨Nat.le_of_ble_eq_true rfl, Nat.le_of_ble_eq_true rfl⟩ ⟨rfl, rfl⟩ ⟨Nat.le_of_ble_eq_true rfl, Nat.le_of_ble_eq_true rfl⟩ dX6_two_23 rfl [some 0, some 1, some 2, some 3, some 4, some 5, some 6, some 7, some 8, some 9] rfl (ws' := cMW G q p_23.2) rfl (fun H locs hW => ?_)
    obtain rfl := Option.some.inj h
    exact x_reti F hr hW rfl dX6_two_26
  · have h := hf_5 c_5
    refine lv_aload_n hx hb dX6_two_8 rfl (lv_at hl 0 rfl) ?_
    refine lv_iload_n hx hb dX6_two_9 rfl (lv_at hl 2 rfl) ?_
    obtain ⟨p_10, hc_10, h⟩ := of_bind h
    refine x_Vi (av := [.ref (q 0), .int x2]) (As := [.int x2]) F hW (c_X6_isHouse l G q w x2 _ hc_10) [0, 1, 2, 3, 4, 5, 6, 7, 8, 9] rfl rfl (by intro q; cases q) cv_X6_122 rfl ⟨_, rfl, rfl⟩ rfl rfl rfl hl (Nat.le_of_ble_eq_true rfl) ⟨Nat.le_of_ble_eq_true rfl, Nat.le_of_ble_eq_true rfl⟩ ⟨rfl, rfl⟩ ⟨Nat.le_of_ble_eq_true rfl, Nat.le_of_ble_eq_true rfl⟩ dX6_two_10 rfl [some 0, some 1, some 2, some 3, some 4, some 5, some 6, some 7, some 8, some 9] rfl (ws' := cMW G q w) rfl (fun H locs hW => ?_)
    obtain ⟨ht_13, hf_13⟩ := of_ite h
    refine lv_if_eq (tgt := 21) hx hb dX6_two_13 (by decide) (fun c_13 => ?_) (fun c_13 => ?_)
    · have h := ht_13 c_13
      refine lv_aload_n hx hb dX6_two_21 rfl (lv_at hl 0 rfl) ?_
      refine lv_iconst (v := (-1 : Int32)) hx hb dX6_two_22 (by decide) ?_
      obtain ⟨p_23_2, hc_23, h⟩ := of_bind h
      refine x_Vi (av := [.ref (q 0), .int (-1 : Int32)]) (As := [.int (-1 : Int32)]) F hW (c_X6_no l G q w (-1 : Int32) _ hc_23) [0, 1, 2, 3, 4, 5, 6, 7, 8, 9] rfl rfl (by intro q; cases q) cv_X6_39 rfl ⟨_, rfl, rfl⟩ rfl rfl rfl hl (Nat.le_of_ble_eq_true rfl) ⟨Nat.le_of_ble_eq_true rfl, Nat.le_of_ble_eq_true rfl⟩ ⟨rfl, rfl⟩ ⟨Nat.le_of_ble_eq_true rfl, Nat.le_of_ble_eq_true rfl⟩ dX6_two_23 rfl [some 0, some 1, some 2, some 3, some 4, some 5, some 6, some 7, some 8, some 9] rfl (ws' := cMW G q p_23_2.2) rfl (fun H locs hW => ?_)
      obtain rfl := Option.some.inj h
      exact x_reti F hr hW rfl dX6_two_26
    · have h := hf_13 c_13
      refine lv_iload_n hx hb dX6_two_16 rfl (lv_at hl 1 rfl) ?_
      refine lv_iload_n hx hb dX6_two_17 rfl (lv_at hl 2 rfl) ?_
      obtain ⟨ht_18, hf_18⟩ := of_ite h
      refine lv_icmp_ne (tgt := 27) hx hb dX6_two_18 (by decide) (fun c_18 => ?_) (fun c_18 => ?_)
      · have h := hf_18 c_18
        refine lv_iconst (v := (0 : Int32)) hx hb dX6_two_27 (by decide) ?_
        refine lv_istore_n (lv' := [(3, .int (0 : Int32)), (0, .ref (q 0)), (1, .int x1), (2, .int x2)]) hx hb dX6_two_28 rfl hl (by decide) rfl (fun ls hl => ?_)
        have L0 : ∀ (n0 : Nat) (v3_29 : Int32) (w_29 : MW) (H : Heap) (locs : List Loc) (ls : Array Slot), f_X6_two_29 x1 x2 n0 v3_29 w_29 = some o → Wd G A0 s (cMW G q w_29) H locs → lv_has ls 6 [(3, .int v3_29), (0, .ref (q 0)), (1, .int x1), (2, .int x2)] → W p l e rmX6_two s m ([.ref (q 0), .int x1, .int x2] : List Value).toArray below meth c H locs 0 0 (Qi below G (cMW G q o.2) o.1 A0 ([.ref (q 0), .int x1, .int x2] : List Value).toArray s) (F0 m 29 ls []) := by
          intro n0
          induction n0 with
          | zero => intro v3_29 w_29 H locs ls h; cases (show (none : Option (Int32 × MW)) = some o from h)
          | succ n0 ih0 =>
            intro v3_29 w_29 H locs ls h hW hl
            refine lv_iload_n hx hb dX6_two_29 rfl (lv_at hl 0 rfl) ?_
            refine lv_iconst (v := (4 : Int32)) hx hb dX6_two_30 (by decide) ?_
            obtain ⟨ht_31, hf_31⟩ := of_ite h
            refine lv_icmp_ge (tgt := 113) hx hb dX6_two_31 (by decide) (fun c_31 => ?_) (fun c_31 => ?_)
            · have h := ht_31 c_31
              refine lv_bipush (v := (-9 : Int32)) hx hb dX6_two_113 (by decide) ?_
              obtain rfl := Option.some.inj h
              exact x_reti F hr hW rfl dX6_two_115
            · have h := hf_31 c_31
              refine lv_iload_n hx hb dX6_two_34 rfl (lv_at hl 0 rfl) ?_
              refine lv_iconst (v := (2 : Int32)) hx hb dX6_two_35 (by decide) ?_
              refine lv_idiv hx hb dX6_two_36 (by decide) ?_
              obtain ⟨x_37, e_x_37, h⟩ := of_nm h
              refine x_topi e_x_37 ?_
              refine lv_istore (lv' := [(4, .int x_37), (3, .int v3_29), (0, .ref (q 0)), (1, .int x1), (2, .int x2)]) hx hb dX6_two_37 hl (by decide) rfl (fun ls hl => ?_)
              refine lv_iload_n hx hb dX6_two_39 rfl (lv_at hl 1 rfl) ?_
              refine lv_iconst (v := (2 : Int32)) hx hb dX6_two_40 (by decide) ?_
              refine lv_irem hx hb dX6_two_41 (by decide) ?_
              obtain ⟨x_42, e_x_42, h⟩ := of_nm h
              refine x_topi e_x_42 ?_
              refine lv_istore (lv' := [(5, .int x_42), (4, .int x_37), (3, .int v3_29), (0, .ref (q 0)), (1, .int x1), (2, .int x2)]) hx hb dX6_two_42 hl (by decide) rfl (fun ls hl => ?_)
              refine lv_aload_n hx hb dX6_two_44 rfl (lv_at hl 3 rfl) ?_
              refine lv_iload_n hx hb dX6_two_45 rfl (lv_at hl 4 rfl) ?_
              refine lv_iload_n hx hb dX6_two_46 rfl (lv_at hl 4 rfl) ?_
              refine lv_iconst (v := (1 : Int32)) hx hb dX6_two_47 (by decide) ?_
              refine lv_iload hx hb dX6_two_48 (lv_at hl 1 rfl) ?_
              refine lv_isub hx hb dX6_two_50 ?_
              refine lv_iload_n hx hb dX6_two_51 rfl (lv_at hl 5 rfl) ?_
              refine lv_iload hx hb dX6_two_52 (lv_at hl 0 rfl) ?_
              obtain ⟨p_54, hc_54, h⟩ := of_bind h
              refine x_Vi (av := [.ref (q 0), .int x1, .int x1, .int ((1 : Int32) - x_37), .int x2, .int x_42]) (As := [.int x1, .int x1, .int ((1 : Int32) - x_37), .int x2, .int x_42]) F hW (c_X6_hasBy l G q w_29 x1 x1 ((1 : Int32) - x_37) x2 x_42 _ hc_54) [0, 1, 2, 3, 4, 5, 6, 7, 8, 9] rfl rfl (by intro q; cases q) cv_X6_176 rfl ⟨_, rfl, rfl⟩ rfl rfl rfl hl (Nat.le_of_ble_eq_true rfl) ⟨Nat.le_of_ble_eq_true rfl, Nat.le_of_ble_eq_true rfl⟩ ⟨rfl, rfl⟩ ⟨Nat.le_of_ble_eq_true rfl, Nat.le_of_ble_eq_true rfl⟩ dX6_two_54 rfl [some 0, some 1, some 2, some 3, some 4, some 5, some 6, some 7, some 8, some 9] rfl (ws' := cMW G q p_54.2) rfl (fun H locs hW => ?_)
              refine lv_aload_n hx hb dX6_two_57 rfl (lv_at hl 3 rfl) ?_
              refine lv_iload_n hx hb dX6_two_58 rfl (lv_at hl 4 rfl) ?_
              refine lv_iload_n hx hb dX6_two_59 rfl (lv_at hl 4 rfl) ?_
              refine lv_iload hx hb dX6_two_60 (lv_at hl 1 rfl) ?_
              refine lv_iload_n hx hb dX6_two_62 rfl (lv_at hl 5 rfl) ?_
              refine lv_iload hx hb dX6_two_63 (lv_at hl 0 rfl) ?_
              obtain ⟨p_65, hc_65, h⟩ := of_bind h
              refine x_Vi (av := [.ref (q 0), .int x1, .int x1, .int x_37, .int x2, .int x_42]) (As := [.int x1, .int x1, .int x_37, .int x2, .int x_42]) F hW (c_X6_hasBy l G q p_54.2 x1 x1 x_37 x2 x_42 _ hc_65) [0, 1, 2, 3, 4, 5, 6, 7, 8, 9] rfl rfl (by intro q; cases q) cv_X6_176 rfl ⟨_, rfl, rfl⟩ rfl rfl rfl hl (Nat.le_of_ble_eq_true rfl) ⟨Nat.le_of_ble_eq_true rfl, Nat.le_of_ble_eq_true rfl⟩ ⟨rfl, rfl⟩ ⟨Nat.le_of_ble_eq_true rfl, Nat.le_of_ble_eq_true rfl⟩ dX6_two_65 rfl [some 0, some 1, some 2, some 3, some 4, some 5, some 6, some 7, some 8, some 9] rfl (ws' := cMW G q p_65.2) rfl (fun H locs hW => ?_)
              obtain ⟨ht_68, hf_68⟩ := of_ite h
              refine lv_icmp_gt (tgt := 107) hx hb dX6_two_68 (by decide) (fun c_68 => ?_) (fun c_68 => ?_)
              · have h := ht_68 c_68
                refine lv_iinc (v := (v3_29 + (1 : Int32))) (lv' := [(3, .int (v3_29 + (1 : Int32))), (5, .int x_42), (4, .int x_37), (0, .ref (q 0)), (1, .int x1), (2, .int x2)]) hx hb dX6_two_107 hl (k := 2) rfl rfl (by decide) rfl (fun ls hl => ?_)
                refine lv_goto (tgt := 29) hx hb dX6_two_110 (by decide) ?_
                exact ih0 (v3_29 + (1 : Int32)) p_65.2 _ _ _ h hW (lv_sub hl [0, 3, 4, 5] rfl)
              · have h := hf_68 c_68
                refine lv_aload_n hx hb dX6_two_71 rfl (lv_at hl 3 rfl) ?_
                refine lv_iload_n hx hb dX6_two_72 rfl (lv_at hl 5 rfl) ?_
                refine lv_iload_n hx hb dX6_two_73 rfl (lv_at hl 4 rfl) ?_
                refine lv_iload hx hb dX6_two_74 (lv_at hl 1 rfl) ?_
                refine lv_iload_n hx hb dX6_two_76 rfl (lv_at hl 5 rfl) ?_
                refine lv_iconst (v := (1 : Int32)) hx hb dX6_two_77 (by decide) ?_
                refine lv_iload hx hb dX6_two_78 (lv_at hl 0 rfl) ?_
                refine lv_isub hx hb dX6_two_80 ?_
                obtain ⟨p_81, hc_81, h⟩ := of_bind h
                refine x_Vi (av := [.ref (q 0), .int x2, .int x1, .int x_37, .int x2, .int ((1 : Int32) - x_42)]) (As := [.int x2, .int x1, .int x_37, .int x2, .int ((1 : Int32) - x_42)]) F hW (c_X6_hasBy l G q p_65.2 x2 x1 x_37 x2 ((1 : Int32) - x_42) _ hc_81) [0, 1, 2, 3, 4, 5, 6, 7, 8, 9] rfl rfl (by intro q; cases q) cv_X6_176 rfl ⟨_, rfl, rfl⟩ rfl rfl rfl hl (Nat.le_of_ble_eq_true rfl) ⟨Nat.le_of_ble_eq_true rfl, Nat.le_of_ble_eq_true rfl⟩ ⟨rfl, rfl⟩ ⟨Nat.le_of_ble_eq_true rfl, Nat.le_of_ble_eq_true rfl⟩ dX6_two_81 rfl [some 0, some 1, some 2, some 3, some 4, some 5, some 6, some 7, some 8, some 9] rfl (ws' := cMW G q p_81.2) rfl (fun H locs hW => ?_)
                refine lv_aload_n hx hb dX6_two_84 rfl (lv_at hl 3 rfl) ?_
                refine lv_iload_n hx hb dX6_two_85 rfl (lv_at hl 5 rfl) ?_
                refine lv_iload_n hx hb dX6_two_86 rfl (lv_at hl 4 rfl) ?_
                refine lv_iload hx hb dX6_two_87 (lv_at hl 1 rfl) ?_
                refine lv_iload_n hx hb dX6_two_89 rfl (lv_at hl 5 rfl) ?_
                refine lv_iload hx hb dX6_two_90 (lv_at hl 0 rfl) ?_
                obtain ⟨p_92, hc_92, h⟩ := of_bind h
                refine x_Vi (av := [.ref (q 0), .int x2, .int x1, .int x_37, .int x2, .int x_42]) (As := [.int x2, .int x1, .int x_37, .int x2, .int x_42]) F hW (c_X6_hasBy l G q p_81.2 x2 x1 x_37 x2 x_42 _ hc_92) [0, 1, 2, 3, 4, 5, 6, 7, 8, 9] rfl rfl (by intro q; cases q) cv_X6_176 rfl ⟨_, rfl, rfl⟩ rfl rfl rfl hl (Nat.le_of_ble_eq_true rfl) ⟨Nat.le_of_ble_eq_true rfl, Nat.le_of_ble_eq_true rfl⟩ ⟨rfl, rfl⟩ ⟨Nat.le_of_ble_eq_true rfl, Nat.le_of_ble_eq_true rfl⟩ dX6_two_92 rfl [some 0, some 1, some 2, some 3, some 4, some 5, some 6, some 7, some 8, some 9] rfl (ws' := cMW G q p_92.2) rfl (fun H locs hW => ?_)
                obtain ⟨ht_95, hf_95⟩ := of_ite h
                refine lv_icmp_gt (tgt := 107) hx hb dX6_two_95 (by decide) (fun c_95 => ?_) (fun c_95 => ?_)
                · have h := ht_95 c_95
                  refine lv_iinc (v := (v3_29 + (1 : Int32))) (lv' := [(3, .int (v3_29 + (1 : Int32))), (5, .int x_42), (4, .int x_37), (0, .ref (q 0)), (1, .int x1), (2, .int x2)]) hx hb dX6_two_107 hl (k := 2) rfl rfl (by decide) rfl (fun ls hl => ?_)
                  refine lv_goto (tgt := 29) hx hb dX6_two_110 (by decide) ?_
                  exact ih0 (v3_29 + (1 : Int32)) p_92.2 _ _ _ h hW (lv_sub hl [0, 3, 4, 5] rfl)
                · have h := hf_95 c_95
                  refine lv_bipush (v := (10 : Int32)) hx hb dX6_two_98 (by decide) ?_
                  refine lv_iload hx hb dX6_two_100 (lv_at hl 1 rfl) ?_
                  refine lv_imul hx hb dX6_two_102 ?_
                  refine lv_iload hx hb dX6_two_103 (lv_at hl 0 rfl) ?_
                  refine lv_iadd hx hb dX6_two_105 ?_
                  obtain rfl := Option.some.inj h
                  exact x_reti F hr hW rfl dX6_two_106
        exact L0 200 (0 : Int32) w _ _ _ h hW (lv_sub hl [0, 1, 2, 3] rfl)
      · have h := ht_18 c_18
        refine lv_aload_n hx hb dX6_two_21 rfl (lv_at hl 0 rfl) ?_
        refine lv_iconst (v := (-1 : Int32)) hx hb dX6_two_22 (by decide) ?_
        obtain ⟨p_23_3, hc_23, h⟩ := of_bind h
        refine x_Vi (av := [.ref (q 0), .int (-1 : Int32)]) (As := [.int (-1 : Int32)]) F hW (c_X6_no l G q w (-1 : Int32) _ hc_23) [0, 1, 2, 3, 4, 5, 6, 7, 8, 9] rfl rfl (by intro q; cases q) cv_X6_39 rfl ⟨_, rfl, rfl⟩ rfl rfl rfl hl (Nat.le_of_ble_eq_true rfl) ⟨Nat.le_of_ble_eq_true rfl, Nat.le_of_ble_eq_true rfl⟩ ⟨rfl, rfl⟩ ⟨Nat.le_of_ble_eq_true rfl, Nat.le_of_ble_eq_true rfl⟩ dX6_two_23 rfl [some 0, some 1, some 2, some 3, some 4, some 5, some 6, some 7, some 8, some 9] rfl (ws' := cMW G q p_23_3.2) rfl (fun H locs hW => ?_)
        obtain rfl := Option.some.inj h
        exact x_reti F hr hW rfl dX6_two_26
def f_X6_gcd_6 : Nat → Int64 → Int64 → Option (Int64)
  | 0, _, _ => none
  | n0 + 1, v6_6, v4_6 =>
    if (lg_cmp v6_6 (0 : Int64)) = 0 then
    some v4_6
    else
    if v6_6 = 0 then none else
    nm (remL v4_6 v6_6) fun x_18 =>
    f_X6_gcd_6 n0 x_18 v6_6
def f_X6_gcd (x1 : Int64) (x2 : Int64) : Option (Int64) :=
  f_X6_gcd_6 200 x2 x1
abbrev rmX6_gcd : Room := { frames := 0, cells := 0, slots := 0, locals := 0 }
set_option maxRecDepth 100000 in
set_option maxHeartbeats 4000000 in
theorem c_X6_gcd (l : Launch) (G : EnT) (x1 : Int64) (x2 : Int64) (o : Int64) (h : f_X6_gcd x1 x2 = some o) : Ml l yX6_gcd rmX6_gcd cX6_gcd 10 (some .long) G false [.long x1, .long x2] ([]) o ([]) := by
  refine Ml_of (by decide) (Nat.le_of_ble_eq_true rfl) ?_
  intro p e s m below meth c A0 F hr hW ls hl
  obtain ⟨hx, hb, hml, hown, hts, hK, hNW, hlocks, hA, hSX⟩ := id F
  have hl : lv_has ls 10 [(0, .long x1), (2, .long x2)] := hl
  have hW : Wd G A0 s ([]) s.heap [] := hW
  show W p l e rmX6_gcd s m ([.long x1, .long x2] : List Value).toArray below meth c s.heap [] 0 0 (Ql below G ([]) o A0 ([.long x1, .long x2] : List Value).toArray s) (F0 m 0 ls [])
  refine lv_lload_n hx hb dX6_gcd_0 rfl (lv_at hl 0 rfl) ?_
  refine lv_lstore (lv' := [(4, .long x1), (0, .long x1), (2, .long x2)]) hx hb dX6_gcd_1 hl (by decide) rfl (fun ls hl => ?_)
  refine lv_lload_n hx hb dX6_gcd_3 rfl (lv_at hl 2 rfl) ?_
  refine lv_lstore (lv' := [(6, .long x2), (4, .long x1), (0, .long x1), (2, .long x2)]) hx hb dX6_gcd_4 hl (by decide) rfl (fun ls hl => ?_)
  have L0 : ∀ (n0 : Nat) (v6_6 : Int64) (v4_6 : Int64) (H : Heap) (locs : List Loc) (ls : Array Slot), f_X6_gcd_6 n0 v6_6 v4_6 = some o → Wd G A0 s ([]) H locs → lv_has ls 10 [(6, .long v6_6), (4, .long v4_6)] → W p l e rmX6_gcd s m ([.long x1, .long x2] : List Value).toArray below meth c H locs 0 0 (Ql below G ([]) o A0 ([.long x1, .long x2] : List Value).toArray s) (F0 m 6 ls []) := by
    intro n0
    induction n0 with
    | zero => intro v6_6 v4_6 H locs ls h; cases (show (none : Option (Int64)) = some o from h)
    | succ n0 ih0 =>
      intro v6_6 v4_6 H locs ls h hW hl
      refine lv_lload hx hb dX6_gcd_6 (lv_at hl 0 rfl) ?_
      refine lv_lconst (v := (0 : Int64)) hx hb dX6_gcd_8 (by decide) ?_
      refine W.lcmp hx hb dX6_gcd_9 ?_
      obtain ⟨ht_10, hf_10⟩ := of_ite h
      refine lv_if_eq (tgt := 31) hx hb dX6_gcd_10 (by decide) (fun c_10 => ?_) (fun c_10 => ?_)
      · have h := ht_10 c_10
        refine lv_lload hx hb dX6_gcd_31 (lv_at hl 1 rfl) ?_
        obtain rfl := Option.some.inj h
        exact x_retl F hr hW rfl dX6_gcd_33
      · have h := hf_10 c_10
        refine lv_lload hx hb dX6_gcd_13 (lv_at hl 1 rfl) ?_
        refine lv_lload hx hb dX6_gcd_15 (lv_at hl 0 rfl) ?_
        obtain ⟨g_17, h⟩ := of_nguard h
        refine lv_lrem hx hb dX6_gcd_17 g_17 ?_
        obtain ⟨x_18, e_x_18, h⟩ := of_nm h
        refine x_topl e_x_18 ?_
        refine lv_lstore (lv' := [(8, .long x_18), (6, .long v6_6), (4, .long v4_6)]) hx hb dX6_gcd_18 hl (by decide) rfl (fun ls hl => ?_)
        refine lv_lload hx hb dX6_gcd_20 (lv_at hl 1 rfl) ?_
        refine lv_lstore (lv' := [(4, .long v6_6), (8, .long x_18), (6, .long v6_6)]) hx hb dX6_gcd_22 hl (by decide) rfl (fun ls hl => ?_)
        refine lv_lload hx hb dX6_gcd_24 (lv_at hl 1 rfl) ?_
        refine lv_lstore (lv' := [(6, .long x_18), (4, .long v6_6), (8, .long x_18)]) hx hb dX6_gcd_26 hl (by decide) rfl (fun ls hl => ?_)
        refine lv_goto (tgt := 6) hx hb dX6_gcd_28 (by decide) ?_
        exact ih0 x_18 v6_6 _ _ _ h hW (lv_sub hl [0, 1] rfl)
  exact L0 200 x2 x1 _ _ _ h hW (lv_sub hl [0, 1] rfl)
def f_X6_partOf (x1 : Int64) (x2 : Int64) (x3 : Int32) : Option (Int64) :=
  if (lg_cmp x1 (0 : Int64)) = 0 then
    some (x3.toInt64)
    else
    if x3 = 0 then
    Option.bind (f_X6_gcd x1 x2) fun p_22_2 =>
    if p_22_2 = 0 then none else
    some (x1 / p_22_2)
    else
    Option.bind (f_X6_gcd x1 x2) fun p_22 =>
    if p_22 = 0 then none else
    some (x2 / p_22)
abbrev rmX6_partOf : Room := { frames := 1, cells := 0, slots := 0, locals := 29 }
set_option maxRecDepth 100000 in
set_option maxHeartbeats 4000000 in
theorem c_X6_partOf (l : Launch) (G : EnT) (x1 : Int64) (x2 : Int64) (x3 : Int32) (o : Int64) (h : f_X6_partOf x1 x2 x3 = some o) : Ml l yX6_partOf rmX6_partOf cX6_partOf 5 (some .long) G false [.long x1, .long x2, .int x3] ([]) o ([]) := by
  refine Ml_of (by decide) (Nat.le_of_ble_eq_true rfl) ?_
  intro p e s m below meth c A0 F hr hW ls hl
  obtain ⟨hx, hb, hml, hown, hts, hK, hNW, hlocks, hA, hSX⟩ := id F
  have hl : lv_has ls 5 [(0, .long x1), (2, .long x2), (4, .int x3)] := hl
  have hW : Wd G A0 s ([]) s.heap [] := hW
  show W p l e rmX6_partOf s m ([.long x1, .long x2, .int x3] : List Value).toArray below meth c s.heap [] 0 0 (Ql below G ([]) o A0 ([.long x1, .long x2, .int x3] : List Value).toArray s) (F0 m 0 ls [])
  refine lv_lload_n hx hb dX6_partOf_0 rfl (lv_at hl 0 rfl) ?_
  refine lv_lconst (v := (0 : Int64)) hx hb dX6_partOf_1 (by decide) ?_
  refine W.lcmp hx hb dX6_partOf_2 ?_
  obtain ⟨ht_3, hf_3⟩ := of_ite h
  refine lv_if_ne (tgt := 10) hx hb dX6_partOf_3 (by decide) (fun c_3 => ?_) (fun c_3 => ?_)
  · have h := hf_3 c_3
    refine lv_iload hx hb dX6_partOf_10 (lv_at hl 2 rfl) ?_
    obtain ⟨ht_12, hf_12⟩ := of_ite h
    refine lv_if_ne (tgt := 19) hx hb dX6_partOf_12 (by decide) (fun c_12 => ?_) (fun c_12 => ?_)
    · have h := hf_12 c_12
      refine lv_lload_n hx hb dX6_partOf_19 rfl (lv_at hl 1 rfl) ?_
      refine lv_lload_n hx hb dX6_partOf_20 rfl (lv_at hl 0 rfl) ?_
      refine lv_lload_n hx hb dX6_partOf_21 rfl (lv_at hl 1 rfl) ?_
      obtain ⟨p_22, hc_22, h⟩ := of_bind h
      refine x_Sl (av := [.long x1, .long x2]) F hW (c_X6_gcd l G x1 x2 _ hc_22) [] rfl rfl (by intro q; cases q) cs_X6_180 rfl rfl hl (Nat.le_of_ble_eq_true rfl) ⟨Nat.le_of_ble_eq_true rfl, Nat.le_of_ble_eq_true rfl⟩ ⟨rfl, rfl⟩ ⟨Nat.le_of_ble_eq_true rfl, Nat.le_of_ble_eq_true rfl⟩ dX6_partOf_22 rfl [] rfl (ws' := []) rfl (fun H locs hW => ?_)
      obtain ⟨g_25, h⟩ := of_nguard h
      refine lv_ldiv hx hb dX6_partOf_25 g_25 ?_
      obtain rfl := Option.some.inj h
      exact x_retl F hr hW rfl dX6_partOf_26
    · have h := ht_12 c_12
      refine lv_lload_n hx hb dX6_partOf_15 rfl (lv_at hl 0 rfl) ?_
      refine lv_goto (tgt := 20) hx hb dX6_partOf_16 (by decide) ?_
      refine lv_lload_n hx hb dX6_partOf_20 rfl (lv_at hl 0 rfl) ?_
      refine lv_lload_n hx hb dX6_partOf_21 rfl (lv_at hl 1 rfl) ?_
      obtain ⟨p_22_2, hc_22, h⟩ := of_bind h
      refine x_Sl (av := [.long x1, .long x2]) F hW (c_X6_gcd l G x1 x2 _ hc_22) [] rfl rfl (by intro q; cases q) cs_X6_180 rfl rfl hl (Nat.le_of_ble_eq_true rfl) ⟨Nat.le_of_ble_eq_true rfl, Nat.le_of_ble_eq_true rfl⟩ ⟨rfl, rfl⟩ ⟨Nat.le_of_ble_eq_true rfl, Nat.le_of_ble_eq_true rfl⟩ dX6_partOf_22 rfl [] rfl (ws' := []) rfl (fun H locs hW => ?_)
      obtain ⟨g_25, h⟩ := of_nguard h
      refine lv_ldiv hx hb dX6_partOf_25 g_25 ?_
      obtain rfl := Option.some.inj h
      exact x_retl F hr hW rfl dX6_partOf_26
  · have h := ht_3 c_3
    refine lv_iload hx hb dX6_partOf_6 (lv_at hl 2 rfl) ?_
    refine lv_i2l (v := (x3.toInt64)) hx hb dX6_partOf_8 rfl ?_
    obtain rfl := Option.some.inj h
    exact x_retl F hr hW rfl dX6_partOf_9
