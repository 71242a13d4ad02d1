def f_X6_build_23 (x1 : Int32) : Nat → Int32 → Int32 → Int32 → MW → Option (Int32 × MW)
  | 0, _, _, _, _ => none
  | n0 + 1, v4_23, v3_23, v2_23, w_23 =>
    if (20 : Int32) ≤ v4_23 then
    if x1 = 0 then
    some (v2_23, w_23)
    else
    some (v3_23, w_23)
    else
    Option.bind (f_X6_copies w_23.1 w_23.2.1) fun p_38 =>
    Option.bind (f_X6_adds p_38 (0 : Int32) (0 : Int32) v4_23) fun p_49 =>
    Option.bind (f_X6_hangIn p_49) fun p_56 =>
    Option.bind (f_X6_bits p_56) fun p_59 =>
    if v3_23 < p_59 then
    f_X6_build_23 x1 n0 (v4_23 + (1 : Int32)) p_59 v4_23 (w_23.1, p_49, w_23.2.2.1, w_23.2.2.2.1, w_23.2.2.2.2.1, w_23.2.2.2.2.2.1, w_23.2.2.2.2.2.2.1, w_23.2.2.2.2.2.2.2.1, w_23.2.2.2.2.2.2.2.2.1, w_23.2.2.2.2.2.2.2.2.2.1, w_23.2.2.2.2.2.2.2.2.2.2.1, w_23.2.2.2.2.2.2.2.2.2.2.2.1, w_23.2.2.2.2.2.2.2.2.2.2.2.2.1, w_23.2.2.2.2.2.2.2.2.2.2.2.2.2)
    else
    f_X6_build_23 x1 n0 (v4_23 + (1 : Int32)) v3_23 v2_23 (w_23.1, p_49, w_23.2.2.1, w_23.2.2.2.1, w_23.2.2.2.2.1, w_23.2.2.2.2.2.1, w_23.2.2.2.2.2.2.1, w_23.2.2.2.2.2.2.2.1, w_23.2.2.2.2.2.2.2.2.1, w_23.2.2.2.2.2.2.2.2.2.1, w_23.2.2.2.2.2.2.2.2.2.2.1, w_23.2.2.2.2.2.2.2.2.2.2.2.1, w_23.2.2.2.2.2.2.2.2.2.2.2.2.1, w_23.2.2.2.2.2.2.2.2.2.2.2.2.2)
def f_X6_build (w : MW) (x1 : Int32) : Option (Int32 × MW) :=
  Option.bind (f_X6_isIn x1 (0 : Int32) (1 : Int32)) fun p_3 =>
    if p_3 = 0 then
    Option.bind (f_X6_no w (-2 : Int32)) fun p_12 =>
    some (p_12.1, p_12.2)
    else
    f_X6_build_23 x1 200 (0 : Int32) (-1 : Int32) (0 : Int32) w
abbrev rmX6_build : Room := { frames := 5, cells := 0, slots := 0, locals := 115 }
set_option maxRecDepth 100000 in
set_option maxHeartbeats 4000000 in
theorem c_X6_build (l : Launch) (G : EnT) (q : Nat → Nat) (w : MW) (x1 : Int32) (o : Int32 × MW) (h : f_X6_build w x1 = some o) : Mi l yX6_build rmX6_build cX6_build 6 (some .int) G false [.ref (q 0), .int x1] (cMW G q w) o.1 (cMW G q o.2) := by
  refine Mi_of (by decide) (Nat.le_of_ble_eq_true rfl) ?_
  intro p e s m below meth c A0 F hr hW ls hl
  obtain ⟨hx, hb, hml, hown, hts, hK, hNW, hlocks, hA, hSX⟩ := id F
  have hl : lv_has ls 6 [(0, .ref (q 0)), (1, .int x1)] := hl
  have hW : Wd G A0 s (cMW G q w) s.heap [] := hW
  show W p l e rmX6_build s m ([.ref (q 0), .int x1] : List Value).toArray below meth c s.heap [] 0 0 (Qi below G (cMW G q o.2) o.1 A0 ([.ref (q 0), .int x1] : List Value).toArray s) (F0 m 0 ls [])
  refine lv_iload_n hx hb dX6_build_0 rfl (lv_at hl 1 rfl) ?_
  refine lv_iconst (v := (0 : Int32)) hx hb dX6_build_1 (by decide) ?_
  refine lv_iconst (v := (1 : Int32)) hx hb dX6_build_2 (by decide) ?_
  obtain ⟨p_3, hc_3, h⟩ := of_bind h
  refine x_Si (av := [.int x1, .int (0 : Int32), .int (1 : Int32)]) F hW (c_X6_isIn l G x1 (0 : Int32) (1 : Int32) _ hc_3) [] rfl rfl (by intro q; cases q) cs_X6_43 rfl rfl hl (Nat.le_of_ble_eq_true rfl) ⟨Nat.le_of_ble_eq_true rfl, Nat.le_of_ble_eq_true rfl⟩ ⟨rfl, rfl⟩ ⟨Nat.le_of_ble_eq_true rfl, Nat.le_of_ble_eq_true rfl⟩ dX6_build_3 rfl [none, none, none, none, none, none, none, none, none, none] rfl (ws' := cMW G q w) rfl (fun H locs hW => ?_)
  obtain ⟨ht_6, hf_6⟩ := of_ite h
  refine lv_if_ne (tgt := 16) hx hb dX6_build_6 (by decide) (fun c_6 => ?_) (fun c_6 => ?_)
  · have h := hf_6 c_6
    refine lv_iconst (v := (0 : Int32)) hx hb dX6_build_16 (by decide) ?_
    refine lv_istore_n (lv' := [(2, .int (0 : Int32)), (0, .ref (q 0)), (1, .int x1)]) hx hb dX6_build_17 rfl hl (by decide) rfl (fun ls hl => ?_)
    refine lv_iconst (v := (-1 : Int32)) hx hb dX6_build_18 (by decide) ?_
    refine lv_istore_n (lv' := [(3, .int (-1 : Int32)), (2, .int (0 : Int32)), (0, .ref (q 0)), (1, .int x1)]) hx hb dX6_build_19 rfl hl (by decide) rfl (fun ls hl => ?_)
    refine lv_iconst (v := (0 : Int32)) hx hb dX6_build_20 (by decide) ?_
    refine lv_istore (lv' := [(4, .int (0 : Int32)), (3, .int (-1 : Int32)), (2, .int (0 : Int32)), (0, .ref (q 0)), (1, .int x1)]) hx hb dX6_build_21 hl (by decide) rfl (fun ls hl => ?_)
    have L0 : ∀ (n0 : Nat) (v4_23 : Int32) (v3_23 : Int32) (v2_23 : Int32) (w_23 : MW) (H : Heap) (locs : List Loc) (ls : Array Slot), f_X6_build_23 x1 n0 v4_23 v3_23 v2_23 w_23 = some o → Wd G A0 s (cMW G q w_23) H locs → lv_has ls 6 [(4, .int v4_23), (3, .int v3_23), (2, .int v2_23), (0, .ref (q 0)), (1, .int x1)] → W p l e rmX6_build s m ([.ref (q 0), .int x1] : List Value).toArray below meth c H locs 0 0 (Qi below G (cMW G q o.2) o.1 A0 ([.ref (q 0), .int x1] : List Value).toArray s) (F0 m 23 ls []) := by
      intro n0
      induction n0 with
      | zero => intro v4_23 v3_23 v2_23 w_23 H locs ls h; cases (show (none : Option (Int32 × MW)) = some o from h)
      | succ n0 ih0 =>
        intro v4_23 v3_23 v2_23 w_23 H locs ls h hW hl
        refine lv_iload hx hb dX6_build_23 (lv_at hl 0 rfl) ?_
        refine lv_bipush (v := (20 : Int32)) hx hb dX6_build_25 (by decide) ?_
        obtain ⟨ht_27, hf_27⟩ := of_ite h
        refine lv_icmp_ge (tgt := 85) hx hb dX6_build_27 (by decide) (fun c_27 => ?_) (fun c_27 => ?_)
        · have h := ht_27 c_27
          refine lv_iload_n hx hb dX6_build_85 rfl (lv_at hl 4 rfl) ?_
          obtain ⟨ht_86, hf_86⟩ := of_ite h
          refine lv_if_ne (tgt := 93) hx hb dX6_build_86 (by decide) (fun c_86 => ?_) (fun c_86 => ?_)
          · have h := hf_86 c_86
            refine lv_iload_n hx hb dX6_build_93 rfl (lv_at hl 1 rfl) ?_
            obtain rfl := Option.some.inj h
            exact x_reti F hr hW rfl dX6_build_94
          · have h := ht_86 c_86
            refine lv_iload_n hx hb dX6_build_89 rfl (lv_at hl 2 rfl) ?_
            refine lv_goto (tgt := 94) hx hb dX6_build_90 (by decide) ?_
            obtain rfl := Option.some.inj h
            exact x_reti F hr hW rfl dX6_build_94
        · have h := hf_27 c_27
          refine lv_aload_n hx hb dX6_build_30 rfl (lv_at hl 3 rfl) ?_
          refine x_get F hW 0 rfl fa_X6_9 rfl dX6_build_31 ?_
          refine lv_aload_n hx hb dX6_build_34 rfl (lv_at hl 3 rfl) ?_
          refine x_get F hW 0 rfl fa_X6_13 rfl dX6_build_35 ?_
          obtain ⟨p_38, hc_38, h⟩ := of_bind h
          refine x_Sv (av := [.ref (q 1), .ref (q 2)]) F hW (c_X6_copies l G (fun i => q (i + 1)) w_23.1 (fun i => q (i + 2)) w_23.2.1 _ hc_38) [1, 2] rfl rfl (by intro q; cases q) cs_X6_134 rfl rfl hl (Nat.le_of_ble_eq_true rfl) ⟨Nat.le_of_ble_eq_true rfl, Nat.le_of_ble_eq_true rfl⟩ ⟨rfl, rfl⟩ ⟨Nat.le_of_ble_eq_true rfl, Nat.le_of_ble_eq_true rfl⟩ dX6_build_38 rfl [none, some 0, some 1, none, none, none, none, none, none, none] rfl (ws' := cMW G q (w_23.1, p_38, w_23.2.2.1, w_23.2.2.2.1, w_23.2.2.2.2.1, w_23.2.2.2.2.2.1, w_23.2.2.2.2.2.2.1, w_23.2.2.2.2.2.2.2.1, w_23.2.2.2.2.2.2.2.2.1, w_23.2.2.2.2.2.2.2.2.2.1, w_23.2.2.2.2.2.2.2.2.2.2.1, w_23.2.2.2.2.2.2.2.2.2.2.2.1, w_23.2.2.2.2.2.2.2.2.2.2.2.2.1, w_23.2.2.2.2.2.2.2.2.2.2.2.2.2)) rfl (fun H locs hW => ?_)
          refine lv_aload_n hx hb dX6_build_41 rfl (lv_at hl 3 rfl) ?_
          refine x_get F hW 0 rfl fa_X6_13 rfl dX6_build_42 ?_
          refine lv_iconst (v := (0 : Int32)) hx hb dX6_build_45 (by decide) ?_
          refine lv_iconst (v := (0 : Int32)) hx hb dX6_build_46 (by decide) ?_
          refine lv_iload hx hb dX6_build_47 (lv_at hl 0 rfl) ?_
          obtain ⟨p_49, hc_49, h⟩ := of_bind h
          refine x_Sv (av := [.ref (q 2), .int (0 : Int32), .int (0 : Int32), .int v4_23]) F hW (c_X6_adds l G (fun i => q (i + 2)) p_38 (0 : Int32) (0 : Int32) v4_23 _ hc_49) [2] rfl rfl (by intro q; cases q) cs_X6_118 rfl rfl hl (Nat.le_of_ble_eq_true rfl) ⟨Nat.le_of_ble_eq_true rfl, Nat.le_of_ble_eq_true rfl⟩ ⟨rfl, rfl⟩ ⟨Nat.le_of_ble_eq_true rfl, Nat.le_of_ble_eq_true rfl⟩ dX6_build_49 rfl [none, none, some 0, none, none, none, none, none, none, none] rfl (ws' := cMW G q (w_23.1, p_49, w_23.2.2.1, w_23.2.2.2.1, w_23.2.2.2.2.1, w_23.2.2.2.2.2.1, w_23.2.2.2.2.2.2.1, w_23.2.2.2.2.2.2.2.1, w_23.2.2.2.2.2.2.2.2.1, w_23.2.2.2.2.2.2.2.2.2.1, w_23.2.2.2.2.2.2.2.2.2.2.1, w_23.2.2.2.2.2.2.2.2.2.2.2.1, w_23.2.2.2.2.2.2.2.2.2.2.2.2.1, w_23.2.2.2.2.2.2.2.2.2.2.2.2.2)) rfl (fun H locs hW => ?_)
          refine lv_aload_n hx hb dX6_build_52 rfl (lv_at hl 3 rfl) ?_
          refine x_get F hW 0 rfl fa_X6_13 rfl dX6_build_53 ?_
          obtain ⟨p_56, hc_56, h⟩ := of_bind h
          refine x_Si (av := [.ref (q 2)]) F hW (c_X6_hangIn l G (fun i => q (i + 2)) p_49 _ hc_56) [2] rfl rfl (by intro q; cases q) cs_X6_145 rfl rfl hl (Nat.le_of_ble_eq_true rfl) ⟨Nat.le_of_ble_eq_true rfl, Nat.le_of_ble_eq_true rfl⟩ ⟨rfl, rfl⟩ ⟨Nat.le_of_ble_eq_true rfl, Nat.le_of_ble_eq_true rfl⟩ dX6_build_56 rfl [none, none, some 0, none, none, none, none, none, none, none] rfl (ws' := cMW G q (w_23.1, p_49, w_23.2.2.1, w_23.2.2.2.1, w_23.2.2.2.2.1, w_23.2.2.2.2.2.1, w_23.2.2.2.2.2.2.1, w_23.2.2.2.2.2.2.2.1, w_23.2.2.2.2.2.2.2.2.1, w_23.2.2.2.2.2.2.2.2.2.1, w_23.2.2.2.2.2.2.2.2.2.2.1, w_23.2.2.2.2.2.2.2.2.2.2.2.1, w_23.2.2.2.2.2.2.2.2.2.2.2.2.1, w_23.2.2.2.2.2.2.2.2.2.2.2.2.2)) rfl (fun H locs hW => ?_)
          obtain ⟨p_59, hc_59, h⟩ := of_bind h
          refine x_Si (av := [.int p_56]) F hW (c_X6_bits l G p_56 _ hc_59) [] rfl rfl (by intro q; cases q) cs_X6_148 rfl rfl hl (Nat.le_of_ble_eq_true rfl) ⟨Nat.le_of_ble_eq_true rfl, Nat.le_of_ble_eq_true rfl⟩ ⟨rfl, rfl⟩ ⟨Nat.le_of_ble_eq_true rfl, Nat.le_of_ble_eq_true rfl⟩ dX6_build_59 rfl [none, none, none, none, none, none, none, none, none, none] rfl (ws' := cMW G q (w_23.1, p_49, w_23.2.2.1, w_23.2.2.2.1, w_23.2.2.2.2.1, w_23.2.2.2.2.2.1, w_23.2.2.2.2.2.2.1, w_23.2.2.2.2.2.2.2.1, w_23.2.2.2.2.2.2.2.2.1, w_23.2.2.2.2.2.2.2.2.2.1, w_23.2.2.2.2.2.2.2.2.2.2.1, w_23.2.2.2.2.2.2.2.2.2.2.2.1, w_23.2.2.2.2.2.2.2.2.2.2.2.2.1, w_23.2.2.2.2.2.2.2.2.2.2.2.2.2)) rfl (fun H locs hW => ?_)
          refine lv_istore (lv' := [(5, .int p_59), (4, .int v4_23), (3, .int v3_23), (2, .int v2_23), (0, .ref (q 0)), (1, .int x1)]) hx hb dX6_build_62 hl (by decide) rfl (fun ls hl => ?_)
          refine lv_iload hx hb dX6_build_64 (lv_at hl 0 rfl) ?_
          refine lv_iload_n hx hb dX6_build_66 rfl (lv_at hl 2 rfl) ?_
          obtain ⟨ht_67, hf_67⟩ := of_ite h
          refine lv_icmp_gt (tgt := 73) hx hb dX6_build_67 (by decide) (fun c_67 => ?_) (fun c_67 => ?_)
          · have h := ht_67 c_67
            refine lv_iload hx hb dX6_build_73 (lv_at hl 1 rfl) ?_
            refine lv_istore_n (lv' := [(2, .int v4_23), (5, .int p_59), (4, .int v4_23), (3, .int v3_23), (0, .ref (q 0)), (1, .int x1)]) hx hb dX6_build_75 rfl hl (by decide) rfl (fun ls hl => ?_)
            refine lv_iload hx hb dX6_build_76 (lv_at hl 1 rfl) ?_
            refine lv_istore_n (lv' := [(3, .int p_59), (2, .int v4_23), (5, .int p_59), (4, .int v4_23), (0, .ref (q 0)), (1, .int x1)]) hx hb dX6_build_78 rfl hl (by decide) rfl (fun ls hl => ?_)
            refine lv_iinc (v := (v4_23 + (1 : Int32))) (lv' := [(4, .int (v4_23 + (1 : Int32))), (3, .int p_59), (2, .int v4_23), (5, .int p_59), (0, .ref (q 0)), (1, .int x1)]) hx hb dX6_build_79 hl (k := 3) rfl rfl (by decide) rfl (fun ls hl => ?_)
            refine lv_goto (tgt := 23) hx hb dX6_build_82 (by decide) ?_
            exact ih0 (v4_23 + (1 : Int32)) p_59 v4_23 (w_23.1, p_49, w_23.2.2.1, w_23.2.2.2.1, w_23.2.2.2.2.1, w_23.2.2.2.2.2.1, w_23.2.2.2.2.2.2.1, w_23.2.2.2.2.2.2.2.1, w_23.2.2.2.2.2.2.2.2.1, w_23.2.2.2.2.2.2.2.2.2.1, w_23.2.2.2.2.2.2.2.2.2.2.1, w_23.2.2.2.2.2.2.2.2.2.2.2.1, w_23.2.2.2.2.2.2.2.2.2.2.2.2.1, w_23.2.2.2.2.2.2.2.2.2.2.2.2.2) _ _ _ h hW (lv_sub hl [0, 1, 2, 4, 5] rfl)
          · have h := hf_67 c_67
            refine lv_goto (tgt := 79) hx hb dX6_build_70 (by decide) ?_
            refine lv_iinc (v := (v4_23 + (1 : Int32))) (lv' := [(4, .int (v4_23 + (1 : Int32))), (5, .int p_59), (3, .int v3_23), (2, .int v2_23), (0, .ref (q 0)), (1, .int x1)]) hx hb dX6_build_79 hl (k := 1) rfl rfl (by decide) rfl (fun ls hl => ?_)
            refine lv_goto (tgt := 23) hx hb dX6_build_82 (by decide) ?_
            exact ih0 (v4_23 + (1 : Int32)) v3_23 v2_23 (w_23.1, p_49, w_23.2.2.1, w_23.2.2.2.1, w_23.2.2.2.2.1, w_23.2.2.2.2.2.1, w_23.2.2.2.2.2.2.1, w_23.2.2.2.2.2.2.2.1, w_23.2.2.2.2.2.2.2.2.1, w_23.2.2.2.2.2.2.2.2.2.1, w_23.2.2.2.2.2.2.2.2.2.2.1, w_23.2.2.2.2.2.2.2.2.2.2.2.1, w_23.2.2.2.2.2.2.2.2.2.2.2.2.1, w_23.2.2.2.2.2.2.2.2.2.2.2.2.2) _ _ _ h hW (lv_sub hl [0, 2, 3, 4, 5] rfl)
    exact L0 200 (0 : Int32) (-1 : Int32) (0 : Int32) w _ _ _ h hW (lv_sub hl [0, 1, 2, 3, 4] rfl)
  · have h := ht_6 c_6
    refine lv_aload_n hx hb dX6_build_9 rfl (lv_at hl 0 rfl) ?_
    refine lv_bipush (v := (-2 : Int32)) hx hb dX6_build_10 (by decide) ?_
    obtain ⟨p_12, hc_12, h⟩ := of_bind h
    refine x_Vi (av := [.ref (q 0), .int (-2 : Int32)]) (As := [.int (-2 : Int32)]) F hW (c_X6_no l G q w (-2 : Int32) _ hc_12) [0, 1, 2, 3, 4, 5, 6, 7, 8, 9] rfl rfl (by intro q; cases q) cv_X6_39 rfl ⟨_, rfl, rfl⟩ rfl rfl rfl hl (Nat.le_of_ble_eq_true rfl) ⟨Nat.le_of_ble_eq_true rfl, Nat.le_of_ble_eq_true rfl⟩ ⟨rfl, rfl⟩ ⟨Nat.le_of_ble_eq_true rfl, Nat.le_of_ble_eq_true rfl⟩ dX6_build_12 rfl [some 0, some 1, some 2, some 3, some 4, some 5, some 6, some 7, some 8, some 9] rfl (ws' := cMW G q p_12.2) rfl (fun H locs hW => ?_)
    obtain rfl := Option.some.inj h
    exact x_reti F hr hW rfl dX6_build_15
def f_X6_fell_16 : Nat → Int32 → Int32 → Int32 → MW → Option (Int32 × MW)
  | 0, _, _, _, _ => none
  | n0 + 1, v3_16, v2_16, v1_16, w_16 =>
    if (20 : Int32) ≤ v3_16 then
    some (v2_16, w_16)
    else
    Option.bind (f_X6_copies w_16.1 w_16.2.1) fun p_30 =>
    if inR ((3 : Int32) + v3_16) 71 then
    Option.bind (f_X6_hangIn (upd p_30 ((3 : Int32) + v3_16).toNatClampNeg (0 : Int32))) fun p_46 =>
    Option.bind (f_X6_bits p_46) fun p_49 =>
    if v1_16 < p_49 then
    Option.bind (f_X6_hangIn (upd p_30 ((3 : Int32) + v3_16).toNatClampNeg (0 : Int32))) fun p_65 =>
    Option.bind (f_X6_bits p_65) fun p_68 =>
    f_X6_fell_16 n0 (v3_16 + (1 : Int32)) v3_16 p_68 (w_16.1, (upd p_30 ((3 : Int32) + v3_16).toNatClampNeg (0 : Int32)), w_16.2.2.1, w_16.2.2.2.1, w_16.2.2.2.2.1, w_16.2.2.2.2.2.1, w_16.2.2.2.2.2.2.1, w_16.2.2.2.2.2.2.2.1, w_16.2.2.2.2.2.2.2.2.1, w_16.2.2.2.2.2.2.2.2.2.1, w_16.2.2.2.2.2.2.2.2.2.2.1, w_16.2.2.2.2.2.2.2.2.2.2.2.1, w_16.2.2.2.2.2.2.2.2.2.2.2.2.1, w_16.2.2.2.2.2.2.2.2.2.2.2.2.2)
    else
    f_X6_fell_16 n0 (v3_16 + (1 : Int32)) v2_16 v1_16 (w_16.1, (upd p_30 ((3 : Int32) + v3_16).toNatClampNeg (0 : Int32)), w_16.2.2.1, w_16.2.2.2.1, w_16.2.2.2.2.1, w_16.2.2.2.2.2.1, w_16.2.2.2.2.2.2.1, w_16.2.2.2.2.2.2.2.1, w_16.2.2.2.2.2.2.2.2.1, w_16.2.2.2.2.2.2.2.2.2.1, w_16.2.2.2.2.2.2.2.2.2.2.1, w_16.2.2.2.2.2.2.2.2.2.2.2.1, w_16.2.2.2.2.2.2.2.2.2.2.2.2.1, w_16.2.2.2.2.2.2.2.2.2.2.2.2.2)
    else none
def f_X6_fell (w : MW) : Option (Int32 × MW) :=
  Option.bind (f_X6_hangIn w.1) fun p_4 =>
    Option.bind (f_X6_bits p_4) fun p_7 =>
    f_X6_fell_16 200 (0 : Int32) (-9 : Int32) p_7 w
abbrev rmX6_fell : Room := { frames := 5, cells := 0, slots := 0, locals := 115 }
set_option maxRecDepth 100000 in
set_option maxHeartbeats 4000000 in
theorem c_X6_fell (l : Launch) (G : EnT) (q : Nat → Nat) (w : MW) (o : Int32 × MW) (h : f_X6_fell w = some o) : Mi l yX6_fell rmX6_fell cX6_fell 4 (some .int) G false [.ref (q 0)] (cMW G q w) o.1 (cMW G q o.2) := by
  refine Mi_of (by decide) (Nat.le_of_ble_eq_true rfl) ?_
  intro p e s m below meth c A0 F hr hW ls hl
  obtain ⟨hx, hb, hml, hown, hts, hK, hNW, hlocks, hA, hSX⟩ := id F
  have hl : lv_has ls 4 [(0, .ref (q 0))] := hl
  have hW : Wd G A0 s (cMW G q w) s.heap [] := hW
  show W p l e rmX6_fell s m ([.ref (q 0)] : List Value).toArray below meth c s.heap [] 0 0 (Qi below G (cMW G q o.2) o.1 A0 ([.ref (q 0)] : List Value).toArray s) (F0 m 0 ls [])
  refine lv_aload_n hx hb dX6_fell_0 rfl (lv_at hl 0 rfl) ?_
  refine x_get F hW 0 rfl fa_X6_9 rfl dX6_fell_1 ?_
  obtain ⟨p_4, hc_4, h⟩ := of_bind h
  refine x_Si (av := [.ref (q 1)]) F hW (c_X6_hangIn l G (fun i => q (i + 1)) w.1 _ hc_4) [1] rfl rfl (by intro q; cases q) cs_X6_145 rfl rfl hl (Nat.le_of_ble_eq_true rfl) ⟨Nat.le_of_ble_eq_true rfl, Nat.le_of_ble_eq_true rfl⟩ ⟨rfl, rfl⟩ ⟨Nat.le_of_ble_eq_true rfl, Nat.le_of_ble_eq_true rfl⟩ dX6_fell_4 rfl [none, some 0, none, none, none, none, none, none, none, none] rfl (ws' := cMW G q w) rfl (fun H locs hW => ?_)
  obtain ⟨p_7, hc_7, h⟩ := of_bind h
  refine x_Si (av := [.int p_4]) F hW (c_X6_bits l G p_4 _ hc_7) [] rfl rfl (by intro q; cases q) cs_X6_148 rfl rfl hl (Nat.le_of_ble_eq_true rfl) ⟨Nat.le_of_ble_eq_true rfl, Nat.le_of_ble_eq_true rfl⟩ ⟨rfl, rfl⟩ ⟨Nat.le_of_ble_eq_true rfl, Nat.le_of_ble_eq_true rfl⟩ dX6_fell_7 rfl [none, none, none, none, none, none, none, none, none, none] rfl (ws' := cMW G q w) rfl (fun H locs hW => ?_)
  refine lv_istore_n (lv' := [(1, .int p_7), (0, .ref (q 0))]) hx hb dX6_fell_10 rfl hl (by decide) rfl (fun ls hl => ?_)
  refine lv_bipush (v := (-9 : Int32)) hx hb dX6_fell_11 (by decide) ?_
  refine lv_istore_n (lv' := [(2, .int (-9 : Int32)), (1, .int p_7), (0, .ref (q 0))]) hx hb dX6_fell_13 rfl hl (by decide) rfl (fun ls hl => ?_)
  refine lv_iconst (v := (0 : Int32)) hx hb dX6_fell_14 (by decide) ?_
  refine lv_istore_n (lv' := [(3, .int (0 : Int32)), (2, .int (-9 : Int32)), (1, .int p_7), (0, .ref (q 0))]) hx hb dX6_fell_15 rfl hl (by decide) rfl (fun ls hl => ?_)
  have L0 : ∀ (n0 : Nat) (v3_16 : Int32) (v2_16 : Int32) (v1_16 : Int32) (w_16 : MW) (H : Heap) (locs : List Loc) (ls : Array Slot), f_X6_fell_16 n0 v3_16 v2_16 v1_16 w_16 = some o → Wd G A0 s (cMW G q w_16) H locs → lv_has ls 4 [(3, .int v3_16), (2, .int v2_16), (1, .int v1_16), (0, .ref (q 0))] → W p l e rmX6_fell s m ([.ref (q 0)] : List Value).toArray below meth c H locs 0 0 (Qi below G (cMW G q o.2) o.1 A0 ([.ref (q 0)] : List Value).toArray s) (F0 m 16 ls []) := by
    intro n0
    induction n0 with
    | zero => intro v3_16 v2_16 v1_16 w_16 H locs ls h; cases (show (none : Option (Int32 × MW)) = some o from h)
    | succ n0 ih0 =>
      intro v3_16 v2_16 v1_16 w_16 H locs ls h hW hl
      refine lv_iload_n hx hb dX6_fell_16 rfl (lv_at hl 0 rfl) ?_
      refine lv_bipush (v := (20 : Int32)) hx hb dX6_fell_17 (by decide) ?_
      obtain ⟨ht_19, hf_19⟩ := of_ite h
      refine lv_icmp_ge (tgt := 78) hx hb dX6_fell_19 (by decide) (fun c_19 => ?_) (fun c_19 => ?_)
      · have h := ht_19 c_19
        refine lv_iload_n hx hb dX6_fell_78 rfl (lv_at hl 1 rfl) ?_
        obtain rfl := Option.some.inj h
        exact x_reti F hr hW rfl dX6_fell_79
      · have h := hf_19 c_19
        refine lv_aload_n hx hb dX6_fell_22 rfl (lv_at hl 3 rfl) ?_
        refine x_get F hW 0 rfl fa_X6_9 rfl dX6_fell_23 ?_
        refine lv_aload_n hx hb dX6_fell_26 rfl (lv_at hl 3 rfl) ?_
        refine x_get F hW 0 rfl fa_X6_13 rfl dX6_fell_27 ?_
        obtain ⟨p_30, hc_30, h⟩ := of_bind h
        refine x_Sv (av := [.ref (q 1), .ref (q 2)]) F hW (c_X6_copies l G (fun i => q (i + 1)) w_16.1 (fun i => q (i + 2)) w_16.2.1 _ hc_30) [1, 2] rfl rfl (by intro q; cases q) cs_X6_134 rfl rfl hl (Nat.le_of_ble_eq_true rfl) ⟨Nat.le_of_ble_eq_true rfl, Nat.le_of_ble_eq_true rfl⟩ ⟨rfl, rfl⟩ ⟨Nat.le_of_ble_eq_true rfl, Nat.le_of_ble_eq_true rfl⟩ dX6_fell_30 rfl [none, some 0, some 1, none, none, none, none, none, none, none] rfl (ws' := cMW G q (w_16.1, p_30, w_16.2.2.1, w_16.2.2.2.1, w_16.2.2.2.2.1, w_16.2.2.2.2.2.1, w_16.2.2.2.2.2.2.1, w_16.2.2.2.2.2.2.2.1, w_16.2.2.2.2.2.2.2.2.1, w_16.2.2.2.2.2.2.2.2.2.1, w_16.2.2.2.2.2.2.2.2.2.2.1, w_16.2.2.2.2.2.2.2.2.2.2.2.1, w_16.2.2.2.2.2.2.2.2.2.2.2.2.1, w_16.2.2.2.2.2.2.2.2.2.2.2.2.2)) rfl (fun H locs hW => ?_)
        refine lv_aload_n hx hb dX6_fell_33 rfl (lv_at hl 3 rfl) ?_
        refine x_get F hW 0 rfl fa_X6_13 rfl dX6_fell_34 ?_
        refine lv_iconst (v := (3 : Int32)) hx hb dX6_fell_37 (by decide) ?_
        refine lv_iload_n hx hb dX6_fell_38 rfl (lv_at hl 0 rfl) ?_
        refine lv_iadd hx hb dX6_fell_39 ?_
        refine lv_iconst (v := (0 : Int32)) hx hb dX6_fell_40 (by decide) ?_
        obtain ⟨g_41, h⟩ := of_guard h
        refine x_iast F hW 2 rfl g_41 (ws' := cMW G q (w_16.1, (upd p_30 ((3 : Int32) + v3_16).toNatClampNeg (0 : Int32)), w_16.2.2.1, w_16.2.2.2.1, w_16.2.2.2.2.1, w_16.2.2.2.2.2.1, w_16.2.2.2.2.2.2.1, w_16.2.2.2.2.2.2.2.1, w_16.2.2.2.2.2.2.2.2.1, w_16.2.2.2.2.2.2.2.2.2.1, w_16.2.2.2.2.2.2.2.2.2.2.1, w_16.2.2.2.2.2.2.2.2.2.2.2.1, w_16.2.2.2.2.2.2.2.2.2.2.2.2.1, w_16.2.2.2.2.2.2.2.2.2.2.2.2.2)) rfl dX6_fell_41 (fun H locs hW => ?_)
        refine lv_aload_n hx hb dX6_fell_42 rfl (lv_at hl 3 rfl) ?_
        refine x_get F hW 0 rfl fa_X6_13 rfl dX6_fell_43 ?_
        obtain ⟨p_46, hc_46, h⟩ := of_bind h
        refine x_Si (av := [.ref (q 2)]) F hW (c_X6_hangIn l G (fun i => q (i + 2)) (upd p_30 ((3 : Int32) + v3_16).toNatClampNeg (0 : Int32)) _ hc_46) [2] rfl rfl (by intro q; cases q) cs_X6_145 rfl rfl hl (Nat.le_of_ble_eq_true rfl) ⟨Nat.le_of_ble_eq_true rfl, Nat.le_of_ble_eq_true rfl⟩ ⟨rfl, rfl⟩ ⟨Nat.le_of_ble_eq_true rfl, Nat.le_of_ble_eq_true rfl⟩ dX6_fell_46 rfl [none, none, some 0, none, none, none, none, none, none, none] rfl (ws' := cMW G q (w_16.1, (upd p_30 ((3 : Int32) + v3_16).toNatClampNeg (0 : Int32)), w_16.2.2.1, w_16.2.2.2.1, w_16.2.2.2.2.1, w_16.2.2.2.2.2.1, w_16.2.2.2.2.2.2.1, w_16.2.2.2.2.2.2.2.1, w_16.2.2.2.2.2.2.2.2.1, w_16.2.2.2.2.2.2.2.2.2.1, w_16.2.2.2.2.2.2.2.2.2.2.1, w_16.2.2.2.2.2.2.2.2.2.2.2.1, w_16.2.2.2.2.2.2.2.2.2.2.2.2.1, w_16.2.2.2.2.2.2.2.2.2.2.2.2.2)) rfl (fun H locs hW => ?_)
        obtain ⟨p_49, hc_49, h⟩ := of_bind h
        refine x_Si (av := [.int p_46]) F hW (c_X6_bits l G p_46 _ hc_49) [] rfl rfl (by intro q; cases q) cs_X6_148 rfl rfl hl (Nat.le_of_ble_eq_true rfl) ⟨Nat.le_of_ble_eq_true rfl, Nat.le_of_ble_eq_true rfl⟩ ⟨rfl, rfl⟩ ⟨Nat.le_of_ble_eq_true rfl, Nat.le_of_ble_eq_true rfl⟩ dX6_fell_49 rfl [none, none, none, none, none, none, none, none, none, none] rfl (ws' := cMW G q (w_16.1, (upd p_30 ((3 : Int32) + v3_16).toNatClampNeg (0 : Int32)), w_16.2.2.1, w_16.2.2.2.1, w_16.2.2.2.2.1, w_16.2.2.2.2.2.1, w_16.2.2.2.2.2.2.1, w_16.2.2.2.2.2.2.2.1, w_16.2.2.2.2.2.2.2.2.1, w_16.2.2.2.2.2.2.2.2.2.1, w_16.2.2.2.2.2.2.2.2.2.2.1, w_16.2.2.2.2.2.2.2.2.2.2.2.1, w_16.2.2.2.2.2.2.2.2.2.2.2.2.1, w_16.2.2.2.2.2.2.2.2.2.2.2.2.2)) rfl (fun H locs hW => ?_)
        refine lv_iload_n hx hb dX6_fell_52 rfl (lv_at hl 2 rfl) ?_
        obtain ⟨ht_53, hf_53⟩ := of_ite h
        refine lv_icmp_gt (tgt := 59) hx hb dX6_fell_53 (by decide) (fun c_53 => ?_) (fun c_53 => ?_)
        · have h := ht_53 c_53
          refine lv_iload_n hx hb dX6_fell_59 rfl (lv_at hl 0 rfl) ?_
          refine lv_istore_n (lv' := [(2, .int v3_16), (3, .int v3_16), (1, .int v1_16), (0, .ref (q 0))]) hx hb dX6_fell_60 rfl hl (by decide) rfl (fun ls hl => ?_)
          refine lv_aload_n hx hb dX6_fell_61 rfl (lv_at hl 3 rfl) ?_
          refine x_get F hW 0 rfl fa_X6_13 rfl dX6_fell_62 ?_
          obtain ⟨p_65, hc_65, h⟩ := of_bind h
          refine x_Si (av := [.ref (q 2)]) F hW (c_X6_hangIn l G (fun i => q (i + 2)) (upd p_30 ((3 : Int32) + v3_16).toNatClampNeg (0 : Int32)) _ hc_65) [2] rfl rfl (by intro q; cases q) cs_X6_145 rfl rfl hl (Nat.le_of_ble_eq_true rfl) ⟨Nat.le_of_ble_eq_true rfl, Nat.le_of_ble_eq_true rfl⟩ ⟨rfl, rfl⟩ ⟨Nat.le_of_ble_eq_true rfl, Nat.le_of_ble_eq_true rfl⟩ dX6_fell_65 rfl [none, none, some 0, none, none, none, none, none, none, none] rfl (ws' := cMW G q (w_16.1, (upd p_30 ((3 : Int32) + v3_16).toNatClampNeg (0 : Int32)), w_16.2.2.1, w_16.2.2.2.1, w_16.2.2.2.2.1, w_16.2.2.2.2.2.1, w_16.2.2.2.2.2.2.1, w_16.2.2.2.2.2.2.2.1, w_16.2.2.2.2.2.2.2.2.1, w_16.2.2.2.2.2.2.2.2.2.1, w_16.2.2.2.2.2.2.2.2.2.2.1, w_16.2.2.2.2.2.2.2.2.2.2.2.1, w_16.2.2.2.2.2.2.2.2.2.2.2.2.1, w_16.2.2.2.2.2.2.2.2.2.2.2.2.2)) rfl (fun H locs hW => ?_)
          obtain ⟨p_68, hc_68, h⟩ := of_bind h
          refine x_Si (av := [.int p_65]) F hW (c_X6_bits l G p_65 _ hc_68) [] rfl rfl (by intro q; cases q) cs_X6_148 rfl rfl hl (Nat.le_of_ble_eq_true rfl) ⟨Nat.le_of_ble_eq_true rfl, Nat.le_of_ble_eq_true rfl⟩ ⟨rfl, rfl⟩ ⟨Nat.le_of_ble_eq_true rfl, Nat.le_of_ble_eq_true rfl⟩ dX6_fell_68 rfl [none, none, none, none, none, none, none, none, none, none] rfl (ws' := cMW G q (w_16.1, (upd p_30 ((3 : Int32) + v3_16).toNatClampNeg (0 : Int32)), w_16.2.2.1, w_16.2.2.2.1, w_16.2.2.2.2.1, w_16.2.2.2.2.2.1, w_16.2.2.2.2.2.2.1, w_16.2.2.2.2.2.2.2.1, w_16.2.2.2.2.2.2.2.2.1, w_16.2.2.2.2.2.2.2.2.2.1, w_16.2.2.2.2.2.2.2.2.2.2.1, w_16.2.2.2.2.2.2.2.2.2.2.2.1, w_16.2.2.2.2.2.2.2.2.2.2.2.2.1, w_16.2.2.2.2.2.2.2.2.2.2.2.2.2)) rfl (fun H locs hW => ?_)
          refine lv_istore_n (lv' := [(1, .int p_68), (2, .int v3_16), (3, .int v3_16), (0, .ref (q 0))]) hx hb dX6_fell_71 rfl hl (by decide) rfl (fun ls hl => ?_)
          refine lv_iinc (v := (v3_16 + (1 : Int32))) (lv' := [(3, .int (v3_16 + (1 : Int32))), (1, .int p_68), (2, .int v3_16), (0, .ref (q 0))]) hx hb dX6_fell_72 hl (k := 2) rfl rfl (by decide) rfl (fun ls hl => ?_)
          refine lv_goto (tgt := 16) hx hb dX6_fell_75 (by decide) ?_
          exact ih0 (v3_16 + (1 : Int32)) v3_16 p_68 (w_16.1, (upd p_30 ((3 : Int32) + v3_16).toNatClampNeg (0 : Int32)), w_16.2.2.1, w_16.2.2.2.1, w_16.2.2.2.2.1, w_16.2.2.2.2.2.1, w_16.2.2.2.2.2.2.1, w_16.2.2.2.2.2.2.2.1, w_16.2.2.2.2.2.2.2.2.1, w_16.2.2.2.2.2.2.2.2.2.1, w_16.2.2.2.2.2.2.2.2.2.2.1, w_16.2.2.2.2.2.2.2.2.2.2.2.1, w_16.2.2.2.2.2.2.2.2.2.2.2.2.1, w_16.2.2.2.2.2.2.2.2.2.2.2.2.2) _ _ _ h hW (lv_sub hl [0, 2, 1, 3] rfl)
        · have h := hf_53 c_53
          refine lv_goto (tgt := 72) hx hb dX6_fell_56 (by decide) ?_
          refine lv_iinc (v := (v3_16 + (1 : Int32))) (lv' := [(3, .int (v3_16 + (1 : Int32))), (2, .int v2_16), (1, .int v1_16), (0, .ref (q 0))]) hx hb dX6_fell_72 hl (k := 0) rfl rfl (by decide) rfl (fun ls hl => ?_)
          refine lv_goto (tgt := 16) hx hb dX6_fell_75 (by decide) ?_
          exact ih0 (v3_16 + (1 : Int32)) v2_16 v1_16 (w_16.1, (upd p_30 ((3 : Int32) + v3_16).toNatClampNeg (0 : Int32)), w_16.2.2.1, w_16.2.2.2.1, w_16.2.2.2.2.1, w_16.2.2.2.2.2.1, w_16.2.2.2.2.2.2.1, w_16.2.2.2.2.2.2.2.1, w_16.2.2.2.2.2.2.2.2.1, w_16.2.2.2.2.2.2.2.2.2.1, w_16.2.2.2.2.2.2.2.2.2.2.1, w_16.2.2.2.2.2.2.2.2.2.2.2.1, w_16.2.2.2.2.2.2.2.2.2.2.2.2.1, w_16.2.2.2.2.2.2.2.2.2.2.2.2.2) _ _ _ h hW (lv_sub hl [0, 1, 2, 3] rfl)
  exact L0 200 (0 : Int32) (-9 : Int32) p_7 w _ _ _ h hW (lv_sub hl [0, 1, 2, 3] rfl)
def f_X6_raise_16 : Nat → Int32 → Int32 → Int32 → MW → Option (Int32 × MW)
  | 0, _, _, _, _ => none
  | n0 + 1, v3_16, v2_16, v1_16, w_16 =>
    if inR (0 : Int32) 71 then
    if (w_16.1 (0 : Int32).toNatClampNeg) ≤ v3_16 then
    some (v2_16, w_16)
    else
    Option.bind (f_X6_copies w_16.1 w_16.2.1) fun p_34 =>
    Option.bind (f_X6_of v3_16 (5 : Int32)) fun p_43 =>
    if inR p_43 71 then
    Option.bind (f_X6_hangIn (upd p_34 p_43.toNatClampNeg (3 : Int32))) fun p_52 =>
    Option.bind (f_X6_bits p_52) fun p_55 =>
    if v1_16 < p_55 then
    Option.bind (f_X6_hangIn (upd p_34 p_43.toNatClampNeg (3 : Int32))) fun p_71 =>
    Option.bind (f_X6_bits p_71) fun p_74 =>
    f_X6_raise_16 n0 (v3_16 + (1 : Int32)) v3_16 p_74 (w_16.1, (upd p_34 p_43.toNatClampNeg (3 : Int32)), w_16.2.2.1, w_16.2.2.2.1, w_16.2.2.2.2.1, w_16.2.2.2.2.2.1, w_16.2.2.2.2.2.2.1, w_16.2.2.2.2.2.2.2.1, w_16.2.2.2.2.2.2.2.2.1, w_16.2.2.2.2.2.2.2.2.2.1, w_16.2.2.2.2.2.2.2.2.2.2.1, w_16.2.2.2.2.2.2.2.2.2.2.2.1, w_16.2.2.2.2.2.2.2.2.2.2.2.2.1, w_16.2.2.2.2.2.2.2.2.2.2.2.2.2)
    else
    f_X6_raise_16 n0 (v3_16 + (1 : Int32)) v2_16 v1_16 (w_16.1, (upd p_34 p_43.toNatClampNeg (3 : Int32)), w_16.2.2.1, w_16.2.2.2.1, w_16.2.2.2.2.1, w_16.2.2.2.2.2.1, w_16.2.2.2.2.2.2.1, w_16.2.2.2.2.2.2.2.1, w_16.2.2.2.2.2.2.2.2.1, w_16.2.2.2.2.2.2.2.2.2.1, w_16.2.2.2.2.2.2.2.2.2.2.1, w_16.2.2.2.2.2.2.2.2.2.2.2.1, w_16.2.2.2.2.2.2.2.2.2.2.2.2.1, w_16.2.2.2.2.2.2.2.2.2.2.2.2.2)
    else none
    else none
def f_X6_raise (w : MW) : Option (Int32 × MW) :=
  Option.bind (f_X6_hangIn w.1) fun p_4 =>
    Option.bind (f_X6_bits p_4) fun p_7 =>
    f_X6_raise_16 200 (0 : Int32) (-9 : Int32) p_7 w
abbrev rmX6_raise : Room := { frames := 5, cells := 0, slots := 0, locals := 115 }
set_option maxRecDepth 100000 in
set_option maxHeartbeats 4000000 in
theorem c_X6_raise (l : Launch) (G : EnT) (q : Nat → Nat) (w : MW) (o : Int32 × MW) (h : f_X6_raise w = some o) : Mi l yX6_raise rmX6_raise cX6_raise 4 (some .int) G false [.ref (q 0)] (cMW G q w) o.1 (cMW G q o.2) := by
  refine Mi_of (by decide) (Nat.le_of_ble_eq_true rfl) ?_
  intro p e s m below meth c A0 F hr hW ls hl
  obtain ⟨hx, hb, hml, hown, hts, hK, hNW, hlocks, hA, hSX⟩ := id F
  have hl : lv_has ls 4 [(0, .ref (q 0))] := hl
  have hW : Wd G A0 s (cMW G q w) s.heap [] := hW
  show W p l e rmX6_raise s m ([.ref (q 0)] : List Value).toArray below meth c s.heap [] 0 0 (Qi below G (cMW G q o.2) o.1 A0 ([.ref (q 0)] : List Value).toArray s) (F0 m 0 ls [])
  refine lv_aload_n hx hb dX6_raise_0 rfl (lv_at hl 0 rfl) ?_
  refine x_get F hW 0 rfl fa_X6_9 rfl dX6_raise_1 ?_
  obtain ⟨p_4, hc_4, h⟩ := of_bind h
  refine x_Si (av := [.ref (q 1)]) F hW (c_X6_hangIn l G (fun i => q (i + 1)) w.1 _ hc_4) [1] rfl rfl (by intro q; cases q) cs_X6_145 rfl rfl hl (Nat.le_of_ble_eq_true rfl) ⟨Nat.le_of_ble_eq_true rfl, Nat.le_of_ble_eq_true rfl⟩ ⟨rfl, rfl⟩ ⟨Nat.le_of_ble_eq_true rfl, Nat.le_of_ble_eq_true rfl⟩ dX6_raise_4 rfl [none, some 0, none, none, none, none, none, none, none, none] rfl (ws' := cMW G q w) rfl (fun H locs hW => ?_)
  obtain ⟨p_7, hc_7, h⟩ := of_bind h
  refine x_Si (av := [.int p_4]) F hW (c_X6_bits l G p_4 _ hc_7) [] rfl rfl (by intro q; cases q) cs_X6_148 rfl rfl hl (Nat.le_of_ble_eq_true rfl) ⟨Nat.le_of_ble_eq_true rfl, Nat.le_of_ble_eq_true rfl⟩ ⟨rfl, rfl⟩ ⟨Nat.le_of_ble_eq_true rfl, Nat.le_of_ble_eq_true rfl⟩ dX6_raise_7 rfl [none, none, none, none, none, none, none, none, none, none] rfl (ws' := cMW G q w) rfl (fun H locs hW => ?_)
  refine lv_istore_n (lv' := [(1, .int p_7), (0, .ref (q 0))]) hx hb dX6_raise_10 rfl hl (by decide) rfl (fun ls hl => ?_)
  refine lv_bipush (v := (-9 : Int32)) hx hb dX6_raise_11 (by decide) ?_
  refine lv_istore_n (lv' := [(2, .int (-9 : Int32)), (1, .int p_7), (0, .ref (q 0))]) hx hb dX6_raise_13 rfl hl (by decide) rfl (fun ls hl => ?_)
  refine lv_iconst (v := (0 : Int32)) hx hb dX6_raise_14 (by decide) ?_
  refine lv_istore_n (lv' := [(3, .int (0 : Int32)), (2, .int (-9 : Int32)), (1, .int p_7), (0, .ref (q 0))]) hx hb dX6_raise_15 rfl hl (by decide) rfl (fun ls hl => ?_)
  have L0 : ∀ (n0 : Nat) (v3_16 : Int32) (v2_16 : Int32) (v1_16 : Int32) (w_16 : MW) (H : Heap) (locs : List Loc) (ls : Array Slot), f_X6_raise_16 n0 v3_16 v2_16 v1_16 w_16 = some o → Wd G A0 s (cMW G q w_16) H locs → lv_has ls 4 [(3, .int v3_16), (2, .int v2_16), (1, .int v1_16), (0, .ref (q 0))] → W p l e rmX6_raise s m ([.ref (q 0)] : List Value).toArray below meth c H locs 0 0 (Qi below G (cMW G q o.2) o.1 A0 ([.ref (q 0)] : List Value).toArray s) (F0 m 16 ls []) := by
    intro n0
    induction n0 with
    | zero => intro v3_16 v2_16 v1_16 w_16 H locs ls h; cases (show (none : Option (Int32 × MW)) = some o from h)
    | succ n0 ih0 =>
      intro v3_16 v2_16 v1_16 w_16 H locs ls h hW hl
      refine lv_iload_n hx hb dX6_raise_16 rfl (lv_at hl 0 rfl) ?_
      refine lv_aload_n hx hb dX6_raise_17 rfl (lv_at hl 3 rfl) ?_
      refine x_get F hW 0 rfl fa_X6_9 rfl dX6_raise_18 ?_
      refine lv_iconst (v := (0 : Int32)) hx hb dX6_raise_21 (by decide) ?_
      obtain ⟨g_22, h⟩ := of_guard h
      refine x_iald F hW 1 rfl g_22 dX6_raise_22 ?_
      obtain ⟨ht_23, hf_23⟩ := of_ite h
      refine lv_icmp_ge (tgt := 84) hx hb dX6_raise_23 (by decide) (fun c_23 => ?_) (fun c_23 => ?_)
      · have h := ht_23 c_23
        refine lv_iload_n hx hb dX6_raise_84 rfl (lv_at hl 1 rfl) ?_
        obtain rfl := Option.some.inj h
        exact x_reti F hr hW rfl dX6_raise_85
      · have h := hf_23 c_23
        refine lv_aload_n hx hb dX6_raise_26 rfl (lv_at hl 3 rfl) ?_
        refine x_get F hW 0 rfl fa_X6_9 rfl dX6_raise_27 ?_
        refine lv_aload_n hx hb dX6_raise_30 rfl (lv_at hl 3 rfl) ?_
        refine x_get F hW 0 rfl fa_X6_13 rfl dX6_raise_31 ?_
        obtain ⟨p_34, hc_34, h⟩ := of_bind h
        refine x_Sv (av := [.ref (q 1), .ref (q 2)]) F hW (c_X6_copies l G (fun i => q (i + 1)) w_16.1 (fun i => q (i + 2)) w_16.2.1 _ hc_34) [1, 2] rfl rfl (by intro q; cases q) cs_X6_134 rfl rfl hl (Nat.le_of_ble_eq_true rfl) ⟨Nat.le_of_ble_eq_true rfl, Nat.le_of_ble_eq_true rfl⟩ ⟨rfl, rfl⟩ ⟨Nat.le_of_ble_eq_true rfl, Nat.le_of_ble_eq_true rfl⟩ dX6_raise_34 rfl [none, some 0, some 1, none, none, none, none, none, none, none] rfl (ws' := cMW G q (w_16.1, p_34, w_16.2.2.1, w_16.2.2.2.1, w_16.2.2.2.2.1, w_16.2.2.2.2.2.1, w_16.2.2.2.2.2.2.1, w_16.2.2.2.2.2.2.2.1, w_16.2.2.2.2.2.2.2.2.1, w_16.2.2.2.2.2.2.2.2.2.1, w_16.2.2.2.2.2.2.2.2.2.2.1, w_16.2.2.2.2.2.2.2.2.2.2.2.1, w_16.2.2.2.2.2.2.2.2.2.2.2.2.1, w_16.2.2.2.2.2.2.2.2.2.2.2.2.2)) rfl (fun H locs hW => ?_)
        refine lv_aload_n hx hb dX6_raise_37 rfl (lv_at hl 3 rfl) ?_
        refine x_get F hW 0 rfl fa_X6_13 rfl dX6_raise_38 ?_
        refine lv_iload_n hx hb dX6_raise_41 rfl (lv_at hl 0 rfl) ?_
        refine lv_iconst (v := (5 : Int32)) hx hb dX6_raise_42 (by decide) ?_
        obtain ⟨p_43, hc_43, h⟩ := of_bind h
        refine x_Si (av := [.int v3_16, .int (5 : Int32)]) F hW (c_X6_of l G v3_16 (5 : Int32) _ hc_43) [] rfl rfl (by intro q; cases q) cs_X6_47 rfl rfl hl (Nat.le_of_ble_eq_true rfl) ⟨Nat.le_of_ble_eq_true rfl, Nat.le_of_ble_eq_true rfl⟩ ⟨rfl, rfl⟩ ⟨Nat.le_of_ble_eq_true rfl, Nat.le_of_ble_eq_true rfl⟩ dX6_raise_43 rfl [none, none, none, none, none, none, none, none, none, none] rfl (ws' := cMW G q (w_16.1, p_34, w_16.2.2.1, w_16.2.2.2.1, w_16.2.2.2.2.1, w_16.2.2.2.2.2.1, w_16.2.2.2.2.2.2.1, w_16.2.2.2.2.2.2.2.1, w_16.2.2.2.2.2.2.2.2.1, w_16.2.2.2.2.2.2.2.2.2.1, w_16.2.2.2.2.2.2.2.2.2.2.1, w_16.2.2.2.2.2.2.2.2.2.2.2.1, w_16.2.2.2.2.2.2.2.2.2.2.2.2.1, w_16.2.2.2.2.2.2.2.2.2.2.2.2.2)) rfl (fun H locs hW => ?_)
        refine lv_iconst (v := (3 : Int32)) hx hb dX6_raise_46 (by decide) ?_
        obtain ⟨g_47, h⟩ := of_guard h
        refine x_iast F hW 2 rfl g_47 (ws' := cMW G q (w_16.1, (upd p_34 p_43.toNatClampNeg (3 : Int32)), w_16.2.2.1, w_16.2.2.2.1, w_16.2.2.2.2.1, w_16.2.2.2.2.2.1, w_16.2.2.2.2.2.2.1, w_16.2.2.2.2.2.2.2.1, w_16.2.2.2.2.2.2.2.2.1, w_16.2.2.2.2.2.2.2.2.2.1, w_16.2.2.2.2.2.2.2.2.2.2.1, w_16.2.2.2.2.2.2.2.2.2.2.2.1, w_16.2.2.2.2.2.2.2.2.2.2.2.2.1, w_16.2.2.2.2.2.2.2.2.2.2.2.2.2)) rfl dX6_raise_47 (fun H locs hW => ?_)
        refine lv_aload_n hx hb dX6_raise_48 rfl (lv_at hl 3 rfl) ?_
        refine x_get F hW 0 rfl fa_X6_13 rfl dX6_raise_49 ?_
        obtain ⟨p_52, hc_52, h⟩ := of_bind h
        refine x_Si (av := [.ref (q 2)]) F hW (c_X6_hangIn l G (fun i => q (i + 2)) (upd p_34 p_43.toNatClampNeg (3 : Int32)) _ hc_52) [2] rfl rfl (by intro q; cases q) cs_X6_145 rfl rfl hl (Nat.le_of_ble_eq_true rfl) ⟨Nat.le_of_ble_eq_true rfl, Nat.le_of_ble_eq_true rfl⟩ ⟨rfl, rfl⟩ ⟨Nat.le_of_ble_eq_true rfl, Nat.le_of_ble_eq_true rfl⟩ dX6_raise_52 rfl [none, none, some 0, none, none, none, none, none, none, none] rfl (ws' := cMW G q (w_16.1, (upd p_34 p_43.toNatClampNeg (3 : Int32)), w_16.2.2.1, w_16.2.2.2.1, w_16.2.2.2.2.1, w_16.2.2.2.2.2.1, w_16.2.2.2.2.2.2.1, w_16.2.2.2.2.2.2.2.1, w_16.2.2.2.2.2.2.2.2.1, w_16.2.2.2.2.2.2.2.2.2.1, w_16.2.2.2.2.2.2.2.2.2.2.1, w_16.2.2.2.2.2.2.2.2.2.2.2.1, w_16.2.2.2.2.2.2.2.2.2.2.2.2.1, w_16.2.2.2.2.2.2.2.2.2.2.2.2.2)) rfl (fun H locs hW => ?_)
        obtain ⟨p_55, hc_55, h⟩ := of_bind h
        refine x_Si (av := [.int p_52]) F hW (c_X6_bits l G p_52 _ hc_55) [] rfl rfl (by intro q; cases q) cs_X6_148 rfl rfl hl (Nat.le_of_ble_eq_true rfl) ⟨Nat.le_of_ble_eq_true rfl, Nat.le_of_ble_eq_true rfl⟩ ⟨rfl, rfl⟩ ⟨Nat.le_of_ble_eq_true rfl, Nat.le_of_ble_eq_true rfl⟩ dX6_raise_55 rfl [none, none, none, none, none, none, none, none, none, none] rfl (ws' := cMW G q (w_16.1, (upd p_34 p_43.toNatClampNeg (3 : Int32)), w_16.2.2.1, w_16.2.2.2.1, w_16.2.2.2.2.1, w_16.2.2.2.2.2.1, w_16.2.2.2.2.2.2.1, w_16.2.2.2.2.2.2.2.1, w_16.2.2.2.2.2.2.2.2.1, w_16.2.2.2.2.2.2.2.2.2.1, w_16.2.2.2.2.2.2.2.2.2.2.1, w_16.2.2.2.2.2.2.2.2.2.2.2.1, w_16.2.2.2.2.2.2.2.2.2.2.2.2.1, w_16.2.2.2.2.2.2.2.2.2.2.2.2.2)) rfl (fun H locs hW => ?_)
        refine lv_iload_n hx hb dX6_raise_58 rfl (lv_at hl 2 rfl) ?_
        obtain ⟨ht_59, hf_59⟩ := of_ite h
        refine lv_icmp_gt (tgt := 65) hx hb dX6_raise_59 (by decide) (fun c_59 => ?_) (fun c_59 => ?_)
        · have h := ht_59 c_59
          refine lv_iload_n hx hb dX6_raise_65 rfl (lv_at hl 0 rfl) ?_
          refine lv_istore_n (lv' := [(2, .int v3_16), (3, .int v3_16), (1, .int v1_16), (0, .ref (q 0))]) hx hb dX6_raise_66 rfl hl (by decide) rfl (fun ls hl => ?_)
          refine lv_aload_n hx hb dX6_raise_67 rfl (lv_at hl 3 rfl) ?_
          refine x_get F hW 0 rfl fa_X6_13 rfl dX6_raise_68 ?_
          obtain ⟨p_71, hc_71, h⟩ := of_bind h
          refine x_Si (av := [.ref (q 2)]) F hW (c_X6_hangIn l G (fun i => q (i + 2)) (upd p_34 p_43.toNatClampNeg (3 : Int32)) _ hc_71) [2] rfl rfl (by intro q; cases q) cs_X6_145 rfl rfl hl (Nat.le_of_ble_eq_true rfl) ⟨Nat.le_of_ble_eq_true rfl, Nat.le_of_ble_eq_true rfl⟩ ⟨rfl, rfl⟩ ⟨Nat.le_of_ble_eq_true rfl, Nat.le_of_ble_eq_true rfl⟩ dX6_raise_71 rfl [none, none, some 0, none, none, none, none, none, none, none] rfl (ws' := cMW G q (w_16.1, (upd p_34 p_43.toNatClampNeg (3 : Int32)), w_16.2.2.1, w_16.2.2.2.1, w_16.2.2.2.2.1, w_16.2.2.2.2.2.1, w_16.2.2.2.2.2.2.1, w_16.2.2.2.2.2.2.2.1, w_16.2.2.2.2.2.2.2.2.1, w_16.2.2.2.2.2.2.2.2.2.1, w_16.2.2.2.2.2.2.2.2.2.2.1, w_16.2.2.2.2.2.2.2.2.2.2.2.1, w_16.2.2.2.2.2.2.2.2.2.2.2.2.1, w_16.2.2.2.2.2.2.2.2.2.2.2.2.2)) rfl (fun H locs hW => ?_)
          obtain ⟨p_74, hc_74, h⟩ := of_bind h
          refine x_Si (av := [.int p_71]) F hW (c_X6_bits l G p_71 _ hc_74) [] rfl rfl (by intro q; cases q) cs_X6_148 rfl rfl hl (Nat.le_of_ble_eq_true rfl) ⟨Nat.le_of_ble_eq_true rfl, Nat.le_of_ble_eq_true rfl⟩ ⟨rfl, rfl⟩ ⟨Nat.le_of_ble_eq_true rfl, Nat.le_of_ble_eq_true rfl⟩ dX6_raise_74 rfl [none, none, none, none, none, none, none, none, none, none] rfl (ws' := cMW G q (w_16.1, (upd p_34 p_43.toNatClampNeg (3 : Int32)), w_16.2.2.1, w_16.2.2.2.1, w_16.2.2.2.2.1, w_16.2.2.2.2.2.1, w_16.2.2.2.2.2.2.1, w_16.2.2.2.2.2.2.2.1, w_16.2.2.2.2.2.2.2.2.1, w_16.2.2.2.2.2.2.2.2.2.1, w_16.2.2.2.2.2.2.2.2.2.2.1, w_16.2.2.2.2.2.2.2.2.2.2.2.1, w_16.2.2.2.2.2.2.2.2.2.2.2.2.1, w_16.2.2.2.2.2.2.2.2.2.2.2.2.2)) rfl (fun H locs hW => ?_)
          refine lv_istore_n (lv' := [(1, .int p_74), (2, .int v3_16), (3, .int v3_16), (0, .ref (q 0))]) hx hb dX6_raise_77 rfl hl (by decide) rfl (fun ls hl => ?_)
          refine lv_iinc (v := (v3_16 + (1 : Int32))) (lv' := [(3, .int (v3_16 + (1 : Int32))), (1, .int p_74), (2, .int v3_16), (0, .ref (q 0))]) hx hb dX6_raise_78 hl (k := 2) rfl rfl (by decide) rfl (fun ls hl => ?_)
          refine lv_goto (tgt := 16) hx hb dX6_raise_81 (by decide) ?_
          exact ih0 (v3_16 + (1 : Int32)) v3_16 p_74 (w_16.1, (upd p_34 p_43.toNatClampNeg (3 : Int32)), w_16.2.2.1, w_16.2.2.2.1, w_16.2.2.2.2.1, w_16.2.2.2.2.2.1, w_16.2.2.2.2.2.2.1, w_16.2.2.2.2.2.2.2.1, w_16.2.2.2.2.2.2.2.2.1, w_16.2.2.2.2.2.2.2.2.2.1, w_16.2.2.2.2.2.2.2.2.2.2.1, w_16.2.2.2.2.2.2.2.2.2.2.2.1, w_16.2.2.2.2.2.2.2.2.2.2.2.2.1, w_16.2.2.2.2.2.2.2.2.2.2.2.2.2) _ _ _ h hW (lv_sub hl [0, 2, 1, 3] rfl)
        · have h := hf_59 c_59
          refine lv_goto (tgt := 78) hx hb dX6_raise_62 (by decide) ?_
          refine lv_iinc (v := (v3_16 + (1 : Int32))) (lv' := [(3, .int (v3_16 + (1 : Int32))), (2, .int v2_16), (1, .int v1_16), (0, .ref (q 0))]) hx hb dX6_raise_78 hl (k := 0) rfl rfl (by decide) rfl (fun ls hl => ?_)
          refine lv_goto (tgt := 16) hx hb dX6_raise_81 (by decide) ?_
          exact ih0 (v3_16 + (1 : Int32)) v2_16 v1_16 (w_16.1, (upd p_34 p_43.toNatClampNeg (3 : Int32)), w_16.2.2.1, w_16.2.2.2.1, w_16.2.2.2.2.1, w_16.2.2.2.2.2.1, w_16.2.2.2.2.2.2.1, w_16.2.2.2.2.2.2.2.1, w_16.2.2.2.2.2.2.2.2.1, w_16.2.2.2.2.2.2.2.2.2.1, w_16.2.2.2.2.2.2.2.2.2.2.1, w_16.2.2.2.2.2.2.2.2.2.2.2.1, w_16.2.2.2.2.2.2.2.2.2.2.2.2.1, w_16.2.2.2.2.2.2.2.2.2.2.2.2.2) _ _ _ h hW (lv_sub hl [0, 1, 2, 3] rfl)
  exact L0 200 (0 : Int32) (-9 : Int32) p_7 w _ _ _ h hW (lv_sub hl [0, 1, 2, 3] rfl)
def f_X6_hangsIn_13 (x1 : Int32) : Nat → Int32 → Int32 → MW → Option (Int32 × MW)
  | 0, _, _, _ => none
  | n0 + 1, v3_13, v2_13, w_13 =>
    if x1 ≤ v3_13 then
    some (v2_13, w_13)
    else
    Option.bind (f_X6_night w_13.2.1) fun p_22 =>
    nm p_22.1 fun x_25 =>
    Option.bind (f_X6_hangIn p_22.2) fun p_32 =>
    Option.bind (f_X6_bits p_32) fun p_35 =>
    nm (v2_13 + p_35) fun x_39 =>
    f_X6_hangsIn_13 x1 n0 (v3_13 + (1 : Int32)) x_39 (w_13.1, p_22.2, w_13.2.2.1, w_13.2.2.2.1, w_13.2.2.2.2.1, w_13.2.2.2.2.2.1, w_13.2.2.2.2.2.2.1, w_13.2.2.2.2.2.2.2.1, w_13.2.2.2.2.2.2.2.2.1, w_13.2.2.2.2.2.2.2.2.2.1, w_13.2.2.2.2.2.2.2.2.2.2.1, w_13.2.2.2.2.2.2.2.2.2.2.2.1, w_13.2.2.2.2.2.2.2.2.2.2.2.2.1, w_13.2.2.2.2.2.2.2.2.2.2.2.2.2)
def f_X6_hangsIn (w : MW) (x1 : Int32) : Option (Int32 × MW) :=
  Option.bind (f_X6_hangIn w.2.1) fun p_4 =>
    Option.bind (f_X6_bits p_4) fun p_7 =>
    f_X6_hangsIn_13 x1 200 (0 : Int32) p_7 w
abbrev rmX6_hangsIn : Room := { frames := 5, cells := 0, slots := 0, locals := 115 }
set_option maxRecDepth 100000 in
set_option maxHeartbeats 4000000 in
theorem c_X6_hangsIn (l : Launch) (G : EnT) (q : Nat → Nat) (w : MW) (x1 : Int32) (o : Int32 × MW) (h : f_X6_hangsIn w x1 = some o) : Mi l yX6_hangsIn rmX6_hangsIn cX6_hangsIn 5 (some .int) G false [.ref (q 0), .int x1] (cMW G q w) o.1 (cMW G q o.2) := by
  refine Mi_of (by decide) (Nat.le_of_ble_eq_true rfl) ?_
  intro p e s m below meth c A0 F hr hW ls hl
  obtain ⟨hx, hb, hml, hown, hts, hK, hNW, hlocks, hA, hSX⟩ := id F
  have hl : lv_has ls 5 [(0, .ref (q 0)), (1, .int x1)] := hl
  have hW : Wd G A0 s (cMW G q w) s.heap [] := hW
  show W p l e rmX6_hangsIn s m ([.ref (q 0), .int x1] : List Value).toArray below meth c s.heap [] 0 0 (Qi below G (cMW G q o.2) o.1 A0 ([.ref (q 0), .int x1] : List Value).toArray s) (F0 m 0 ls [])
  refine lv_aload_n hx hb dX6_hangsIn_0 rfl (lv_at hl 0 rfl) ?_
  refine x_get F hW 0 rfl fa_X6_13 rfl dX6_hangsIn_1 ?_
  obtain ⟨p_4, hc_4, h⟩ := of_bind h
  refine x_Si (av := [.ref (q 2)]) F hW (c_X6_hangIn l G (fun i => q (i + 2)) w.2.1 _ hc_4) [2] rfl rfl (by intro q; cases q) cs_X6_145 rfl rfl hl (Nat.le_of_ble_eq_true rfl) ⟨Nat.le_of_ble_eq_true rfl, Nat.le_of_ble_eq_true rfl⟩ ⟨rfl, rfl⟩ ⟨Nat.le_of_ble_eq_true rfl, Nat.le_of_ble_eq_true rfl⟩ dX6_hangsIn_4 rfl [none, none, some 0, none, none, none, none, none, none, none] rfl (ws' := cMW G q w) rfl (fun H locs hW => ?_)
  obtain ⟨p_7, hc_7, h⟩ := of_bind h
  refine x_Si (av := [.int p_4]) F hW (c_X6_bits l G p_4 _ hc_7) [] rfl rfl (by intro q; cases q) cs_X6_148 rfl rfl hl (Nat.le_of_ble_eq_true rfl) ⟨Nat.le_of_ble_eq_true rfl, Nat.le_of_ble_eq_true rfl⟩ ⟨rfl, rfl⟩ ⟨Nat.le_of_ble_eq_true rfl, Nat.le_of_ble_eq_true rfl⟩ dX6_hangsIn_7 rfl [none, none, none, none, none, none, none, none, none, none] rfl (ws' := cMW G q w) rfl (fun H locs hW => ?_)
  refine lv_istore_n (lv' := [(2, .int p_7), (0, .ref (q 0)), (1, .int x1)]) hx hb dX6_hangsIn_10 rfl hl (by decide) rfl (fun ls hl => ?_)
  refine lv_iconst (v := (0 : Int32)) hx hb dX6_hangsIn_11 (by decide) ?_
  refine lv_istore_n (lv' := [(3, .int (0 : Int32)), (2, .int p_7), (0, .ref (q 0)), (1, .int x1)]) hx hb dX6_hangsIn_12 rfl hl (by decide) rfl (fun ls hl => ?_)
  have L0 : ∀ (n0 : Nat) (v3_13 : Int32) (v2_13 : Int32) (w_13 : MW) (H : Heap) (locs : List Loc) (ls : Array Slot), f_X6_hangsIn_13 x1 n0 v3_13 v2_13 w_13 = some o → Wd G A0 s (cMW G q w_13) H locs → lv_has ls 5 [(3, .int v3_13), (2, .int v2_13), (0, .ref (q 0)), (1, .int x1)] → W p l e rmX6_hangsIn s m ([.ref (q 0), .int x1] : List Value).toArray below meth c H locs 0 0 (Qi below G (cMW G q o.2) o.1 A0 ([.ref (q 0), .int x1] : List Value).toArray s) (F0 m 13 ls []) := by
    intro n0
    induction n0 with
    | zero => intro v3_13 v2_13 w_13 H locs ls h; cases (show (none : Option (Int32 × MW)) = some o from h)
    | succ n0 ih0 =>
      intro v3_13 v2_13 w_13 H locs ls h hW hl
      refine lv_iload_n hx hb dX6_hangsIn_13 rfl (lv_at hl 0 rfl) ?_
      refine lv_iload_n hx hb dX6_hangsIn_14 rfl (lv_at hl 3 rfl) ?_
      obtain ⟨ht_15, hf_15⟩ := of_ite h
      refine lv_icmp_ge (tgt := 46) hx hb dX6_hangsIn_15 (by decide) (fun c_15 => ?_) (fun c_15 => ?_)
      · have h := ht_15 c_15
        refine lv_iload_n hx hb dX6_hangsIn_46 rfl (lv_at hl 1 rfl) ?_
        obtain rfl := Option.some.inj h
        exact x_reti F hr hW rfl dX6_hangsIn_47
      · have h := hf_15 c_15
        refine lv_aload_n hx hb dX6_hangsIn_18 rfl (lv_at hl 2 rfl) ?_
        refine x_get F hW 0 rfl fa_X6_13 rfl dX6_hangsIn_19 ?_
        obtain ⟨p_22, hc_22, h⟩ := of_bind h
        refine x_Si (av := [.ref (q 2)]) F hW (c_X6_night l G (fun i => q (i + 2)) w_13.2.1 _ hc_22) [2] rfl rfl (by intro q; cases q) cs_X6_90 rfl rfl hl (Nat.le_of_ble_eq_true rfl) ⟨Nat.le_of_ble_eq_true rfl, Nat.le_of_ble_eq_true rfl⟩ ⟨rfl, rfl⟩ ⟨Nat.le_of_ble_eq_true rfl, Nat.le_of_ble_eq_true rfl⟩ dX6_hangsIn_22 rfl [none, none, some 0, none, none, none, none, none, none, none] rfl (ws' := cMW G q (w_13.1, p_22.2, w_13.2.2.1, w_13.2.2.2.1, w_13.2.2.2.2.1, w_13.2.2.2.2.2.1, w_13.2.2.2.2.2.2.1, w_13.2.2.2.2.2.2.2.1, w_13.2.2.2.2.2.2.2.2.1, w_13.2.2.2.2.2.2.2.2.2.1, w_13.2.2.2.2.2.2.2.2.2.2.1, w_13.2.2.2.2.2.2.2.2.2.2.2.1, w_13.2.2.2.2.2.2.2.2.2.2.2.2.1, w_13.2.2.2.2.2.2.2.2.2.2.2.2.2)) rfl (fun H locs hW => ?_)
        obtain ⟨x_25, e_x_25, h⟩ := of_nm h
        refine x_topi e_x_25 ?_
        refine lv_istore (lv' := [(4, .int x_25), (3, .int v3_13), (2, .int v2_13), (0, .ref (q 0)), (1, .int x1)]) hx hb dX6_hangsIn_25 hl (by decide) rfl (fun ls hl => ?_)
        refine lv_iload_n hx hb dX6_hangsIn_27 rfl (lv_at hl 2 rfl) ?_
        refine lv_aload_n hx hb dX6_hangsIn_28 rfl (lv_at hl 3 rfl) ?_
        refine x_get F hW 0 rfl fa_X6_13 rfl dX6_hangsIn_29 ?_
        obtain ⟨p_32, hc_32, h⟩ := of_bind h
        refine x_Si (av := [.ref (q 2)]) F hW (c_X6_hangIn l G (fun i => q (i + 2)) p_22.2 _ hc_32) [2] rfl rfl (by intro q; cases q) cs_X6_145 rfl rfl hl (Nat.le_of_ble_eq_true rfl) ⟨Nat.le_of_ble_eq_true rfl, Nat.le_of_ble_eq_true rfl⟩ ⟨rfl, rfl⟩ ⟨Nat.le_of_ble_eq_true rfl, Nat.le_of_ble_eq_true rfl⟩ dX6_hangsIn_32 rfl [none, none, some 0, none, none, none, none, none, none, none] rfl (ws' := cMW G q (w_13.1, p_22.2, w_13.2.2.1, w_13.2.2.2.1, w_13.2.2.2.2.1, w_13.2.2.2.2.2.1, w_13.2.2.2.2.2.2.1, w_13.2.2.2.2.2.2.2.1, w_13.2.2.2.2.2.2.2.2.1, w_13.2.2.2.2.2.2.2.2.2.1, w_13.2.2.2.2.2.2.2.2.2.2.1, w_13.2.2.2.2.2.2.2.2.2.2.2.1, w_13.2.2.2.2.2.2.2.2.2.2.2.2.1, w_13.2.2.2.2.2.2.2.2.2.2.2.2.2)) rfl (fun H locs hW => ?_)
        obtain ⟨p_35, hc_35, h⟩ := of_bind h
        refine x_Si (av := [.int p_32]) F hW (c_X6_bits l G p_32 _ hc_35) [] rfl rfl (by intro q; cases q) cs_X6_148 rfl rfl hl (Nat.le_of_ble_eq_true rfl) ⟨Nat.le_of_ble_eq_true rfl, Nat.le_of_ble_eq_true rfl⟩ ⟨rfl, rfl⟩ ⟨Nat.le_of_ble_eq_true rfl, Nat.le_of_ble_eq_true rfl⟩ dX6_hangsIn_35 rfl [none, none, none, none, none, none, none, none, none, none] rfl (ws' := cMW G q (w_13.1, p_22.2, w_13.2.2.1, w_13.2.2.2.1, w_13.2.2.2.2.1, w_13.2.2.2.2.2.1, w_13.2.2.2.2.2.2.1, w_13.2.2.2.2.2.2.2.1, w_13.2.2.2.2.2.2.2.2.1, w_13.2.2.2.2.2.2.2.2.2.1, w_13.2.2.2.2.2.2.2.2.2.2.1, w_13.2.2.2.2.2.2.2.2.2.2.2.1, w_13.2.2.2.2.2.2.2.2.2.2.2.2.1, w_13.2.2.2.2.2.2.2.2.2.2.2.2.2)) rfl (fun H locs hW => ?_)
        refine lv_iadd hx hb dX6_hangsIn_38 ?_
        obtain ⟨x_39, e_x_39, h⟩ := of_nm h
        refine x_topi e_x_39 ?_
        refine lv_istore_n (lv' := [(2, .int x_39), (4, .int x_25), (3, .int v3_13), (0, .ref (q 0)), (1, .int x1)]) hx hb dX6_hangsIn_39 rfl hl (by decide) rfl (fun ls hl => ?_)
        refine lv_iinc (v := (v3_13 + (1 : Int32))) (lv' := [(3, .int (v3_13 + (1 : Int32))), (2, .int x_39), (4, .int x_25), (0, .ref (q 0)), (1, .int x1)]) hx hb dX6_hangsIn_40 hl (k := 2) rfl rfl (by decide) rfl (fun ls hl => ?_)
        refine lv_goto (tgt := 13) hx hb dX6_hangsIn_43 (by decide) ?_
        exact ih0 (v3_13 + (1 : Int32)) x_39 (w_13.1, p_22.2, w_13.2.2.1, w_13.2.2.2.1, w_13.2.2.2.2.1, w_13.2.2.2.2.2.1, w_13.2.2.2.2.2.2.1, w_13.2.2.2.2.2.2.2.1, w_13.2.2.2.2.2.2.2.2.1, w_13.2.2.2.2.2.2.2.2.2.1, w_13.2.2.2.2.2.2.2.2.2.2.1, w_13.2.2.2.2.2.2.2.2.2.2.2.1, w_13.2.2.2.2.2.2.2.2.2.2.2.2.1, w_13.2.2.2.2.2.2.2.2.2.2.2.2.2) _ _ _ h hW (lv_sub hl [0, 1, 3, 4] rfl)
  exact L0 200 (0 : Int32) p_7 w _ _ _ h hW (lv_sub hl [0, 1, 2, 3] rfl)
def f_X6_hangsCalled_13 (x2 : Int32) (x1 : Int32) : Nat → Int32 → MW → Option (Int32 × MW)
  | 0, _, _ => none
  | n0 + 1, v3_13, w_13 =>
    if inR (0 : Int32) 71 then
    if (w_13.2.1 (0 : Int32).toNatClampNeg) ≤ v3_13 then
    Option.bind (f_X6_hangsIn w_13 x2) fun p_46 =>
    some (p_46.1, p_46.2)
    else
    Option.bind (f_X6_of v3_13 (4 : Int32)) fun p_29 =>
    if inR p_29 71 then
    f_X6_hangsCalled_13 x2 x1 n0 (v3_13 + (1 : Int32)) (w_13.1, (upd w_13.2.1 p_29.toNatClampNeg ((x1 >>> (v3_13 &&& 31)) &&& (1 : Int32))), w_13.2.2.1, w_13.2.2.2.1, w_13.2.2.2.2.1, w_13.2.2.2.2.2.1, w_13.2.2.2.2.2.2.1, w_13.2.2.2.2.2.2.2.1, w_13.2.2.2.2.2.2.2.2.1, w_13.2.2.2.2.2.2.2.2.2.1, w_13.2.2.2.2.2.2.2.2.2.2.1, w_13.2.2.2.2.2.2.2.2.2.2.2.1, w_13.2.2.2.2.2.2.2.2.2.2.2.2.1, w_13.2.2.2.2.2.2.2.2.2.2.2.2.2)
    else none
    else none
def f_X6_hangsCalled (w : MW) (x1 : Int32) (x2 : Int32) : Option (Int32 × MW) :=
  Option.bind (f_X6_copies w.1 w.2.1) fun p_8 =>
    f_X6_hangsCalled_13 x2 x1 200 (0 : Int32) (w.1, p_8, w.2.2.1, w.2.2.2.1, w.2.2.2.2.1, w.2.2.2.2.2.1, w.2.2.2.2.2.2.1, w.2.2.2.2.2.2.2.1, w.2.2.2.2.2.2.2.2.1, w.2.2.2.2.2.2.2.2.2.1, w.2.2.2.2.2.2.2.2.2.2.1, w.2.2.2.2.2.2.2.2.2.2.2.1, w.2.2.2.2.2.2.2.2.2.2.2.2.1, w.2.2.2.2.2.2.2.2.2.2.2.2.2)
abbrev rmX6_hangsCalled : Room := { frames := 6, cells := 0, slots := 0, locals := 139 }
set_option maxRecDepth 100000 in
set_option maxHeartbeats 4000000 in
theorem c_X6_hangsCalled (l : Launch) (G : EnT) (q : Nat → Nat) (w : MW) (x1 : Int32) (x2 : Int32) (o : Int32 × MW) (h : f_X6_hangsCalled w x1 x2 = some o) : Mi l yX6_hangsCalled rmX6_hangsCalled cX6_hangsCalled 4 (some .int) G false [.ref (q 0), .int x1, .int x2] (cMW G q w) o.1 (cMW G q o.2) := by
  refine Mi_of (by decide) (Nat.le_of_ble_eq_true rfl) ?_
  intro p e s m below meth c A0 F hr hW ls hl
  obtain ⟨hx, hb, hml, hown, hts, hK, hNW, hlocks, hA, hSX⟩ := id F
  have hl : lv_has ls 4 [(0, .ref (q 0)), (1, .int x1), (2, .int x2)] := hl
  have hW : Wd G A0 s (cMW G q w) s.heap [] := hW
  show W p l e rmX6_hangsCalled s m ([.ref (q 0), .int x1, .int x2] : List Value).toArray below meth c s.heap [] 0 0 (Qi below G (cMW G q o.2) o.1 A0 ([.ref (q 0), .int x1, .int x2] : List Value).toArray s) (F0 m 0 ls [])
  refine lv_aload_n hx hb dX6_hangsCalled_0 rfl (lv_at hl 0 rfl) ?_
  refine x_get F hW 0 rfl fa_X6_9 rfl dX6_hangsCalled_1 ?_
  refine lv_aload_n hx hb dX6_hangsCalled_4 rfl (lv_at hl 0 rfl) ?_
  refine x_get F hW 0 rfl fa_X6_13 rfl dX6_hangsCalled_5 ?_
  obtain ⟨p_8, hc_8, h⟩ := of_bind h
  refine x_Sv (av := [.ref (q 1), .ref (q 2)]) F hW (c_X6_copies l G (fun i => q (i + 1)) w.1 (fun i => q (i + 2)) w.2.1 _ hc_8) [1, 2] rfl rfl (by intro q; cases q) cs_X6_134 rfl rfl hl (Nat.le_of_ble_eq_true rfl) ⟨Nat.le_of_ble_eq_true rfl, Nat.le_of_ble_eq_true rfl⟩ ⟨rfl, rfl⟩ ⟨Nat.le_of_ble_eq_true rfl, Nat.le_of_ble_eq_true rfl⟩ dX6_hangsCalled_8 rfl [none, some 0, some 1, none, none, none, none, none, none, none] rfl (ws' := cMW G q (w.1, p_8, w.2.2.1, w.2.2.2.1, w.2.2.2.2.1, w.2.2.2.2.2.1, w.2.2.2.2.2.2.1, w.2.2.2.2.2.2.2.1, w.2.2.2.2.2.2.2.2.1, w.2.2.2.2.2.2.2.2.2.1, w.2.2.2.2.2.2.2.2.2.2.1, w.2.2.2.2.2.2.2.2.2.2.2.1, w.2.2.2.2.2.2.2.2.2.2.2.2.1, w.2.2.2.2.2.2.2.2.2.2.2.2.2)) rfl (fun H locs hW => ?_)
  refine lv_iconst (v := (0 : Int32)) hx hb dX6_hangsCalled_11 (by decide) ?_
  refine lv_istore_n (lv' := [(3, .int (0 : Int32)), (0, .ref (q 0)), (1, .int x1), (2, .int x2)]) hx hb dX6_hangsCalled_12 rfl hl (by decide) rfl (fun ls hl => ?_)
  have L0 : ∀ (n0 : Nat) (v3_13 : Int32) (w_13 : MW) (H : Heap) (locs : List Loc) (ls : Array Slot), f_X6_hangsCalled_13 x2 x1 n0 v3_13 w_13 = some o → Wd G A0 s (cMW G q w_13) H locs → lv_has ls 4 [(3, .int v3_13), (0, .ref (q 0)), (1, .int x1), (2, .int x2)] → W p l e rmX6_hangsCalled s m ([.ref (q 0), .int x1, .int x2] : List Value).toArray below meth c H locs 0 0 (Qi below G (cMW G q o.2) o.1 A0 ([.ref (q 0), .int x1, .int x2] : List Value).toArray s) (F0 m 13 ls []) := by
    intro n0
    induction n0 with
    | zero => intro v3_13 w_13 H locs ls h; cases (show (none : Option (Int32 × MW)) = some o from h)
    | succ n0 ih0 =>
      intro v3_13 w_13 H locs ls h hW hl
      refine lv_iload_n hx hb dX6_hangsCalled_13 rfl (lv_at hl 0 rfl) ?_
      refine lv_aload_n hx hb dX6_hangsCalled_14 rfl (lv_at hl 1 rfl) ?_
      refine x_get F hW 0 rfl fa_X6_13 rfl dX6_hangsCalled_15 ?_
      refine lv_iconst (v := (0 : Int32)) hx hb dX6_hangsCalled_18 (by decide) ?_
      obtain ⟨g_19, h⟩ := of_guard h
      refine x_iald F hW 2 rfl g_19 dX6_hangsCalled_19 ?_
      obtain ⟨ht_20, hf_20⟩ := of_ite h
      refine lv_icmp_ge (tgt := 44) hx hb dX6_hangsCalled_20 (by decide) (fun c_20 => ?_) (fun c_20 => ?_)
      · have h := ht_20 c_20
        refine lv_aload_n hx hb dX6_hangsCalled_44 rfl (lv_at hl 1 rfl) ?_
        refine lv_iload_n hx hb dX6_hangsCalled_45 rfl (lv_at hl 3 rfl) ?_
        obtain ⟨p_46, hc_46, h⟩ := of_bind h
        refine x_Vi (av := [.ref (q 0), .int x2]) (As := [.int x2]) F hW (c_X6_hangsIn l G q w_13 x2 _ hc_46) [0, 1, 2, 3, 4, 5, 6, 7, 8, 9] rfl rfl (by intro q; cases q) cv_X6_164 rfl ⟨_, rfl, rfl⟩ rfl rfl rfl hl (Nat.le_of_ble_eq_true rfl) ⟨Nat.le_of_ble_eq_true rfl, Nat.le_of_ble_eq_true rfl⟩ ⟨rfl, rfl⟩ ⟨Nat.le_of_ble_eq_true rfl, Nat.le_of_ble_eq_true rfl⟩ dX6_hangsCalled_46 rfl [some 0, some 1, some 2, some 3, some 4, some 5, some 6, some 7, some 8, some 9] rfl (ws' := cMW G q p_46.2) rfl (fun H locs hW => ?_)
        obtain rfl := Option.some.inj h
        exact x_reti F hr hW rfl dX6_hangsCalled_49
      · have h := hf_20 c_20
        refine lv_aload_n hx hb dX6_hangsCalled_23 rfl (lv_at hl 1 rfl) ?_
        refine x_get F hW 0 rfl fa_X6_13 rfl dX6_hangsCalled_24 ?_
        refine lv_iload_n hx hb dX6_hangsCalled_27 rfl (lv_at hl 0 rfl) ?_
        refine lv_iconst (v := (4 : Int32)) hx hb dX6_hangsCalled_28 (by decide) ?_
        obtain ⟨p_29, hc_29, h⟩ := of_bind h
        refine x_Si (av := [.int v3_13, .int (4 : Int32)]) F hW (c_X6_of l G v3_13 (4 : Int32) _ hc_29) [] rfl rfl (by intro q; cases q) cs_X6_47 rfl rfl hl (Nat.le_of_ble_eq_true rfl) ⟨Nat.le_of_ble_eq_true rfl, Nat.le_of_ble_eq_true rfl⟩ ⟨rfl, rfl⟩ ⟨Nat.le_of_ble_eq_true rfl, Nat.le_of_ble_eq_true rfl⟩ dX6_hangsCalled_29 rfl [none, none, none, none, none, none, none, none, none, none] rfl (ws' := cMW G q w_13) rfl (fun H locs hW => ?_)
        refine lv_iload_n hx hb dX6_hangsCalled_32 rfl (lv_at hl 2 rfl) ?_
        refine lv_iload_n hx hb dX6_hangsCalled_33 rfl (lv_at hl 0 rfl) ?_
        refine lv_ishr hx hb dX6_hangsCalled_34 ?_
        refine lv_iconst (v := (1 : Int32)) hx hb dX6_hangsCalled_35 (by decide) ?_
        refine lv_iand hx hb dX6_hangsCalled_36 ?_
        obtain ⟨g_37, h⟩ := of_guard h
        refine x_iast F hW 2 rfl g_37 (ws' := cMW G q (w_13.1, (upd w_13.2.1 p_29.toNatClampNeg ((x1 >>> (v3_13 &&& 31)) &&& (1 : Int32))), w_13.2.2.1, w_13.2.2.2.1, w_13.2.2.2.2.1, w_13.2.2.2.2.2.1, w_13.2.2.2.2.2.2.1, w_13.2.2.2.2.2.2.2.1, w_13.2.2.2.2.2.2.2.2.1, w_13.2.2.2.2.2.2.2.2.2.1, w_13.2.2.2.2.2.2.2.2.2.2.1, w_13.2.2.2.2.2.2.2.2.2.2.2.1, w_13.2.2.2.2.2.2.2.2.2.2.2.2.1, w_13.2.2.2.2.2.2.2.2.2.2.2.2.2)) rfl dX6_hangsCalled_37 (fun H locs hW => ?_)
        refine lv_iinc (v := (v3_13 + (1 : Int32))) (lv' := [(3, .int (v3_13 + (1 : Int32))), (0, .ref (q 0)), (1, .int x1), (2, .int x2)]) hx hb dX6_hangsCalled_38 hl (k := 0) rfl rfl (by decide) rfl (fun ls hl => ?_)
        refine lv_goto (tgt := 13) hx hb dX6_hangsCalled_41 (by decide) ?_
        exact ih0 (v3_13 + (1 : Int32)) (w_13.1, (upd w_13.2.1 p_29.toNatClampNeg ((x1 >>> (v3_13 &&& 31)) &&& (1 : Int32))), w_13.2.2.1, w_13.2.2.2.1, w_13.2.2.2.2.1, w_13.2.2.2.2.2.1, w_13.2.2.2.2.2.2.1, w_13.2.2.2.2.2.2.2.1, w_13.2.2.2.2.2.2.2.2.1, w_13.2.2.2.2.2.2.2.2.2.1, w_13.2.2.2.2.2.2.2.2.2.2.1, w_13.2.2.2.2.2.2.2.2.2.2.2.1, w_13.2.2.2.2.2.2.2.2.2.2.2.2.1, w_13.2.2.2.2.2.2.2.2.2.2.2.2.2) _ _ _ h hW (lv_sub hl [0, 1, 2, 3] rfl)
  exact L0 200 (0 : Int32) (w.1, p_8, w.2.2.1, w.2.2.2.1, w.2.2.2.2.1, w.2.2.2.2.2.1, w.2.2.2.2.2.2.1, w.2.2.2.2.2.2.2.1, w.2.2.2.2.2.2.2.2.1, w.2.2.2.2.2.2.2.2.2.1, w.2.2.2.2.2.2.2.2.2.2.1, w.2.2.2.2.2.2.2.2.2.2.2.1, w.2.2.2.2.2.2.2.2.2.2.2.2.1, w.2.2.2.2.2.2.2.2.2.2.2.2.2) _ _ _ h hW (lv_sub hl [0, 1, 2, 3] rfl)
def f_X6_call_43 (x_28 : Int32) (x1 : Int32) (x_35 : Int32) : Nat → Int32 → Int32 → MW → Option (Int32 × MW)
  | 0, _, _, _ => none
  | n0 + 1, v6_43, v5_43, w_43 =>
    if x_28 < v6_43 then
    some (v5_43, w_43)
    else
    Option.bind (f_X6_bits v6_43) fun p_51 =>
    Option.bind (f_X6_bits v5_43) fun p_56 =>
    if p_56 ≤ p_51 then
    f_X6_call_43 x_28 x1 x_35 n0 (v6_43 + (1 : Int32)) v5_43 w_43
    else
    Option.bind (f_X6_hangsCalled w_43 v6_43 x1) fun p_66 =>
    if p_66.1 < x_35 then
    f_X6_call_43 x_28 x1 x_35 n0 (v6_43 + (1 : Int32)) v5_43 p_66.2
    else
    f_X6_call_43 x_28 x1 x_35 n0 (v6_43 + (1 : Int32)) v6_43 p_66.2
def f_X6_call (w : MW) (x1 : Int32) : Option (Int32 × MW) :=
  Option.bind (f_X6_wrongBy x1 (0 : Int32) (12 : Int32)) fun p_4 =>
    if p_4 = 0 then
    if inR (0 : Int32) 71 then
    nm (((1 : Int32) <<< ((w.1 (0 : Int32).toNatClampNeg) &&& 31)) - (1 : Int32)) fun x_28 =>
    Option.bind (f_X6_hangsCalled w x_28 x1) fun p_32 =>
    nm p_32.1 fun x_35 =>
    f_X6_call_43 x_28 x1 x_35 200 (0 : Int32) x_28 p_32.2
    else none
    else
    Option.bind (f_X6_no w p_4) fun p_14 =>
    some (p_14.1, p_14.2)
abbrev rmX6_call : Room := { frames := 7, cells := 0, slots := 0, locals := 162 }
set_option maxRecDepth 100000 in
set_option maxHeartbeats 4000000 in
theorem c_X6_call (l : Launch) (G : EnT) (q : Nat → Nat) (w : MW) (x1 : Int32) (o : Int32 × MW) (h : f_X6_call w x1 = some o) : Mi l yX6_call rmX6_call cX6_call 7 (some .int) G false [.ref (q 0), .int x1] (cMW G q w) o.1 (cMW G q o.2) := by
  refine Mi_of (by decide) (Nat.le_of_ble_eq_true rfl) ?_
  intro p e s m below meth c A0 F hr hW ls hl
  obtain ⟨hx, hb, hml, hown, hts, hK, hNW, hlocks, hA, hSX⟩ := id F
  have hl : lv_has ls 7 [(0, .ref (q 0)), (1, .int x1)] := hl
  have hW : Wd G A0 s (cMW G q w) s.heap [] := hW
  show W p l e rmX6_call s m ([.ref (q 0), .int x1] : List Value).toArray below meth c s.heap [] 0 0 (Qi below G (cMW G q o.2) o.1 A0 ([.ref (q 0), .int x1] : List Value).toArray s) (F0 m 0 ls [])
  refine lv_iload_n hx hb dX6_call_0 rfl (lv_at hl 1 rfl) ?_
  refine lv_iconst (v := (0 : Int32)) hx hb dX6_call_1 (by decide) ?_
  refine lv_bipush (v := (12 : Int32)) hx hb dX6_call_2 (by decide) ?_
  obtain ⟨p_4, hc_4, h⟩ := of_bind h
  refine x_Si (av := [.int x1, .int (0 : Int32), .int (12 : Int32)]) F hW (c_X6_wrongBy l G x1 (0 : Int32) (12 : Int32) _ hc_4) [] rfl rfl (by intro q; cases q) cs_X6_141 rfl rfl hl (Nat.le_of_ble_eq_true rfl) ⟨Nat.le_of_ble_eq_true rfl, Nat.le_of_ble_eq_true rfl⟩ ⟨rfl, rfl⟩ ⟨Nat.le_of_ble_eq_true rfl, Nat.le_of_ble_eq_true rfl⟩ dX6_call_4 rfl [none, none, none, none, none, none, none, none, none, none] rfl (ws' := cMW G q w) rfl (fun H locs hW => ?_)
  refine lv_istore_n (lv' := [(2, .int p_4), (0, .ref (q 0)), (1, .int x1)]) hx hb dX6_call_7 rfl hl (by decide) rfl (fun ls hl => ?_)
  refine lv_iload_n hx hb dX6_call_8 rfl (lv_at hl 0 rfl) ?_
  obtain ⟨ht_9, hf_9⟩ := of_ite h
  refine lv_if_eq (tgt := 18) hx hb dX6_call_9 (by decide) (fun c_9 => ?_) (fun c_9 => ?_)
  · have h := ht_9 c_9
    refine lv_iconst (v := (1 : Int32)) hx hb dX6_call_18 (by decide) ?_
    refine lv_aload_n hx hb dX6_call_19 rfl (lv_at hl 1 rfl) ?_
    refine x_get F hW 0 rfl fa_X6_9 rfl dX6_call_20 ?_
    refine lv_iconst (v := (0 : Int32)) hx hb dX6_call_23 (by decide) ?_
    obtain ⟨g_24, h⟩ := of_guard h
    refine x_iald F hW 1 rfl g_24 dX6_call_24 ?_
    refine lv_ishl hx hb dX6_call_25 ?_
    refine lv_iconst (v := (1 : Int32)) hx hb dX6_call_26 (by decide) ?_
    refine lv_isub hx hb dX6_call_27 ?_
    obtain ⟨x_28, e_x_28, h⟩ := of_nm h
    refine x_topi e_x_28 ?_
    refine lv_istore_n (lv' := [(3, .int x_28), (2, .int p_4), (0, .ref (q 0)), (1, .int x1)]) hx hb dX6_call_28 rfl hl (by decide) rfl (fun ls hl => ?_)
    refine lv_aload_n hx hb dX6_call_29 rfl (lv_at hl 2 rfl) ?_
    refine lv_iload_n hx hb dX6_call_30 rfl (lv_at hl 0 rfl) ?_
    refine lv_iload_n hx hb dX6_call_31 rfl (lv_at hl 3 rfl) ?_
    obtain ⟨p_32, hc_32, h⟩ := of_bind h
    refine x_Vi (av := [.ref (q 0), .int x_28, .int x1]) (As := [.int x_28, .int x1]) F hW (c_X6_hangsCalled l G q w x_28 x1 _ hc_32) [0, 1, 2, 3, 4, 5, 6, 7, 8, 9] rfl rfl (by intro q; cases q) cv_X6_167 rfl ⟨_, rfl, rfl⟩ rfl rfl rfl hl (Nat.le_of_ble_eq_true rfl) ⟨Nat.le_of_ble_eq_true rfl, Nat.le_of_ble_eq_true rfl⟩ ⟨rfl, rfl⟩ ⟨Nat.le_of_ble_eq_true rfl, Nat.le_of_ble_eq_true rfl⟩ dX6_call_32 rfl [some 0, some 1, some 2, some 3, some 4, some 5, some 6, some 7, some 8, some 9] rfl (ws' := cMW G q p_32.2) rfl (fun H locs hW => ?_)
    obtain ⟨x_35, e_x_35, h⟩ := of_nm h
    refine x_topi e_x_35 ?_
    refine lv_istore (lv' := [(4, .int x_35), (3, .int x_28), (2, .int p_4), (0, .ref (q 0)), (1, .int x1)]) hx hb dX6_call_35 hl (by decide) rfl (fun ls hl => ?_)
    refine lv_iload_n hx hb dX6_call_37 rfl (lv_at hl 1 rfl) ?_
    refine lv_istore (lv' := [(5, .int x_28), (4, .int x_35), (3, .int x_28), (2, .int p_4), (0, .ref (q 0)), (1, .int x1)]) hx hb dX6_call_38 hl (by decide) rfl (fun ls hl => ?_)
    refine lv_iconst (v := (0 : Int32)) hx hb dX6_call_40 (by decide) ?_
    refine lv_istore (lv' := [(6, .int (0 : Int32)), (5, .int x_28), (4, .int x_35), (3, .int x_28), (2, .int p_4), (0, .ref (q 0)), (1, .int x1)]) hx hb dX6_call_41 hl (by decide) rfl (fun ls hl => ?_)
    have L0 : ∀ (n0 : Nat) (v6_43 : Int32) (v5_43 : Int32) (w_43 : MW) (H : Heap) (locs : List Loc) (ls : Array Slot), f_X6_call_43 x_28 x1 x_35 n0 v6_43 v5_43 w_43 = some o → Wd G A0 s (cMW G q w_43) H locs → lv_has ls 7 [(6, .int v6_43), (5, .int v5_43), (4, .int x_35), (3, .int x_28), (0, .ref (q 0)), (1, .int x1)] → W p l e rmX6_call s m ([.ref (q 0), .int x1] : List Value).toArray below meth c H locs 0 0 (Qi below G (cMW G q o.2) o.1 A0 ([.ref (q 0), .int x1] : List Value).toArray s) (F0 m 43 ls []) := by
      intro n0
      induction n0 with
      | zero => intro v6_43 v5_43 w_43 H locs ls h; cases (show (none : Option (Int32 × MW)) = some o from h)
      | succ n0 ih0 =>
        intro v6_43 v5_43 w_43 H locs ls h hW hl
        refine lv_iload hx hb dX6_call_43 (lv_at hl 0 rfl) ?_
        refine lv_iload_n hx hb dX6_call_45 rfl (lv_at hl 3 rfl) ?_
        obtain ⟨ht_46, hf_46⟩ := of_ite h
        refine lv_icmp_gt (tgt := 84) hx hb dX6_call_46 (by decide) (fun c_46 => ?_) (fun c_46 => ?_)
        · have h := ht_46 c_46
          refine lv_iload hx hb dX6_call_84 (lv_at hl 1 rfl) ?_
          obtain rfl := Option.some.inj h
          exact x_reti F hr hW rfl dX6_call_86
        · have h := hf_46 c_46
          refine lv_iload hx hb dX6_call_49 (lv_at hl 0 rfl) ?_
          obtain ⟨p_51, hc_51, h⟩ := of_bind h
          refine x_Si (av := [.int v6_43]) F hW (c_X6_bits l G v6_43 _ hc_51) [] rfl rfl (by intro q; cases q) cs_X6_148 rfl rfl hl (Nat.le_of_ble_eq_true rfl) ⟨Nat.le_of_ble_eq_true rfl, Nat.le_of_ble_eq_true rfl⟩ ⟨rfl, rfl⟩ ⟨Nat.le_of_ble_eq_true rfl, Nat.le_of_ble_eq_true rfl⟩ dX6_call_51 rfl [none, none, none, none, none, none, none, none, none, none] rfl (ws' := cMW G q w_43) rfl (fun H locs hW => ?_)
          refine lv_iload hx hb dX6_call_54 (lv_at hl 1 rfl) ?_
          obtain ⟨p_56, hc_56, h⟩ := of_bind h
          refine x_Si (av := [.int v5_43]) F hW (c_X6_bits l G v5_43 _ hc_56) [] rfl rfl (by intro q; cases q) cs_X6_148 rfl rfl hl (Nat.le_of_ble_eq_true rfl) ⟨Nat.le_of_ble_eq_true rfl, Nat.le_of_ble_eq_true rfl⟩ ⟨rfl, rfl⟩ ⟨Nat.le_of_ble_eq_true rfl, Nat.le_of_ble_eq_true rfl⟩ dX6_call_56 rfl [none, none, none, none, none, none, none, none, none, none] rfl (ws' := cMW G q w_43) rfl (fun H locs hW => ?_)
          obtain ⟨ht_59, hf_59⟩ := of_ite h
          refine lv_icmp_ge (tgt := 78) hx hb dX6_call_59 (by decide) (fun c_59 => ?_) (fun c_59 => ?_)
          · have h := ht_59 c_59
            refine lv_iinc (v := (v6_43 + (1 : Int32))) (lv' := [(6, .int (v6_43 + (1 : Int32))), (5, .int v5_43), (4, .int x_35), (3, .int x_28), (0, .ref (q 0)), (1, .int x1)]) hx hb dX6_call_78 hl (k := 0) rfl rfl (by decide) rfl (fun ls hl => ?_)
            refine lv_goto (tgt := 43) hx hb dX6_call_81 (by decide) ?_
            exact ih0 (v6_43 + (1 : Int32)) v5_43 w_43 _ _ _ h hW (lv_sub hl [0, 1, 2, 3, 4, 5] rfl)
          · have h := hf_59 c_59
            refine lv_aload_n hx hb dX6_call_62 rfl (lv_at hl 4 rfl) ?_
            refine lv_iload hx hb dX6_call_63 (lv_at hl 0 rfl) ?_
            refine lv_iload_n hx hb dX6_call_65 rfl (lv_at hl 5 rfl) ?_
            obtain ⟨p_66, hc_66, h⟩ := of_bind h
            refine x_Vi (av := [.ref (q 0), .int v6_43, .int x1]) (As := [.int v6_43, .int x1]) F hW (c_X6_hangsCalled l G q w_43 v6_43 x1 _ hc_66) [0, 1, 2, 3, 4, 5, 6, 7, 8, 9] rfl rfl (by intro q; cases q) cv_X6_167 rfl ⟨_, rfl, rfl⟩ rfl rfl rfl hl (Nat.le_of_ble_eq_true rfl) ⟨Nat.le_of_ble_eq_true rfl, Nat.le_of_ble_eq_true rfl⟩ ⟨rfl, rfl⟩ ⟨Nat.le_of_ble_eq_true rfl, Nat.le_of_ble_eq_true rfl⟩ dX6_call_66 rfl [some 0, some 1, some 2, some 3, some 4, some 5, some 6, some 7, some 8, some 9] rfl (ws' := cMW G q p_66.2) rfl (fun H locs hW => ?_)
            refine lv_iload hx hb dX6_call_69 (lv_at hl 2 rfl) ?_
            obtain ⟨ht_71, hf_71⟩ := of_ite h
            refine lv_icmp_lt (tgt := 78) hx hb dX6_call_71 (by decide) (fun c_71 => ?_) (fun c_71 => ?_)
            · have h := ht_71 c_71
              refine lv_iinc (v := (v6_43 + (1 : Int32))) (lv' := [(6, .int (v6_43 + (1 : Int32))), (5, .int v5_43), (4, .int x_35), (3, .int x_28), (0, .ref (q 0)), (1, .int x1)]) hx hb dX6_call_78 hl (k := 0) rfl rfl (by decide) rfl (fun ls hl => ?_)
              refine lv_goto (tgt := 43) hx hb dX6_call_81 (by decide) ?_
              exact ih0 (v6_43 + (1 : Int32)) v5_43 p_66.2 _ _ _ h hW (lv_sub hl [0, 1, 2, 3, 4, 5] rfl)
            · have h := hf_71 c_71
              refine lv_iload hx hb dX6_call_74 (lv_at hl 0 rfl) ?_
              refine lv_istore (lv' := [(5, .int v6_43), (6, .int v6_43), (4, .int x_35), (3, .int x_28), (0, .ref (q 0)), (1, .int x1)]) hx hb dX6_call_76 hl (by decide) rfl (fun ls hl => ?_)
              refine lv_iinc (v := (v6_43 + (1 : Int32))) (lv' := [(6, .int (v6_43 + (1 : Int32))), (5, .int v6_43), (4, .int x_35), (3, .int x_28), (0, .ref (q 0)), (1, .int x1)]) hx hb dX6_call_78 hl (k := 1) rfl rfl (by decide) rfl (fun ls hl => ?_)
              refine lv_goto (tgt := 43) hx hb dX6_call_81 (by decide) ?_
              exact ih0 (v6_43 + (1 : Int32)) v6_43 p_66.2 _ _ _ h hW (lv_sub hl [0, 1, 2, 3, 4, 5] rfl)
    exact L0 200 (0 : Int32) x_28 p_32.2 _ _ _ h hW (lv_sub hl [0, 1, 2, 3, 5, 6] rfl)
  · have h := hf_9 c_9
    refine lv_aload_n hx hb dX6_call_12 rfl (lv_at hl 1 rfl) ?_
    refine lv_iload_n hx hb dX6_call_13 rfl (lv_at hl 0 rfl) ?_
    obtain ⟨p_14, hc_14, h⟩ := of_bind h
    refine x_Vi (av := [.ref (q 0), .int p_4]) (As := [.int p_4]) F hW (c_X6_no l G q w p_4 _ hc_14) [0, 1, 2, 3, 4, 5, 6, 7, 8, 9] rfl rfl (by intro q; cases q) cv_X6_39 rfl ⟨_, rfl, rfl⟩ rfl rfl rfl hl (Nat.le_of_ble_eq_true rfl) ⟨Nat.le_of_ble_eq_true rfl, Nat.le_of_ble_eq_true rfl⟩ ⟨rfl, rfl⟩ ⟨Nat.le_of_ble_eq_true rfl, Nat.le_of_ble_eq_true rfl⟩ dX6_call_14 rfl [some 0, some 1, some 2, some 3, some 4, some 5, some 6, some 7, some 8, some 9] rfl (ws' := cMW G q p_14.2) rfl (fun H locs hW => ?_)
    obtain rfl := Option.some.inj h
    exact x_reti F hr hW rfl dX6_call_17
def f_X6_brings_82 (k2 : Int32 → MW → Option (MW)) (v3_69 : Int32) (p_4 : Int32) : Nat → Int32 → MW → Option (MW)
  | 0, _, _ => none
  | n3 + 1, v4_82, w_82 =>
    if inR (0 : Int32) 71 then
    if (w_82.1 (0 : Int32).toNatClampNeg) ≤ v4_82 then
    k2 (v3_69 + (1 : Int32)) w_82
    else
    Option.bind (f_X6_has p_4 v3_69) fun p_95 =>
    if p_95 = 0 then
    f_X6_brings_82 k2 v3_69 p_4 n3 (v4_82 + (1 : Int32)) w_82
    else
    Option.bind (f_X6_has p_4 v4_82) fun p_104 =>
    if p_104 = 0 then
    f_X6_brings_82 k2 v3_69 p_4 n3 (v4_82 + (1 : Int32)) w_82
    else
    if v3_69 = v4_82 then
    f_X6_brings_82 k2 v3_69 p_4 n3 (v4_82 + (1 : Int32)) w_82
    else
    Option.bind (f_X6_doesSee w_82.1 v3_69 v4_82) fun p_123 =>
    if p_123 = 0 then
    f_X6_brings_82 k2 v3_69 p_4 n3 (v4_82 + (1 : Int32)) w_82
    else
    if inR v3_69 7 then
    if inR v4_82 7 then
    Option.bind (f_X6_least (w_82.2.2.2.2.2.2.2.2.1 v3_69.toNatClampNeg) ((w_82.2.2.2.2.2.2.2.2.1 v4_82.toNatClampNeg) + (1 : Int32))) fun p_149 =>
    if inR v3_69 7 then
    f_X6_brings_82 k2 v3_69 p_4 n3 (v4_82 + (1 : Int32)) (w_82.1, w_82.2.1, w_82.2.2.1, w_82.2.2.2.1, w_82.2.2.2.2.1, w_82.2.2.2.2.2.1, w_82.2.2.2.2.2.2.1, w_82.2.2.2.2.2.2.2.1, (upd w_82.2.2.2.2.2.2.2.2.1 v3_69.toNatClampNeg p_149), w_82.2.2.2.2.2.2.2.2.2.1, w_82.2.2.2.2.2.2.2.2.2.2.1, w_82.2.2.2.2.2.2.2.2.2.2.2.1, w_82.2.2.2.2.2.2.2.2.2.2.2.2.1, w_82.2.2.2.2.2.2.2.2.2.2.2.2.2)
    else none
    else none
    else none
    else none
def f_X6_brings_69 (k1 : Int32 → MW → Option (MW)) (v2_61 : Int32) (p_4 : Int32) : Nat → Int32 → MW → Option (MW)
  | 0, _, _ => none
  | n2 + 1, v3_69, w_69 =>
    if inR (0 : Int32) 71 then
    if (w_69.1 (0 : Int32).toNatClampNeg) ≤ v3_69 then
    k1 (v2_61 + (1 : Int32)) w_69
    else
    f_X6_brings_82 (fun a0 a1 => f_X6_brings_69 k1 v2_61 p_4 n2 a0 a1) v3_69 p_4 200 (0 : Int32) w_69
    else none
def f_X6_brings_61 (p_4 : Int32) : Nat → Int32 → MW → Option (MW)
  | 0, _, _ => none
  | n1 + 1, v2_61, w_61 =>
    if (7 : Int32) ≤ v2_61 then
    some w_61
    else
    f_X6_brings_69 (fun a0 a1 => f_X6_brings_61 p_4 n1 a0 a1) v2_61 p_4 200 (0 : Int32) w_61
def f_X6_brings_10 (p_4 : Int32) : Nat → Int32 → MW → Option (MW)
  | 0, _, _ => none
  | n0 + 1, v2_10, w_10 =>
    if inR (0 : Int32) 71 then
    if (w_10.1 (0 : Int32).toNatClampNeg) ≤ v2_10 then
    f_X6_brings_61 p_4 200 (0 : Int32) w_10
    else
    Option.bind (f_X6_has p_4 v2_10) fun p_27 =>
    if p_27 = 0 then
    if inR v2_10 7 then
    f_X6_brings_10 p_4 n0 (v2_10 + (1 : Int32)) (w_10.1, w_10.2.1, w_10.2.2.1, w_10.2.2.2.1, w_10.2.2.2.2.1, w_10.2.2.2.2.2.1, w_10.2.2.2.2.2.2.1, w_10.2.2.2.2.2.2.2.1, (upd w_10.2.2.2.2.2.2.2.2.1 v2_10.toNatClampNeg (1000000000 : Int32)), w_10.2.2.2.2.2.2.2.2.2.1, w_10.2.2.2.2.2.2.2.2.2.2.1, w_10.2.2.2.2.2.2.2.2.2.2.2.1, w_10.2.2.2.2.2.2.2.2.2.2.2.2.1, w_10.2.2.2.2.2.2.2.2.2.2.2.2.2)
    else none
    else
    Option.bind (f_X6_doesSee w_10.1 v2_10 (99 : Int32)) fun p_40 =>
    if p_40 = 0 then
    if inR v2_10 7 then
    f_X6_brings_10 p_4 n0 (v2_10 + (1 : Int32)) (w_10.1, w_10.2.1, w_10.2.2.1, w_10.2.2.2.1, w_10.2.2.2.2.1, w_10.2.2.2.2.2.1, w_10.2.2.2.2.2.2.1, w_10.2.2.2.2.2.2.2.1, (upd w_10.2.2.2.2.2.2.2.2.1 v2_10.toNatClampNeg (1000000000 : Int32)), w_10.2.2.2.2.2.2.2.2.2.1, w_10.2.2.2.2.2.2.2.2.2.2.1, w_10.2.2.2.2.2.2.2.2.2.2.2.1, w_10.2.2.2.2.2.2.2.2.2.2.2.2.1, w_10.2.2.2.2.2.2.2.2.2.2.2.2.2)
    else none
    else
    if inR v2_10 7 then
    f_X6_brings_10 p_4 n0 (v2_10 + (1 : Int32)) (w_10.1, w_10.2.1, w_10.2.2.1, w_10.2.2.2.1, w_10.2.2.2.2.1, w_10.2.2.2.2.2.1, w_10.2.2.2.2.2.2.1, w_10.2.2.2.2.2.2.2.1, (upd w_10.2.2.2.2.2.2.2.2.1 v2_10.toNatClampNeg (1 : Int32)), w_10.2.2.2.2.2.2.2.2.2.1, w_10.2.2.2.2.2.2.2.2.2.2.1, w_10.2.2.2.2.2.2.2.2.2.2.2.1, w_10.2.2.2.2.2.2.2.2.2.2.2.2.1, w_10.2.2.2.2.2.2.2.2.2.2.2.2.2)
    else none
    else none
def f_X6_brings (w : MW) : Option (MW) :=
  Option.bind (f_X6_hangIn w.1) fun p_4 =>
    f_X6_brings_10 p_4 200 (0 : Int32) w
abbrev rmX6_brings : Room := { frames := 5, cells := 0, slots := 0, locals := 115 }
set_option maxRecDepth 100000 in
set_option maxHeartbeats 4000000 in
theorem c_X6_brings (l : Launch) (G : EnT) (q : Nat → Nat) (w : MW) (o : MW) (h : f_X6_brings w = some o) : Mv l yX6_brings rmX6_brings cX6_brings 5 none G false [.ref (q 0)] (cMW G q w) (cMW G q o) := by
  refine Mv_of (by decide) (Nat.le_of_ble_eq_true rfl) ?_
  intro p e s m below meth c A0 F hr hW ls hl
  obtain ⟨hx, hb, hml, hown, hts, hK, hNW, hlocks, hA, hSX⟩ := id F
  have hl : lv_has ls 5 [(0, .ref (q 0))] := hl
  have hW : Wd G A0 s (cMW G q w) s.heap [] := hW
  show W p l e rmX6_brings s m ([.ref (q 0)] : List Value).toArray below meth c s.heap [] 0 0 (Qv below G (cMW G q o) A0 ([.ref (q 0)] : List Value).toArray s) (F0 m 0 ls [])
  refine lv_aload_n hx hb dX6_brings_0 rfl (lv_at hl 0 rfl) ?_
  refine x_get F hW 0 rfl fa_X6_9 rfl dX6_brings_1 ?_
  obtain ⟨p_4, hc_4, h⟩ := of_bind h
  refine x_Si (av := [.ref (q 1)]) F hW (c_X6_hangIn l G (fun i => q (i + 1)) w.1 _ hc_4) [1] rfl rfl (by intro q; cases q) cs_X6_145 rfl rfl hl (Nat.le_of_ble_eq_true rfl) ⟨Nat.le_of_ble_eq_true rfl, Nat.le_of_ble_eq_true rfl⟩ ⟨rfl, rfl⟩ ⟨Nat.le_of_ble_eq_true rfl, Nat.le_of_ble_eq_true rfl⟩ dX6_brings_4 rfl [none, some 0, none, none, none, none, none, none, none, none] rfl (ws' := cMW G q w) rfl (fun H locs hW => ?_)
  refine lv_istore_n (lv' := [(1, .int p_4), (0, .ref (q 0))]) hx hb dX6_brings_7 rfl hl (by decide) rfl (fun ls hl => ?_)
  refine lv_iconst (v := (0 : Int32)) hx hb dX6_brings_8 (by decide) ?_
  refine lv_istore_n (lv' := [(2, .int (0 : Int32)), (1, .int p_4), (0, .ref (q 0))]) hx hb dX6_brings_9 rfl hl (by decide) rfl (fun ls hl => ?_)
  have L0 : ∀ (n0 : Nat) (v2_10 : Int32) (w_10 : MW) (H : Heap) (locs : List Loc) (ls : Array Slot), f_X6_brings_10 p_4 n0 v2_10 w_10 = some o → Wd G A0 s (cMW G q w_10) H locs → lv_has ls 5 [(2, .int v2_10), (1, .int p_4), (0, .ref (q 0))] → W p l e rmX6_brings s m ([.ref (q 0)] : List Value).toArray below meth c H locs 0 0 (Qv below G (cMW G q o) A0 ([.ref (q 0)] : List Value).toArray s) (F0 m 10 ls []) := by
    intro n0
    induction n0 with
    | zero => intro v2_10 w_10 H locs ls h; cases (show (none : Option (MW)) = some o from h)
    | succ n0 ih0 =>
      intro v2_10 w_10 H locs ls h hW hl
      refine lv_iload_n hx hb dX6_brings_10 rfl (lv_at hl 0 rfl) ?_
      refine lv_aload_n hx hb dX6_brings_11 rfl (lv_at hl 2 rfl) ?_
      refine x_get F hW 0 rfl fa_X6_9 rfl dX6_brings_12 ?_
      refine lv_iconst (v := (0 : Int32)) hx hb dX6_brings_15 (by decide) ?_
      obtain ⟨g_16, h⟩ := of_guard h
      refine x_iald F hW 1 rfl g_16 dX6_brings_16 ?_
      obtain ⟨ht_17, hf_17⟩ := of_ite h
      refine lv_icmp_ge (tgt := 59) hx hb dX6_brings_17 (by decide) (fun c_17 => ?_) (fun c_17 => ?_)
      · have h := ht_17 c_17
        refine lv_iconst (v := (0 : Int32)) hx hb dX6_brings_59 (by decide) ?_
        refine lv_istore_n (lv' := [(2, .int (0 : Int32)), (1, .int p_4), (0, .ref (q 0))]) hx hb dX6_brings_60 rfl hl (by decide) rfl (fun ls hl => ?_)
        have L1 : ∀ (n1 : Nat) (v2_61 : Int32) (w_61 : MW) (H : Heap) (locs : List Loc) (ls : Array Slot), f_X6_brings_61 p_4 n1 v2_61 w_61 = some o → Wd G A0 s (cMW G q w_61) H locs → lv_has ls 5 [(2, .int v2_61), (1, .int p_4), (0, .ref (q 0))] → W p l e rmX6_brings s m ([.ref (q 0)] : List Value).toArray below meth c H locs 0 0 (Qv below G (cMW G q o) A0 ([.ref (q 0)] : List Value).toArray s) (F0 m 61 ls []) := by
          intro n1
          induction n1 with
          | zero => intro v2_61 w_61 H locs ls h; cases (show (none : Option (MW)) = some o from h)
          | succ n1 ih1 =>
            intro v2_61 w_61 H locs ls h hW hl
            refine lv_iload_n hx hb dX6_brings_61 rfl (lv_at hl 0 rfl) ?_
            refine lv_bipush (v := (7 : Int32)) hx hb dX6_brings_62 (by decide) ?_
            obtain ⟨ht_64, hf_64⟩ := of_ite h
            refine lv_icmp_ge (tgt := 171) hx hb dX6_brings_64 (by decide) (fun c_64 => ?_) (fun c_64 => ?_)
            · have h := ht_64 c_64
              obtain rfl := Option.some.inj h
              exact x_retv F hr hW dX6_brings_171
            · have h := hf_64 c_64
              refine lv_iconst (v := (0 : Int32)) hx hb dX6_brings_67 (by decide) ?_
              refine lv_istore_n (lv' := [(3, .int (0 : Int32)), (2, .int v2_61), (1, .int p_4), (0, .ref (q 0))]) hx hb dX6_brings_68 rfl hl (by decide) rfl (fun ls hl => ?_)
              have L2 : ∀ (n2 : Nat) (v3_69 : Int32) (w_69 : MW) (H : Heap) (locs : List Loc) (ls : Array Slot), f_X6_brings_69 (fun a0 a1 => f_X6_brings_61 p_4 n1 a0 a1) v2_61 p_4 n2 v3_69 w_69 = some o → Wd G A0 s (cMW G q w_69) H locs → lv_has ls 5 [(3, .int v3_69), (2, .int v2_61), (1, .int p_4), (0, .ref (q 0))] → W p l e rmX6_brings s m ([.ref (q 0)] : List Value).toArray below meth c H locs 0 0 (Qv below G (cMW G q o) A0 ([.ref (q 0)] : List Value).toArray s) (F0 m 69 ls []) := by
                intro n2
                induction n2 with
                | zero => intro v3_69 w_69 H locs ls h; cases (show (none : Option (MW)) = some o from h)
                | succ n2 ih2 =>
                  intro v3_69 w_69 H locs ls h hW hl
                  refine lv_iload_n hx hb dX6_brings_69 rfl (lv_at hl 0 rfl) ?_
                  refine lv_aload_n hx hb dX6_brings_70 rfl (lv_at hl 3 rfl) ?_
                  refine x_get F hW 0 rfl fa_X6_9 rfl dX6_brings_71 ?_
                  refine lv_iconst (v := (0 : Int32)) hx hb dX6_brings_74 (by decide) ?_
                  obtain ⟨g_75, h⟩ := of_guard h
                  refine x_iald F hW 1 rfl g_75 dX6_brings_75 ?_
                  obtain ⟨ht_76, hf_76⟩ := of_ite h
                  refine lv_icmp_ge (tgt := 165) hx hb dX6_brings_76 (by decide) (fun c_76 => ?_) (fun c_76 => ?_)
                  · have h := ht_76 c_76
                    refine lv_iinc (v := (v2_61 + (1 : Int32))) (lv' := [(2, .int (v2_61 + (1 : Int32))), (3, .int v3_69), (1, .int p_4), (0, .ref (q 0))]) hx hb dX6_brings_165 hl (k := 1) rfl rfl (by decide) rfl (fun ls hl => ?_)
                    refine lv_goto (tgt := 61) hx hb dX6_brings_168 (by decide) ?_
                    exact ih1 (v2_61 + (1 : Int32)) w_69 _ _ _ h hW (lv_sub hl [0, 2, 3] rfl)
                  · have h := hf_76 c_76
                    refine lv_iconst (v := (0 : Int32)) hx hb dX6_brings_79 (by decide) ?_
                    refine lv_istore (lv' := [(4, .int (0 : Int32)), (3, .int v3_69), (2, .int v2_61), (1, .int p_4), (0, .ref (q 0))]) hx hb dX6_brings_80 hl (by decide) rfl (fun ls hl => ?_)
                    have L3 : ∀ (n3 : Nat) (v4_82 : Int32) (w_82 : MW) (H : Heap) (locs : List Loc) (ls : Array Slot), f_X6_brings_82 (fun a0 a1 => f_X6_brings_69 (fun a0 a1 => f_X6_brings_61 p_4 n1 a0 a1) v2_61 p_4 n2 a0 a1) v3_69 p_4 n3 v4_82 w_82 = some o → Wd G A0 s (cMW G q w_82) H locs → lv_has ls 5 [(4, .int v4_82), (3, .int v3_69), (2, .int v2_61), (1, .int p_4), (0, .ref (q 0))] → W p l e rmX6_brings s m ([.ref (q 0)] : List Value).toArray below meth c H locs 0 0 (Qv below G (cMW G q o) A0 ([.ref (q 0)] : List Value).toArray s) (F0 m 82 ls []) := by
                      intro n3
                      induction n3 with
                      | zero => intro v4_82 w_82 H locs ls h; cases (show (none : Option (MW)) = some o from h)
                      | succ n3 ih3 =>
                        intro v4_82 w_82 H locs ls h hW hl
                        refine lv_iload hx hb dX6_brings_82 (lv_at hl 0 rfl) ?_
                        refine lv_aload_n hx hb dX6_brings_84 rfl (lv_at hl 4 rfl) ?_
                        refine x_get F hW 0 rfl fa_X6_9 rfl dX6_brings_85 ?_
                        refine lv_iconst (v := (0 : Int32)) hx hb dX6_brings_88 (by decide) ?_
                        obtain ⟨g_89, h⟩ := of_guard h
                        refine x_iald F hW 1 rfl g_89 dX6_brings_89 ?_
                        obtain ⟨ht_90, hf_90⟩ := of_ite h
                        refine lv_icmp_ge (tgt := 159) hx hb dX6_brings_90 (by decide) (fun c_90 => ?_) (fun c_90 => ?_)
                        · have h := ht_90 c_90
                          refine lv_iinc (v := (v3_69 + (1 : Int32))) (lv' := [(3, .int (v3_69 + (1 : Int32))), (4, .int v4_82), (2, .int v2_61), (1, .int p_4), (0, .ref (q 0))]) hx hb dX6_brings_159 hl (k := 1) rfl rfl (by decide) rfl (fun ls hl => ?_)
                          refine lv_goto (tgt := 69) hx hb dX6_brings_162 (by decide) ?_
                          exact ih2 (v3_69 + (1 : Int32)) w_82 _ _ _ h hW (lv_sub hl [0, 2, 3, 4] rfl)
                        · have h := hf_90 c_90
                          refine lv_iload_n hx hb dX6_brings_93 rfl (lv_at hl 3 rfl) ?_
                          refine lv_iload_n hx hb dX6_brings_94 rfl (lv_at hl 1 rfl) ?_
                          obtain ⟨p_95, hc_95, h⟩ := of_bind h
                          refine x_Si (av := [.int p_4, .int v3_69]) F hW (c_X6_has l G p_4 v3_69 _ hc_95) [] rfl rfl (by intro q; cases q) cs_X6_75 rfl rfl hl (Nat.le_of_ble_eq_true rfl) ⟨Nat.le_of_ble_eq_true rfl, Nat.le_of_ble_eq_true rfl⟩ ⟨rfl, rfl⟩ ⟨Nat.le_of_ble_eq_true rfl, Nat.le_of_ble_eq_true rfl⟩ dX6_brings_95 rfl [none, none, none, none, none, none, none, none, none, none] rfl (ws' := cMW G q w_82) rfl (fun H locs hW => ?_)
                          obtain ⟨ht_98, hf_98⟩ := of_ite h
                          refine lv_if_eq (tgt := 153) hx hb dX6_brings_98 (by decide) (fun c_98 => ?_) (fun c_98 => ?_)
                          · have h := ht_98 c_98
                            refine lv_iinc (v := (v4_82 + (1 : Int32))) (lv' := [(4, .int (v4_82 + (1 : Int32))), (3, .int v3_69), (2, .int v2_61), (1, .int p_4), (0, .ref (q 0))]) hx hb dX6_brings_153 hl (k := 0) rfl rfl (by decide) rfl (fun ls hl => ?_)
                            refine lv_goto (tgt := 82) hx hb dX6_brings_156 (by decide) ?_
                            exact ih3 (v4_82 + (1 : Int32)) w_82 _ _ _ h hW (lv_sub hl [0, 1, 2, 3, 4] rfl)
                          · have h := hf_98 c_98
                            refine lv_iload_n hx hb dX6_brings_101 rfl (lv_at hl 3 rfl) ?_
                            refine lv_iload hx hb dX6_brings_102 (lv_at hl 0 rfl) ?_
                            obtain ⟨p_104, hc_104, h⟩ := of_bind h
                            refine x_Si (av := [.int p_4, .int v4_82]) F hW (c_X6_has l G p_4 v4_82 _ hc_104) [] rfl rfl (by intro q; cases q) cs_X6_75 rfl rfl hl (Nat.le_of_ble_eq_true rfl) ⟨Nat.le_of_ble_eq_true rfl, Nat.le_of_ble_eq_true rfl⟩ ⟨rfl, rfl⟩ ⟨Nat.le_of_ble_eq_true rfl, Nat.le_of_ble_eq_true rfl⟩ dX6_brings_104 rfl [none, none, none, none, none, none, none, none, none, none] rfl (ws' := cMW G q w_82) rfl (fun H locs hW => ?_)
                            obtain ⟨ht_107, hf_107⟩ := of_ite h
                            refine lv_if_eq (tgt := 153) hx hb dX6_brings_107 (by decide) (fun c_107 => ?_) (fun c_107 => ?_)
                            · have h := ht_107 c_107
                              refine lv_iinc (v := (v4_82 + (1 : Int32))) (lv' := [(4, .int (v4_82 + (1 : Int32))), (3, .int v3_69), (2, .int v2_61), (1, .int p_4), (0, .ref (q 0))]) hx hb dX6_brings_153 hl (k := 0) rfl rfl (by decide) rfl (fun ls hl => ?_)
                              refine lv_goto (tgt := 82) hx hb dX6_brings_156 (by decide) ?_
                              exact ih3 (v4_82 + (1 : Int32)) w_82 _ _ _ h hW (lv_sub hl [0, 1, 2, 3, 4] rfl)
                            · have h := hf_107 c_107
                              refine lv_iload_n hx hb dX6_brings_110 rfl (lv_at hl 1 rfl) ?_
                              refine lv_iload hx hb dX6_brings_111 (lv_at hl 0 rfl) ?_
                              obtain ⟨ht_113, hf_113⟩ := of_ite h
                              refine lv_icmp_eq (tgt := 153) hx hb dX6_brings_113 (by decide) (fun c_113 => ?_) (fun c_113 => ?_)
                              · have h := ht_113 c_113
                                refine lv_iinc (v := (v4_82 + (1 : Int32))) (lv' := [(4, .int (v4_82 + (1 : Int32))), (3, .int v3_69), (2, .int v2_61), (1, .int p_4), (0, .ref (q 0))]) hx hb dX6_brings_153 hl (k := 0) rfl rfl (by decide) rfl (fun ls hl => ?_)
                                refine lv_goto (tgt := 82) hx hb dX6_brings_156 (by decide) ?_
                                exact ih3 (v4_82 + (1 : Int32)) w_82 _ _ _ h hW (lv_sub hl [0, 1, 2, 3, 4] rfl)
                              · have h := hf_113 c_113
                                refine lv_aload_n hx hb dX6_brings_116 rfl (lv_at hl 4 rfl) ?_
                                refine x_get F hW 0 rfl fa_X6_9 rfl dX6_brings_117 ?_
                                refine lv_iload_n hx hb dX6_brings_120 rfl (lv_at hl 1 rfl) ?_
                                refine lv_iload hx hb dX6_brings_121 (lv_at hl 0 rfl) ?_
                                obtain ⟨p_123, hc_123, h⟩ := of_bind h
                                refine x_Si (av := [.ref (q 1), .int v3_69, .int v4_82]) F hW (c_X6_doesSee l G (fun i => q (i + 1)) w_82.1 v3_69 v4_82 _ hc_123) [1] rfl rfl (by intro q; cases q) cs_X6_79 rfl rfl hl (Nat.le_of_ble_eq_true rfl) ⟨Nat.le_of_ble_eq_true rfl, Nat.le_of_ble_eq_true rfl⟩ ⟨rfl, rfl⟩ ⟨Nat.le_of_ble_eq_true rfl, Nat.le_of_ble_eq_true rfl⟩ dX6_brings_123 rfl [none, some 0, none, none, none, none, none, none, none, none] rfl (ws' := cMW G q w_82) rfl (fun H locs hW => ?_)
                                obtain ⟨ht_126, hf_126⟩ := of_ite h
                                refine lv_if_eq (tgt := 153) hx hb dX6_brings_126 (by decide) (fun c_126 => ?_) (fun c_126 => ?_)
                                · have h := ht_126 c_126
                                  refine lv_iinc (v := (v4_82 + (1 : Int32))) (lv' := [(4, .int (v4_82 + (1 : Int32))), (3, .int v3_69), (2, .int v2_61), (1, .int p_4), (0, .ref (q 0))]) hx hb dX6_brings_153 hl (k := 0) rfl rfl (by decide) rfl (fun ls hl => ?_)
                                  refine lv_goto (tgt := 82) hx hb dX6_brings_156 (by decide) ?_
                                  exact ih3 (v4_82 + (1 : Int32)) w_82 _ _ _ h hW (lv_sub hl [0, 1, 2, 3, 4] rfl)
                                · have h := hf_126 c_126
                                  refine lv_aload_n hx hb dX6_brings_129 rfl (lv_at hl 4 rfl) ?_
                                  refine x_get F hW 0 rfl fa_X6_34 rfl dX6_brings_130 ?_
                                  refine lv_iload_n hx hb dX6_brings_133 rfl (lv_at hl 1 rfl) ?_
                                  refine lv_aload_n hx hb dX6_brings_134 rfl (lv_at hl 4 rfl) ?_
                                  refine x_get F hW 0 rfl fa_X6_34 rfl dX6_brings_135 ?_
                                  refine lv_iload_n hx hb dX6_brings_138 rfl (lv_at hl 1 rfl) ?_
                                  obtain ⟨g_139, h⟩ := of_guard h
                                  refine x_iald F hW 9 rfl g_139 dX6_brings_139 ?_
                                  refine lv_aload_n hx hb dX6_brings_140 rfl (lv_at hl 4 rfl) ?_
                                  refine x_get F hW 0 rfl fa_X6_34 rfl dX6_brings_141 ?_
                                  refine lv_iload hx hb dX6_brings_144 (lv_at hl 0 rfl) ?_
                                  obtain ⟨g_146, h⟩ := of_guard h
                                  refine x_iald F hW 9 rfl g_146 dX6_brings_146 ?_
                                  refine lv_iconst (v := (1 : Int32)) hx hb dX6_brings_147 (by decide) ?_
                                  refine lv_iadd hx hb dX6_brings_148 ?_
                                  obtain ⟨p_149, hc_149, h⟩ := of_bind h
                                  refine x_Si (av := [.int (w_82.2.2.2.2.2.2.2.2.1 v3_69.toNatClampNeg), .int ((w_82.2.2.2.2.2.2.2.2.1 v4_82.toNatClampNeg) + (1 : Int32))]) F hW (c_X6_least l G (w_82.2.2.2.2.2.2.2.2.1 v3_69.toNatClampNeg) ((w_82.2.2.2.2.2.2.2.2.1 v4_82.toNatClampNeg) + (1 : Int32)) _ hc_149) [] rfl rfl (by intro q; cases q) cs_X6_125 rfl rfl hl (Nat.le_of_ble_eq_true rfl) ⟨Nat.le_of_ble_eq_true rfl, Nat.le_of_ble_eq_true rfl⟩ ⟨rfl, rfl⟩ ⟨Nat.le_of_ble_eq_true rfl, Nat.le_of_ble_eq_true rfl⟩ dX6_brings_149 rfl [none, none, none, none, none, none, none, none, none, none] rfl (ws' := cMW G q w_82) rfl (fun H locs hW => ?_)
                                  obtain ⟨g_152, h⟩ := of_guard h
                                  refine x_iast F hW 9 rfl g_152 (ws' := cMW G q (w_82.1, w_82.2.1, w_82.2.2.1, w_82.2.2.2.1, w_82.2.2.2.2.1, w_82.2.2.2.2.2.1, w_82.2.2.2.2.2.2.1, w_82.2.2.2.2.2.2.2.1, (upd w_82.2.2.2.2.2.2.2.2.1 v3_69.toNatClampNeg p_149), w_82.2.2.2.2.2.2.2.2.2.1, w_82.2.2.2.2.2.2.2.2.2.2.1, w_82.2.2.2.2.2.2.2.2.2.2.2.1, w_82.2.2.2.2.2.2.2.2.2.2.2.2.1, w_82.2.2.2.2.2.2.2.2.2.2.2.2.2)) rfl dX6_brings_152 (fun H locs hW => ?_)
                                  refine lv_iinc (v := (v4_82 + (1 : Int32))) (lv' := [(4, .int (v4_82 + (1 : Int32))), (3, .int v3_69), (2, .int v2_61), (1, .int p_4), (0, .ref (q 0))]) hx hb dX6_brings_153 hl (k := 0) rfl rfl (by decide) rfl (fun ls hl => ?_)
                                  refine lv_goto (tgt := 82) hx hb dX6_brings_156 (by decide) ?_
                                  exact ih3 (v4_82 + (1 : Int32)) (w_82.1, w_82.2.1, w_82.2.2.1, w_82.2.2.2.1, w_82.2.2.2.2.1, w_82.2.2.2.2.2.1, w_82.2.2.2.2.2.2.1, w_82.2.2.2.2.2.2.2.1, (upd w_82.2.2.2.2.2.2.2.2.1 v3_69.toNatClampNeg p_149), w_82.2.2.2.2.2.2.2.2.2.1, w_82.2.2.2.2.2.2.2.2.2.2.1, w_82.2.2.2.2.2.2.2.2.2.2.2.1, w_82.2.2.2.2.2.2.2.2.2.2.2.2.1, w_82.2.2.2.2.2.2.2.2.2.2.2.2.2) _ _ _ h hW (lv_sub hl [0, 1, 2, 3, 4] rfl)
                    exact L3 200 (0 : Int32) w_69 _ _ _ h hW (lv_sub hl [0, 1, 2, 3, 4] rfl)
              exact L2 200 (0 : Int32) w_61 _ _ _ h hW (lv_sub hl [0, 1, 2, 3] rfl)
        exact L1 200 (0 : Int32) w_10 _ _ _ h hW (lv_sub hl [0, 1, 2] rfl)
      · have h := hf_17 c_17
        refine lv_aload_n hx hb dX6_brings_20 rfl (lv_at hl 2 rfl) ?_
        refine x_get F hW 0 rfl fa_X6_34 rfl dX6_brings_21 ?_
        refine lv_iload_n hx hb dX6_brings_24 rfl (lv_at hl 0 rfl) ?_
        refine lv_iload_n hx hb dX6_brings_25 rfl (lv_at hl 1 rfl) ?_
        refine lv_iload_n hx hb dX6_brings_26 rfl (lv_at hl 0 rfl) ?_
        obtain ⟨p_27, hc_27, h⟩ := of_bind h
        refine x_Si (av := [.int p_4, .int v2_10]) F hW (c_X6_has l G p_4 v2_10 _ hc_27) [] rfl rfl (by intro q; cases q) cs_X6_75 rfl rfl hl (Nat.le_of_ble_eq_true rfl) ⟨Nat.le_of_ble_eq_true rfl, Nat.le_of_ble_eq_true rfl⟩ ⟨rfl, rfl⟩ ⟨Nat.le_of_ble_eq_true rfl, Nat.le_of_ble_eq_true rfl⟩ dX6_brings_27 rfl [none, none, none, none, none, none, none, none, none, none] rfl (ws' := cMW G q w_10) rfl (fun H locs hW => ?_)
        obtain ⟨ht_30, hf_30⟩ := of_ite h
        refine lv_if_eq (tgt := 50) hx hb dX6_brings_30 (by decide) (fun c_30 => ?_) (fun c_30 => ?_)
        · have h := ht_30 c_30
          refine lv_ldc (v := (1000000000 : Int32)) hx hb hown (hts _ wd_1086) dX6_brings_50 ?_
          obtain ⟨g_52, h⟩ := of_guard h
          refine x_iast F hW 9 rfl g_52 (ws' := cMW G q (w_10.1, w_10.2.1, w_10.2.2.1, w_10.2.2.2.1, w_10.2.2.2.2.1, w_10.2.2.2.2.2.1, w_10.2.2.2.2.2.2.1, w_10.2.2.2.2.2.2.2.1, (upd w_10.2.2.2.2.2.2.2.2.1 v2_10.toNatClampNeg (1000000000 : Int32)), w_10.2.2.2.2.2.2.2.2.2.1, w_10.2.2.2.2.2.2.2.2.2.2.1, w_10.2.2.2.2.2.2.2.2.2.2.2.1, w_10.2.2.2.2.2.2.2.2.2.2.2.2.1, w_10.2.2.2.2.2.2.2.2.2.2.2.2.2)) rfl dX6_brings_52 (fun H locs hW => ?_)
          refine lv_iinc (v := (v2_10 + (1 : Int32))) (lv' := [(2, .int (v2_10 + (1 : Int32))), (1, .int p_4), (0, .ref (q 0))]) hx hb dX6_brings_53 hl (k := 0) rfl rfl (by decide) rfl (fun ls hl => ?_)
          refine lv_goto (tgt := 10) hx hb dX6_brings_56 (by decide) ?_
          exact ih0 (v2_10 + (1 : Int32)) (w_10.1, w_10.2.1, w_10.2.2.1, w_10.2.2.2.1, w_10.2.2.2.2.1, w_10.2.2.2.2.2.1, w_10.2.2.2.2.2.2.1, w_10.2.2.2.2.2.2.2.1, (upd w_10.2.2.2.2.2.2.2.2.1 v2_10.toNatClampNeg (1000000000 : Int32)), w_10.2.2.2.2.2.2.2.2.2.1, w_10.2.2.2.2.2.2.2.2.2.2.1, w_10.2.2.2.2.2.2.2.2.2.2.2.1, w_10.2.2.2.2.2.2.2.2.2.2.2.2.1, w_10.2.2.2.2.2.2.2.2.2.2.2.2.2) _ _ _ h hW (lv_sub hl [0, 1, 2] rfl)
        · have h := hf_30 c_30
          refine lv_aload_n hx hb dX6_brings_33 rfl (lv_at hl 2 rfl) ?_
          refine x_get F hW 0 rfl fa_X6_9 rfl dX6_brings_34 ?_
          refine lv_iload_n hx hb dX6_brings_37 rfl (lv_at hl 0 rfl) ?_
          refine lv_bipush (v := (99 : Int32)) hx hb dX6_brings_38 (by decide) ?_
          obtain ⟨p_40, hc_40, h⟩ := of_bind h
          refine x_Si (av := [.ref (q 1), .int v2_10, .int (99 : Int32)]) F hW (c_X6_doesSee l G (fun i => q (i + 1)) w_10.1 v2_10 (99 : Int32) _ hc_40) [1] rfl rfl (by intro q; cases q) cs_X6_79 rfl rfl hl (Nat.le_of_ble_eq_true rfl) ⟨Nat.le_of_ble_eq_true rfl, Nat.le_of_ble_eq_true rfl⟩ ⟨rfl, rfl⟩ ⟨Nat.le_of_ble_eq_true rfl, Nat.le_of_ble_eq_true rfl⟩ dX6_brings_40 rfl [none, some 0, none, none, none, none, none, none, none, none] rfl (ws' := cMW G q w_10) rfl (fun H locs hW => ?_)
          obtain ⟨ht_43, hf_43⟩ := of_ite h
          refine lv_if_eq (tgt := 50) hx hb dX6_brings_43 (by decide) (fun c_43 => ?_) (fun c_43 => ?_)
          · have h := ht_43 c_43
            refine lv_ldc (v := (1000000000 : Int32)) hx hb hown (hts _ wd_1086) dX6_brings_50 ?_
            obtain ⟨g_52, h⟩ := of_guard h
            refine x_iast F hW 9 rfl g_52 (ws' := cMW G q (w_10.1, w_10.2.1, w_10.2.2.1, w_10.2.2.2.1, w_10.2.2.2.2.1, w_10.2.2.2.2.2.1, w_10.2.2.2.2.2.2.1, w_10.2.2.2.2.2.2.2.1, (upd w_10.2.2.2.2.2.2.2.2.1 v2_10.toNatClampNeg (1000000000 : Int32)), w_10.2.2.2.2.2.2.2.2.2.1, w_10.2.2.2.2.2.2.2.2.2.2.1, w_10.2.2.2.2.2.2.2.2.2.2.2.1, w_10.2.2.2.2.2.2.2.2.2.2.2.2.1, w_10.2.2.2.2.2.2.2.2.2.2.2.2.2)) rfl dX6_brings_52 (fun H locs hW => ?_)
            refine lv_iinc (v := (v2_10 + (1 : Int32))) (lv' := [(2, .int (v2_10 + (1 : Int32))), (1, .int p_4), (0, .ref (q 0))]) hx hb dX6_brings_53 hl (k := 0) rfl rfl (by decide) rfl (fun ls hl => ?_)
            refine lv_goto (tgt := 10) hx hb dX6_brings_56 (by decide) ?_
            exact ih0 (v2_10 + (1 : Int32)) (w_10.1, w_10.2.1, w_10.2.2.1, w_10.2.2.2.1, w_10.2.2.2.2.1, w_10.2.2.2.2.2.1, w_10.2.2.2.2.2.2.1, w_10.2.2.2.2.2.2.2.1, (upd w_10.2.2.2.2.2.2.2.2.1 v2_10.toNatClampNeg (1000000000 : Int32)), w_10.2.2.2.2.2.2.2.2.2.1, w_10.2.2.2.2.2.2.2.2.2.2.1, w_10.2.2.2.2.2.2.2.2.2.2.2.1, w_10.2.2.2.2.2.2.2.2.2.2.2.2.1, w_10.2.2.2.2.2.2.2.2.2.2.2.2.2) _ _ _ h hW (lv_sub hl [0, 1, 2] rfl)
          · have h := hf_43 c_43
            refine lv_iconst (v := (1 : Int32)) hx hb dX6_brings_46 (by decide) ?_
            refine lv_goto (tgt := 52) hx hb dX6_brings_47 (by decide) ?_
            obtain ⟨g_52, h⟩ := of_guard h
            refine x_iast F hW 9 rfl g_52 (ws' := cMW G q (w_10.1, w_10.2.1, w_10.2.2.1, w_10.2.2.2.1, w_10.2.2.2.2.1, w_10.2.2.2.2.2.1, w_10.2.2.2.2.2.2.1, w_10.2.2.2.2.2.2.2.1, (upd w_10.2.2.2.2.2.2.2.2.1 v2_10.toNatClampNeg (1 : Int32)), w_10.2.2.2.2.2.2.2.2.2.1, w_10.2.2.2.2.2.2.2.2.2.2.1, w_10.2.2.2.2.2.2.2.2.2.2.2.1, w_10.2.2.2.2.2.2.2.2.2.2.2.2.1, w_10.2.2.2.2.2.2.2.2.2.2.2.2.2)) rfl dX6_brings_52 (fun H locs hW => ?_)
            refine lv_iinc (v := (v2_10 + (1 : Int32))) (lv' := [(2, .int (v2_10 + (1 : Int32))), (1, .int p_4), (0, .ref (q 0))]) hx hb dX6_brings_53 hl (k := 0) rfl rfl (by decide) rfl (fun ls hl => ?_)
            refine lv_goto (tgt := 10) hx hb dX6_brings_56 (by decide) ?_
            exact ih0 (v2_10 + (1 : Int32)) (w_10.1, w_10.2.1, w_10.2.2.1, w_10.2.2.2.1, w_10.2.2.2.2.1, w_10.2.2.2.2.2.1, w_10.2.2.2.2.2.2.1, w_10.2.2.2.2.2.2.2.1, (upd w_10.2.2.2.2.2.2.2.2.1 v2_10.toNatClampNeg (1 : Int32)), w_10.2.2.2.2.2.2.2.2.2.1, w_10.2.2.2.2.2.2.2.2.2.2.1, w_10.2.2.2.2.2.2.2.2.2.2.2.1, w_10.2.2.2.2.2.2.2.2.2.2.2.2.1, w_10.2.2.2.2.2.2.2.2.2.2.2.2.2) _ _ _ h hW (lv_sub hl [0, 1, 2] rfl)
  exact L0 200 (0 : Int32) w _ _ _ h hW (lv_sub hl [0, 1, 2] rfl)
def f_X6_nextOf_15 (w : MW) (x1 : Int32) : Nat → Int32 → Option (Int32)
  | 0, _ => none
  | n0 + 1, v2_15 =>
    if inR (0 : Int32) 71 then
    if (w.1 (0 : Int32).toNatClampNeg) ≤ v2_15 then
    some (-9 : Int32)
    else
    if v2_15 = x1 then
    f_X6_nextOf_15 w x1 n0 (v2_15 + (1 : Int32))
    else
    if inR v2_15 7 then
    if inR x1 7 then
    if (w.2.2.2.2.2.2.2.2.1 v2_15.toNatClampNeg) = ((w.2.2.2.2.2.2.2.2.1 x1.toNatClampNeg) - (1 : Int32)) then
    Option.bind (f_X6_doesSee w.1 x1 v2_15) fun p_53 =>
    if p_53 = 0 then
    f_X6_nextOf_15 w x1 n0 (v2_15 + (1 : Int32))
    else
    some v2_15
    else
    f_X6_nextOf_15 w x1 n0 (v2_15 + (1 : Int32))
    else none
    else none
    else none
def f_X6_nextOf (w : MW) (x1 : Int32) : Option (Int32) :=
  if inR x1 7 then
    if (w.2.2.2.2.2.2.2.2.1 x1.toNatClampNeg) = (1 : Int32) then
    some (7 : Int32)
    else
    f_X6_nextOf_15 w x1 200 (0 : Int32)
    else none
abbrev rmX6_nextOf : Room := { frames := 3, cells := 0, slots := 0, locals := 70 }
set_option maxRecDepth 100000 in
set_option maxHeartbeats 4000000 in
theorem c_X6_nextOf (l : Launch) (G : EnT) (q : Nat → Nat) (w : MW) (x1 : Int32) (o : Int32) (h : f_X6_nextOf w x1 = some o) : Mi l yX6_nextOf rmX6_nextOf cX6_nextOf 3 (some .int) G false [.ref (q 0), .int x1] (cMW G q w) o (cMW G q w) := by
  refine Mi_of (by decide) (Nat.le_of_ble_eq_true rfl) ?_
  intro p e s m below meth c A0 F hr hW ls hl
  obtain ⟨hx, hb, hml, hown, hts, hK, hNW, hlocks, hA, hSX⟩ := id F
  have hl : lv_has ls 3 [(0, .ref (q 0)), (1, .int x1)] := hl
  have hW : Wd G A0 s (cMW G q w) s.heap [] := hW
  show W p l e rmX6_nextOf s m ([.ref (q 0), .int x1] : List Value).toArray below meth c s.heap [] 0 0 (Qi below G (cMW G q w) o A0 ([.ref (q 0), .int x1] : List Value).toArray s) (F0 m 0 ls [])
  refine lv_aload_n hx hb dX6_nextOf_0 rfl (lv_at hl 0 rfl) ?_
  refine x_get F hW 0 rfl fa_X6_34 rfl dX6_nextOf_1 ?_
  refine lv_iload_n hx hb dX6_nextOf_4 rfl (lv_at hl 1 rfl) ?_
  obtain ⟨g_5, h⟩ := of_guard h
  refine x_iald F hW 9 rfl g_5 dX6_nextOf_5 ?_
  refine lv_iconst (v := (1 : Int32)) hx hb dX6_nextOf_6 (by decide) ?_
  obtain ⟨ht_7, hf_7⟩ := of_ite h
  refine lv_icmp_ne (tgt := 13) hx hb dX6_nextOf_7 (by decide) (fun c_7 => ?_) (fun c_7 => ?_)
  · have h := hf_7 c_7
    refine lv_iconst (v := (0 : Int32)) hx hb dX6_nextOf_13 (by decide) ?_
    refine lv_istore_n (lv' := [(2, .int (0 : Int32)), (0, .ref (q 0)), (1, .int x1)]) hx hb dX6_nextOf_14 rfl hl (by decide) rfl (fun ls hl => ?_)
    have L0 : ∀ (n0 : Nat) (v2_15 : Int32) (H : Heap) (locs : List Loc) (ls : Array Slot), f_X6_nextOf_15 w x1 n0 v2_15 = some o → Wd G A0 s (cMW G q w) H locs → lv_has ls 3 [(2, .int v2_15), (0, .ref (q 0)), (1, .int x1)] → W p l e rmX6_nextOf s m ([.ref (q 0), .int x1] : List Value).toArray below meth c H locs 0 0 (Qi below G (cMW G q w) o A0 ([.ref (q 0), .int x1] : List Value).toArray s) (F0 m 15 ls []) := by
      intro n0
      induction n0 with
      | zero => intro v2_15 H locs ls h; cases (show (none : Option (Int32)) = some o from h)
      | succ n0 ih0 =>
        intro v2_15 H locs ls h hW hl
        refine lv_iload_n hx hb dX6_nextOf_15 rfl (lv_at hl 0 rfl) ?_
        refine lv_aload_n hx hb dX6_nextOf_16 rfl (lv_at hl 1 rfl) ?_
        refine x_get F hW 0 rfl fa_X6_9 rfl dX6_nextOf_17 ?_
        refine lv_iconst (v := (0 : Int32)) hx hb dX6_nextOf_20 (by decide) ?_
        obtain ⟨g_21, h⟩ := of_guard h
        refine x_iald F hW 1 rfl g_21 dX6_nextOf_21 ?_
        obtain ⟨ht_22, hf_22⟩ := of_ite h
        refine lv_icmp_ge (tgt := 67) hx hb dX6_nextOf_22 (by decide) (fun c_22 => ?_) (fun c_22 => ?_)
        · have h := ht_22 c_22
          refine lv_bipush (v := (-9 : Int32)) hx hb dX6_nextOf_67 (by decide) ?_
          obtain rfl := Option.some.inj h
          exact x_reti F hr hW rfl dX6_nextOf_69
        · have h := hf_22 c_22
          refine lv_iload_n hx hb dX6_nextOf_25 rfl (lv_at hl 0 rfl) ?_
          refine lv_iload_n hx hb dX6_nextOf_26 rfl (lv_at hl 2 rfl) ?_
          obtain ⟨ht_27, hf_27⟩ := of_ite h
          refine lv_icmp_eq (tgt := 61) hx hb dX6_nextOf_27 (by decide) (fun c_27 => ?_) (fun c_27 => ?_)
          · have h := ht_27 c_27
            refine lv_iinc (v := (v2_15 + (1 : Int32))) (lv' := [(2, .int (v2_15 + (1 : Int32))), (0, .ref (q 0)), (1, .int x1)]) hx hb dX6_nextOf_61 hl (k := 0) rfl rfl (by decide) rfl (fun ls hl => ?_)
            refine lv_goto (tgt := 15) hx hb dX6_nextOf_64 (by decide) ?_
            exact ih0 (v2_15 + (1 : Int32)) _ _ _ h hW (lv_sub hl [0, 1, 2] rfl)
          · have h := hf_27 c_27
            refine lv_aload_n hx hb dX6_nextOf_30 rfl (lv_at hl 1 rfl) ?_
            refine x_get F hW 0 rfl fa_X6_34 rfl dX6_nextOf_31 ?_
            refine lv_iload_n hx hb dX6_nextOf_34 rfl (lv_at hl 0 rfl) ?_
            obtain ⟨g_35, h⟩ := of_guard h
            refine x_iald F hW 9 rfl g_35 dX6_nextOf_35 ?_
            refine lv_aload_n hx hb dX6_nextOf_36 rfl (lv_at hl 1 rfl) ?_
            refine x_get F hW 0 rfl fa_X6_34 rfl dX6_nextOf_37 ?_
            refine lv_iload_n hx hb dX6_nextOf_40 rfl (lv_at hl 2 rfl) ?_
            obtain ⟨g_41, h⟩ := of_guard h
            refine x_iald F hW 9 rfl g_41 dX6_nextOf_41 ?_
            refine lv_iconst (v := (1 : Int32)) hx hb dX6_nextOf_42 (by decide) ?_
            refine lv_isub hx hb dX6_nextOf_43 ?_
            obtain ⟨ht_44, hf_44⟩ := of_ite h
            refine lv_icmp_ne (tgt := 61) hx hb dX6_nextOf_44 (by decide) (fun c_44 => ?_) (fun c_44 => ?_)
            · have h := hf_44 c_44
              refine lv_iinc (v := (v2_15 + (1 : Int32))) (lv' := [(2, .int (v2_15 + (1 : Int32))), (0, .ref (q 0)), (1, .int x1)]) hx hb dX6_nextOf_61 hl (k := 0) rfl rfl (by decide) rfl (fun ls hl => ?_)
              refine lv_goto (tgt := 15) hx hb dX6_nextOf_64 (by decide) ?_
              exact ih0 (v2_15 + (1 : Int32)) _ _ _ h hW (lv_sub hl [0, 1, 2] rfl)
            · have h := ht_44 c_44
              refine lv_aload_n hx hb dX6_nextOf_47 rfl (lv_at hl 1 rfl) ?_
              refine x_get F hW 0 rfl fa_X6_9 rfl dX6_nextOf_48 ?_
              refine lv_iload_n hx hb dX6_nextOf_51 rfl (lv_at hl 2 rfl) ?_
              refine lv_iload_n hx hb dX6_nextOf_52 rfl (lv_at hl 0 rfl) ?_
              obtain ⟨p_53, hc_53, h⟩ := of_bind h
              refine x_Si (av := [.ref (q 1), .int x1, .int v2_15]) F hW (c_X6_doesSee l G (fun i => q (i + 1)) w.1 x1 v2_15 _ hc_53) [1] rfl rfl (by intro q; cases q) cs_X6_79 rfl rfl hl (Nat.le_of_ble_eq_true rfl) ⟨Nat.le_of_ble_eq_true rfl, Nat.le_of_ble_eq_true rfl⟩ ⟨rfl, rfl⟩ ⟨Nat.le_of_ble_eq_true rfl, Nat.le_of_ble_eq_true rfl⟩ dX6_nextOf_53 rfl [none, some 0, none, none, none, none, none, none, none, none] rfl (ws' := cMW G q w) rfl (fun H locs hW => ?_)
              obtain ⟨ht_56, hf_56⟩ := of_ite h
              refine lv_if_eq (tgt := 61) hx hb dX6_nextOf_56 (by decide) (fun c_56 => ?_) (fun c_56 => ?_)
              · have h := ht_56 c_56
                refine lv_iinc (v := (v2_15 + (1 : Int32))) (lv' := [(2, .int (v2_15 + (1 : Int32))), (0, .ref (q 0)), (1, .int x1)]) hx hb dX6_nextOf_61 hl (k := 0) rfl rfl (by decide) rfl (fun ls hl => ?_)
                refine lv_goto (tgt := 15) hx hb dX6_nextOf_64 (by decide) ?_
                exact ih0 (v2_15 + (1 : Int32)) _ _ _ h hW (lv_sub hl [0, 1, 2] rfl)
              · have h := hf_56 c_56
                refine lv_iload_n hx hb dX6_nextOf_59 rfl (lv_at hl 0 rfl) ?_
                obtain rfl := Option.some.inj h
                exact x_reti F hr hW rfl dX6_nextOf_60
    exact L0 200 (0 : Int32) _ _ _ h hW (lv_sub hl [0, 1, 2] rfl)
  · have h := ht_7 c_7
    refine lv_bipush (v := (7 : Int32)) hx hb dX6_nextOf_10 (by decide) ?_
    obtain rfl := Option.some.inj h
    exact x_reti F hr hW rfl dX6_nextOf_12
