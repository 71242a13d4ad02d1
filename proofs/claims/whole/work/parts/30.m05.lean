def f_X6_wicksThen_19 (x2 : Int32) (x1 : Int32) (t0_19 : Int32) (w_19 : MW) : Option (Int32 × MW) :=
  if t0_19 = 0 then
    Option.bind (f_X6_takes w_19 x2) fun p_32 =>
    nm p_32.1 fun x_35 =>
    Option.bind (f_X6_of x1 (3 : Int32)) fun p_43 =>
    if inR p_43 71 then
    some ((p_32.2.2.1 p_43.toNatClampNeg), p_32.2)
    else none
    else
    Option.bind (f_X6_no w_19 t0_19) fun p_26 =>
    some (p_26.1, p_26.2)
def f_X6_wicksThen (w : MW) (x1 : Int32) (x2 : Int32) : Option (Int32 × MW) :=
  Option.bind (f_X6_isHouse w x1) fun p_2 =>
    if p_2 = 0 then
    f_X6_wicksThen_19 x2 x1 (-1 : Int32) w
    else
    Option.bind (f_X6_wrongBy x2 (0 : Int32) (60 : Int32)) fun p_12 =>
    f_X6_wicksThen_19 x2 x1 p_12 w
abbrev rmX6_wicksThen : Room := { frames := 6, cells := 0, slots := 0, locals := 135 }
set_option maxRecDepth 100000 in
set_option maxHeartbeats 4000000 in
theorem c_X6_wicksThen (l : Launch) (G : EnT) (q : Nat → Nat) (w : MW) (x1 : Int32) (x2 : Int32) (o : Int32 × MW) (h : f_X6_wicksThen w x1 x2 = some o) : Mi l yX6_wicksThen rmX6_wicksThen cX6_wicksThen 5 (some .int) G false [.ref (q 0), .int x1, .int x2] (cMW G q w) o.1 (cMW G q o.2) := by
  refine Mi_of (by decide) (Nat.le_of_ble_eq_true rfl) ?_
  intro p e s m below meth c A0 F hr hW ls hl
  obtain ⟨hx, hb, hml, hown, hts, hK, hNW, hlocks, hA, hSX⟩ := id F
  have hl : lv_has ls 5 [(0, .ref (q 0)), (1, .int x1), (2, .int x2)] := hl
  have hW : Wd G A0 s (cMW G q w) s.heap [] := hW
  show W p l e rmX6_wicksThen s m ([.ref (q 0), .int x1, .int x2] : List Value).toArray below meth c s.heap [] 0 0 (Qi below G (cMW G q o.2) o.1 A0 ([.ref (q 0), .int x1, .int x2] : List Value).toArray s) (F0 m 0 ls [])
  have J0 : ∀ (t0_19 : Int32) (w_19 : MW) (H : Heap) (locs : List Loc) (ls : Array Slot), f_X6_wicksThen_19 x2 x1 t0_19 w_19 = some o → Wd G A0 s (cMW G q w_19) H locs → lv_has ls 5 [(0, .ref (q 0)), (1, .int x1), (2, .int x2)] → W p l e rmX6_wicksThen s m ([.ref (q 0), .int x1, .int x2] : List Value).toArray below meth c H locs 0 0 (Qi below G (cMW G q o.2) o.1 A0 ([.ref (q 0), .int x1, .int x2] : List Value).toArray s) (F0 m 19 ls [.int t0_19]) := by
    intro t0_19 w_19 H locs ls h hW hl
    refine lv_istore_n (lv' := [(3, .int t0_19), (0, .ref (q 0)), (1, .int x1), (2, .int x2)]) hx hb dX6_wicksThen_19 rfl hl (by decide) rfl (fun ls hl => ?_)
    refine lv_iload_n hx hb dX6_wicksThen_20 rfl (lv_at hl 0 rfl) ?_
    obtain ⟨ht_21, hf_21⟩ := of_ite h
    refine lv_if_eq (tgt := 30) hx hb dX6_wicksThen_21 (by decide) (fun c_21 => ?_) (fun c_21 => ?_)
    · have h := ht_21 c_21
      refine lv_aload_n hx hb dX6_wicksThen_30 rfl (lv_at hl 1 rfl) ?_
      refine lv_iload_n hx hb dX6_wicksThen_31 rfl (lv_at hl 3 rfl) ?_
      obtain ⟨p_32, hc_32, h⟩ := of_bind h
      refine x_Vi (av := [.ref (q 0), .int x2]) (As := [.int x2]) F hW (c_X6_takes l G q w_19 x2 _ hc_32) [0, 1, 2, 3, 4, 5, 6, 7, 8, 9] rfl rfl (by intro q; cases q) cv_X6_151 rfl ⟨_, rfl, rfl⟩ rfl rfl rfl hl (Nat.le_of_ble_eq_true rfl) ⟨Nat.le_of_ble_eq_true rfl, Nat.le_of_ble_eq_true rfl⟩ ⟨rfl, rfl⟩ ⟨Nat.le_of_ble_eq_true rfl, Nat.le_of_ble_eq_true rfl⟩ dX6_wicksThen_32 rfl [some 0, some 1, some 2, some 3, some 4, some 5, some 6, some 7, some 8, some 9] rfl (ws' := cMW G q p_32.2) rfl (fun H locs hW => ?_)
      obtain ⟨x_35, e_x_35, h⟩ := of_nm h
      refine x_topi e_x_35 ?_
      refine lv_istore (lv' := [(4, .int x_35), (3, .int t0_19), (0, .ref (q 0)), (1, .int x1), (2, .int x2)]) hx hb dX6_wicksThen_35 hl (by decide) rfl (fun ls hl => ?_)
      refine lv_aload_n hx hb dX6_wicksThen_37 rfl (lv_at hl 2 rfl) ?_
      refine x_get F hW 0 rfl fa_X6_13 rfl dX6_wicksThen_38 ?_
      refine lv_iload_n hx hb dX6_wicksThen_41 rfl (lv_at hl 3 rfl) ?_
      refine lv_iconst (v := (3 : Int32)) hx hb dX6_wicksThen_42 (by decide) ?_
      obtain ⟨p_43, hc_43, h⟩ := of_bind h
      refine x_Si (av := [.int x1, .int (3 : Int32)]) F hW (c_X6_of l G x1 (3 : Int32) _ hc_43) [] rfl rfl (by intro q; cases q) cs_X6_47 rfl rfl hl (Nat.le_of_ble_eq_true rfl) ⟨Nat.le_of_ble_eq_true rfl, Nat.le_of_ble_eq_true rfl⟩ ⟨rfl, rfl⟩ ⟨Nat.le_of_ble_eq_true rfl, Nat.le_of_ble_eq_true rfl⟩ dX6_wicksThen_43 rfl [none, none, none, none, none, none, none, none, none, none] rfl (ws' := cMW G q p_32.2) rfl (fun H locs hW => ?_)
      obtain ⟨g_46, h⟩ := of_guard h
      refine x_iald F hW 2 rfl g_46 dX6_wicksThen_46 ?_
      obtain rfl := Option.some.inj h
      exact x_reti F hr hW rfl dX6_wicksThen_47
    · have h := hf_21 c_21
      refine lv_aload_n hx hb dX6_wicksThen_24 rfl (lv_at hl 1 rfl) ?_
      refine lv_iload_n hx hb dX6_wicksThen_25 rfl (lv_at hl 0 rfl) ?_
      obtain ⟨p_26, hc_26, h⟩ := of_bind h
      refine x_Vi (av := [.ref (q 0), .int t0_19]) (As := [.int t0_19]) F hW (c_X6_no l G q w_19 t0_19 _ hc_26) [0, 1, 2, 3, 4, 5, 6, 7, 8, 9] rfl rfl (by intro q; cases q) cv_X6_39 rfl ⟨_, rfl, rfl⟩ rfl rfl rfl hl (Nat.le_of_ble_eq_true rfl) ⟨Nat.le_of_ble_eq_true rfl, Nat.le_of_ble_eq_true rfl⟩ ⟨rfl, rfl⟩ ⟨Nat.le_of_ble_eq_true rfl, Nat.le_of_ble_eq_true rfl⟩ dX6_wicksThen_26 rfl [some 0, some 1, some 2, some 3, some 4, some 5, some 6, some 7, some 8, some 9] rfl (ws' := cMW G q p_26.2) rfl (fun H locs hW => ?_)
      obtain rfl := Option.some.inj h
      exact x_reti F hr hW rfl dX6_wicksThen_29
  refine lv_aload_n hx hb dX6_wicksThen_0 rfl (lv_at hl 0 rfl) ?_
  refine lv_iload_n hx hb dX6_wicksThen_1 rfl (lv_at hl 1 rfl) ?_
  obtain ⟨p_2, hc_2, h⟩ := of_bind h
  refine x_Vi (av := [.ref (q 0), .int x1]) (As := [.int x1]) F hW (c_X6_isHouse l G q w x1 _ hc_2) [0, 1, 2, 3, 4, 5, 6, 7, 8, 9] rfl rfl (by intro q; cases q) cv_X6_122 rfl ⟨_, rfl, rfl⟩ rfl rfl rfl hl (Nat.le_of_ble_eq_true rfl) ⟨Nat.le_of_ble_eq_true rfl, Nat.le_of_ble_eq_true rfl⟩ ⟨rfl, rfl⟩ ⟨Nat.le_of_ble_eq_true rfl, Nat.le_of_ble_eq_true rfl⟩ dX6_wicksThen_2 rfl [some 0, some 1, some 2, some 3, some 4, some 5, some 6, some 7, some 8, some 9] rfl (ws' := cMW G q w) rfl (fun H locs hW => ?_)
  obtain ⟨ht_5, hf_5⟩ := of_ite h
  refine lv_if_eq (tgt := 18) hx hb dX6_wicksThen_5 (by decide) (fun c_5 => ?_) (fun c_5 => ?_)
  · have h := ht_5 c_5
    refine lv_iconst (v := (-1 : Int32)) hx hb dX6_wicksThen_18 (by decide) ?_
    exact J0 (-1 : Int32) w _ _ _ h hW (lv_sub hl [0, 1, 2] rfl)
  · have h := hf_5 c_5
    refine lv_iload_n hx hb dX6_wicksThen_8 rfl (lv_at hl 2 rfl) ?_
    refine lv_iconst (v := (0 : Int32)) hx hb dX6_wicksThen_9 (by decide) ?_
    refine lv_bipush (v := (60 : Int32)) hx hb dX6_wicksThen_10 (by decide) ?_
    obtain ⟨p_12, hc_12, h⟩ := of_bind h
    refine x_Si (av := [.int x2, .int (0 : Int32), .int (60 : Int32)]) F hW (c_X6_wrongBy l G x2 (0 : Int32) (60 : Int32) _ hc_12) [] rfl rfl (by intro q; cases q) cs_X6_141 rfl rfl hl (Nat.le_of_ble_eq_true rfl) ⟨Nat.le_of_ble_eq_true rfl, Nat.le_of_ble_eq_true rfl⟩ ⟨rfl, rfl⟩ ⟨Nat.le_of_ble_eq_true rfl, Nat.le_of_ble_eq_true rfl⟩ dX6_wicksThen_12 rfl [none, none, none, none, none, none, none, none, none, none] rfl (ws' := cMW G q w) rfl (fun H locs hW => ?_)
    refine lv_goto (tgt := 19) hx hb dX6_wicksThen_15 (by decide) ?_
    exact J0 p_12 w _ _ _ h hW (lv_sub hl [0, 1, 2] rfl)
def f_X6_darkOf_13 (x1 : Int32) : Nat → Int32 → MW → Option (Int32 × MW)
  | 0, _, _ => none
  | n0 + 1, v2_13, w_13 =>
    if (60 : Int32) < v2_13 then
    some ((-9 : Int32), w_13)
    else
    Option.bind (f_X6_hangIn w_13.2.1) fun p_23 =>
    Option.bind (f_X6_has p_23 x1) fun p_27 =>
    if p_27 = 0 then
    some (v2_13, w_13)
    else
    Option.bind (f_X6_night w_13.2.1) fun p_39 =>
    nm p_39.1 fun x_42 =>
    f_X6_darkOf_13 x1 n0 (v2_13 + (1 : Int32)) (w_13.1, p_39.2, w_13.2.2.1, w_13.2.2.2.1, w_13.2.2.2.2.1, w_13.2.2.2.2.2.1, w_13.2.2.2.2.2.2.1, w_13.2.2.2.2.2.2.2.1, w_13.2.2.2.2.2.2.2.2.1, w_13.2.2.2.2.2.2.2.2.2.1, w_13.2.2.2.2.2.2.2.2.2.2.1, w_13.2.2.2.2.2.2.2.2.2.2.2.1, w_13.2.2.2.2.2.2.2.2.2.2.2.2.1, w_13.2.2.2.2.2.2.2.2.2.2.2.2.2)
def f_X6_darkOf (w : MW) (x1 : Int32) : Option (Int32 × MW) :=
  Option.bind (f_X6_copies w.1 w.2.1) fun p_8 =>
    f_X6_darkOf_13 x1 200 (0 : Int32) (w.1, p_8, w.2.2.1, w.2.2.2.1, w.2.2.2.2.1, w.2.2.2.2.2.1, w.2.2.2.2.2.2.1, w.2.2.2.2.2.2.2.1, w.2.2.2.2.2.2.2.2.1, w.2.2.2.2.2.2.2.2.2.1, w.2.2.2.2.2.2.2.2.2.2.1, w.2.2.2.2.2.2.2.2.2.2.2.1, w.2.2.2.2.2.2.2.2.2.2.2.2.1, w.2.2.2.2.2.2.2.2.2.2.2.2.2)
abbrev rmX6_darkOf : Room := { frames := 5, cells := 0, slots := 0, locals := 115 }
set_option maxRecDepth 100000 in
set_option maxHeartbeats 4000000 in
theorem c_X6_darkOf (l : Launch) (G : EnT) (q : Nat → Nat) (w : MW) (x1 : Int32) (o : Int32 × MW) (h : f_X6_darkOf w x1 = some o) : Mi l yX6_darkOf rmX6_darkOf cX6_darkOf 4 (some .int) G false [.ref (q 0), .int x1] (cMW G q w) o.1 (cMW G q o.2) := by
  refine Mi_of (by decide) (Nat.le_of_ble_eq_true rfl) ?_
  intro p e s m below meth c A0 F hr hW ls hl
  obtain ⟨hx, hb, hml, hown, hts, hK, hNW, hlocks, hA, hSX⟩ := id F
  have hl : lv_has ls 4 [(0, .ref (q 0)), (1, .int x1)] := hl
  have hW : Wd G A0 s (cMW G q w) s.heap [] := hW
  show W p l e rmX6_darkOf s m ([.ref (q 0), .int x1] : List Value).toArray below meth c s.heap [] 0 0 (Qi below G (cMW G q o.2) o.1 A0 ([.ref (q 0), .int x1] : List Value).toArray s) (F0 m 0 ls [])
  refine lv_aload_n hx hb dX6_darkOf_0 rfl (lv_at hl 0 rfl) ?_
  refine x_get F hW 0 rfl fa_X6_9 rfl dX6_darkOf_1 ?_
  refine lv_aload_n hx hb dX6_darkOf_4 rfl (lv_at hl 0 rfl) ?_
  refine x_get F hW 0 rfl fa_X6_13 rfl dX6_darkOf_5 ?_
  obtain ⟨p_8, hc_8, h⟩ := of_bind h
  refine x_Sv (av := [.ref (q 1), .ref (q 2)]) F hW (c_X6_copies l G (fun i => q (i + 1)) w.1 (fun i => q (i + 2)) w.2.1 _ hc_8) [1, 2] rfl rfl (by intro q; cases q) cs_X6_134 rfl rfl hl (Nat.le_of_ble_eq_true rfl) ⟨Nat.le_of_ble_eq_true rfl, Nat.le_of_ble_eq_true rfl⟩ ⟨rfl, rfl⟩ ⟨Nat.le_of_ble_eq_true rfl, Nat.le_of_ble_eq_true rfl⟩ dX6_darkOf_8 rfl [none, some 0, some 1, none, none, none, none, none, none, none] rfl (ws' := cMW G q (w.1, p_8, w.2.2.1, w.2.2.2.1, w.2.2.2.2.1, w.2.2.2.2.2.1, w.2.2.2.2.2.2.1, w.2.2.2.2.2.2.2.1, w.2.2.2.2.2.2.2.2.1, w.2.2.2.2.2.2.2.2.2.1, w.2.2.2.2.2.2.2.2.2.2.1, w.2.2.2.2.2.2.2.2.2.2.2.1, w.2.2.2.2.2.2.2.2.2.2.2.2.1, w.2.2.2.2.2.2.2.2.2.2.2.2.2)) rfl (fun H locs hW => ?_)
  refine lv_iconst (v := (0 : Int32)) hx hb dX6_darkOf_11 (by decide) ?_
  refine lv_istore_n (lv' := [(2, .int (0 : Int32)), (0, .ref (q 0)), (1, .int x1)]) hx hb dX6_darkOf_12 rfl hl (by decide) rfl (fun ls hl => ?_)
  have L0 : ∀ (n0 : Nat) (v2_13 : Int32) (w_13 : MW) (H : Heap) (locs : List Loc) (ls : Array Slot), f_X6_darkOf_13 x1 n0 v2_13 w_13 = some o → Wd G A0 s (cMW G q w_13) H locs → lv_has ls 4 [(2, .int v2_13), (0, .ref (q 0)), (1, .int x1)] → W p l e rmX6_darkOf s m ([.ref (q 0), .int x1] : List Value).toArray below meth c H locs 0 0 (Qi below G (cMW G q o.2) o.1 A0 ([.ref (q 0), .int x1] : List Value).toArray s) (F0 m 13 ls []) := by
    intro n0
    induction n0 with
    | zero => intro v2_13 w_13 H locs ls h; cases (show (none : Option (Int32 × MW)) = some o from h)
    | succ n0 ih0 =>
      intro v2_13 w_13 H locs ls h hW hl
      refine lv_iload_n hx hb dX6_darkOf_13 rfl (lv_at hl 0 rfl) ?_
      refine lv_bipush (v := (60 : Int32)) hx hb dX6_darkOf_14 (by decide) ?_
      obtain ⟨ht_16, hf_16⟩ := of_ite h
      refine lv_icmp_gt (tgt := 49) hx hb dX6_darkOf_16 (by decide) (fun c_16 => ?_) (fun c_16 => ?_)
      · have h := ht_16 c_16
        refine lv_bipush (v := (-9 : Int32)) hx hb dX6_darkOf_49 (by decide) ?_
        obtain rfl := Option.some.inj h
        exact x_reti F hr hW rfl dX6_darkOf_51
      · have h := hf_16 c_16
        refine lv_aload_n hx hb dX6_darkOf_19 rfl (lv_at hl 1 rfl) ?_
        refine x_get F hW 0 rfl fa_X6_13 rfl dX6_darkOf_20 ?_
        obtain ⟨p_23, hc_23, h⟩ := of_bind h
        refine x_Si (av := [.ref (q 2)]) F hW (c_X6_hangIn l G (fun i => q (i + 2)) w_13.2.1 _ hc_23) [2] rfl rfl (by intro q; cases q) cs_X6_145 rfl rfl hl (Nat.le_of_ble_eq_true rfl) ⟨Nat.le_of_ble_eq_true rfl, Nat.le_of_ble_eq_true rfl⟩ ⟨rfl, rfl⟩ ⟨Nat.le_of_ble_eq_true rfl, Nat.le_of_ble_eq_true rfl⟩ dX6_darkOf_23 rfl [none, none, some 0, none, none, none, none, none, none, none] rfl (ws' := cMW G q w_13) rfl (fun H locs hW => ?_)
        refine lv_iload_n hx hb dX6_darkOf_26 rfl (lv_at hl 2 rfl) ?_
        obtain ⟨p_27, hc_27, h⟩ := of_bind h
        refine x_Si (av := [.int p_23, .int x1]) F hW (c_X6_has l G p_23 x1 _ hc_27) [] rfl rfl (by intro q; cases q) cs_X6_75 rfl rfl hl (Nat.le_of_ble_eq_true rfl) ⟨Nat.le_of_ble_eq_true rfl, Nat.le_of_ble_eq_true rfl⟩ ⟨rfl, rfl⟩ ⟨Nat.le_of_ble_eq_true rfl, Nat.le_of_ble_eq_true rfl⟩ dX6_darkOf_27 rfl [none, none, none, none, none, none, none, none, none, none] rfl (ws' := cMW G q w_13) rfl (fun H locs hW => ?_)
        obtain ⟨ht_30, hf_30⟩ := of_ite h
        refine lv_if_ne (tgt := 35) hx hb dX6_darkOf_30 (by decide) (fun c_30 => ?_) (fun c_30 => ?_)
        · have h := hf_30 c_30
          refine lv_aload_n hx hb dX6_darkOf_35 rfl (lv_at hl 1 rfl) ?_
          refine x_get F hW 0 rfl fa_X6_13 rfl dX6_darkOf_36 ?_
          obtain ⟨p_39, hc_39, h⟩ := of_bind h
          refine x_Si (av := [.ref (q 2)]) F hW (c_X6_night l G (fun i => q (i + 2)) w_13.2.1 _ hc_39) [2] rfl rfl (by intro q; cases q) cs_X6_90 rfl rfl hl (Nat.le_of_ble_eq_true rfl) ⟨Nat.le_of_ble_eq_true rfl, Nat.le_of_ble_eq_true rfl⟩ ⟨rfl, rfl⟩ ⟨Nat.le_of_ble_eq_true rfl, Nat.le_of_ble_eq_true rfl⟩ dX6_darkOf_39 rfl [none, none, some 0, none, none, none, none, none, none, none] rfl (ws' := cMW G q (w_13.1, p_39.2, w_13.2.2.1, w_13.2.2.2.1, w_13.2.2.2.2.1, w_13.2.2.2.2.2.1, w_13.2.2.2.2.2.2.1, w_13.2.2.2.2.2.2.2.1, w_13.2.2.2.2.2.2.2.2.1, w_13.2.2.2.2.2.2.2.2.2.1, w_13.2.2.2.2.2.2.2.2.2.2.1, w_13.2.2.2.2.2.2.2.2.2.2.2.1, w_13.2.2.2.2.2.2.2.2.2.2.2.2.1, w_13.2.2.2.2.2.2.2.2.2.2.2.2.2)) rfl (fun H locs hW => ?_)
          obtain ⟨x_42, e_x_42, h⟩ := of_nm h
          refine x_topi e_x_42 ?_
          refine lv_istore_n (lv' := [(3, .int x_42), (2, .int v2_13), (0, .ref (q 0)), (1, .int x1)]) hx hb dX6_darkOf_42 rfl hl (by decide) rfl (fun ls hl => ?_)
          refine lv_iinc (v := (v2_13 + (1 : Int32))) (lv' := [(2, .int (v2_13 + (1 : Int32))), (3, .int x_42), (0, .ref (q 0)), (1, .int x1)]) hx hb dX6_darkOf_43 hl (k := 1) rfl rfl (by decide) rfl (fun ls hl => ?_)
          refine lv_goto (tgt := 13) hx hb dX6_darkOf_46 (by decide) ?_
          exact ih0 (v2_13 + (1 : Int32)) (w_13.1, p_39.2, w_13.2.2.1, w_13.2.2.2.1, w_13.2.2.2.2.1, w_13.2.2.2.2.2.1, w_13.2.2.2.2.2.2.1, w_13.2.2.2.2.2.2.2.1, w_13.2.2.2.2.2.2.2.2.1, w_13.2.2.2.2.2.2.2.2.2.1, w_13.2.2.2.2.2.2.2.2.2.2.1, w_13.2.2.2.2.2.2.2.2.2.2.2.1, w_13.2.2.2.2.2.2.2.2.2.2.2.2.1, w_13.2.2.2.2.2.2.2.2.2.2.2.2.2) _ _ _ h hW (lv_sub hl [0, 2, 3] rfl)
        · have h := ht_30 c_30
          refine lv_iload_n hx hb dX6_darkOf_33 rfl (lv_at hl 0 rfl) ?_
          obtain rfl := Option.some.inj h
          exact x_reti F hr hW rfl dX6_darkOf_34
  exact L0 200 (0 : Int32) (w.1, p_8, w.2.2.1, w.2.2.2.1, w.2.2.2.2.1, w.2.2.2.2.2.1, w.2.2.2.2.2.2.1, w.2.2.2.2.2.2.2.1, w.2.2.2.2.2.2.2.2.1, w.2.2.2.2.2.2.2.2.2.1, w.2.2.2.2.2.2.2.2.2.2.1, w.2.2.2.2.2.2.2.2.2.2.2.1, w.2.2.2.2.2.2.2.2.2.2.2.2.1, w.2.2.2.2.2.2.2.2.2.2.2.2.2) _ _ _ h hW (lv_sub hl [0, 1, 2] rfl)
def f_X6_dark (w : MW) (x1 : Int32) : Option (Int32 × MW) :=
  Option.bind (f_X6_isHouse w x1) fun p_2 =>
    if p_2 = 0 then
    Option.bind (f_X6_no w (-1 : Int32)) fun p_18 =>
    some (p_18.1, p_18.2)
    else
    Option.bind (f_X6_darkOf w x1) fun p_10 =>
    some (p_10.1, p_10.2)
abbrev rmX6_dark : Room := { frames := 6, cells := 0, slots := 0, locals := 138 }
set_option maxRecDepth 100000 in
set_option maxHeartbeats 4000000 in
theorem c_X6_dark (l : Launch) (G : EnT) (q : Nat → Nat) (w : MW) (x1 : Int32) (o : Int32 × MW) (h : f_X6_dark w x1 = some o) : Mi l yX6_dark rmX6_dark cX6_dark 2 (some .int) G false [.ref (q 0), .int x1] (cMW G q w) o.1 (cMW G q o.2) := by
  refine Mi_of (by decide) (Nat.le_of_ble_eq_true rfl) ?_
  intro p e s m below meth c A0 F hr hW ls hl
  obtain ⟨hx, hb, hml, hown, hts, hK, hNW, hlocks, hA, hSX⟩ := id F
  have hl : lv_has ls 2 [(0, .ref (q 0)), (1, .int x1)] := hl
  have hW : Wd G A0 s (cMW G q w) s.heap [] := hW
  show W p l e rmX6_dark s m ([.ref (q 0), .int x1] : List Value).toArray below meth c s.heap [] 0 0 (Qi below G (cMW G q o.2) o.1 A0 ([.ref (q 0), .int x1] : List Value).toArray s) (F0 m 0 ls [])
  refine lv_aload_n hx hb dX6_dark_0 rfl (lv_at hl 0 rfl) ?_
  refine lv_iload_n hx hb dX6_dark_1 rfl (lv_at hl 1 rfl) ?_
  obtain ⟨p_2, hc_2, h⟩ := of_bind h
  refine x_Vi (av := [.ref (q 0), .int x1]) (As := [.int x1]) F hW (c_X6_isHouse l G q w x1 _ hc_2) [0, 1, 2, 3, 4, 5, 6, 7, 8, 9] rfl rfl (by intro q; cases q) cv_X6_122 rfl ⟨_, rfl, rfl⟩ rfl rfl rfl hl (Nat.le_of_ble_eq_true rfl) ⟨Nat.le_of_ble_eq_true rfl, Nat.le_of_ble_eq_true rfl⟩ ⟨rfl, rfl⟩ ⟨Nat.le_of_ble_eq_true rfl, Nat.le_of_ble_eq_true rfl⟩ dX6_dark_2 rfl [some 0, some 1, some 2, some 3, some 4, some 5, some 6, some 7, some 8, some 9] rfl (ws' := cMW G q w) rfl (fun H locs hW => ?_)
  obtain ⟨ht_5, hf_5⟩ := of_ite h
  refine lv_if_eq (tgt := 16) hx hb dX6_dark_5 (by decide) (fun c_5 => ?_) (fun c_5 => ?_)
  · have h := ht_5 c_5
    refine lv_aload_n hx hb dX6_dark_16 rfl (lv_at hl 0 rfl) ?_
    refine lv_iconst (v := (-1 : Int32)) hx hb dX6_dark_17 (by decide) ?_
    obtain ⟨p_18, hc_18, h⟩ := of_bind h
    refine x_Vi (av := [.ref (q 0), .int (-1 : Int32)]) (As := [.int (-1 : Int32)]) F hW (c_X6_no l G q w (-1 : Int32) _ hc_18) [0, 1, 2, 3, 4, 5, 6, 7, 8, 9] rfl rfl (by intro q; cases q) cv_X6_39 rfl ⟨_, rfl, rfl⟩ rfl rfl rfl hl (Nat.le_of_ble_eq_true rfl) ⟨Nat.le_of_ble_eq_true rfl, Nat.le_of_ble_eq_true rfl⟩ ⟨rfl, rfl⟩ ⟨Nat.le_of_ble_eq_true rfl, Nat.le_of_ble_eq_true rfl⟩ dX6_dark_18 rfl [some 0, some 1, some 2, some 3, some 4, some 5, some 6, some 7, some 8, some 9] rfl (ws' := cMW G q p_18.2) rfl (fun H locs hW => ?_)
    obtain rfl := Option.some.inj h
    exact x_reti F hr hW rfl dX6_dark_21
  · have h := hf_5 c_5
    refine lv_aload_n hx hb dX6_dark_8 rfl (lv_at hl 0 rfl) ?_
    refine lv_iload_n hx hb dX6_dark_9 rfl (lv_at hl 1 rfl) ?_
    obtain ⟨p_10, hc_10, h⟩ := of_bind h
    refine x_Vi (av := [.ref (q 0), .int x1]) (As := [.int x1]) F hW (c_X6_darkOf l G q w x1 _ hc_10) [0, 1, 2, 3, 4, 5, 6, 7, 8, 9] rfl rfl (by intro q; cases q) cv_X6_154 rfl ⟨_, rfl, rfl⟩ rfl rfl rfl hl (Nat.le_of_ble_eq_true rfl) ⟨Nat.le_of_ble_eq_true rfl, Nat.le_of_ble_eq_true rfl⟩ ⟨rfl, rfl⟩ ⟨Nat.le_of_ble_eq_true rfl, Nat.le_of_ble_eq_true rfl⟩ dX6_dark_10 rfl [some 0, some 1, some 2, some 3, some 4, some 5, some 6, some 7, some 8, some 9] rfl (ws' := cMW G q p_10.2) rfl (fun H locs hW => ?_)
    refine lv_goto (tgt := 21) hx hb dX6_dark_13 (by decide) ?_
    obtain rfl := Option.some.inj h
    exact x_reti F hr hW rfl dX6_dark_21
def f_X6_firstDark_48 (k0 : Int32 → Int32 → Int32 → MW → Option (Int32 × MW)) (v4_48 : Int32) (v3_48 : Int32) (v2_48 : Int32) (t0_48 : Int32) (w_48 : MW) : Option (Int32 × MW) :=
  if t0_48 < 0 then
    k0 (v4_48 + (1 : Int32)) v3_48 v2_48 w_48
    else
    if t0_48 < v3_48 then
    k0 (v4_48 + (1 : Int32)) t0_48 v4_48 w_48
    else
    k0 (v4_48 + (1 : Int32)) v3_48 v2_48 w_48
def f_X6_firstDark_17 (p_4 : Int32) : Nat → Int32 → Int32 → Int32 → MW → Option (Int32 × MW)
  | 0, _, _, _, _ => none
  | n0 + 1, v4_17, v3_17, v2_17, w_17 =>
    if inR (0 : Int32) 71 then
    if (w_17.1 (0 : Int32).toNatClampNeg) ≤ v4_17 then
    some (v2_17, w_17)
    else
    Option.bind (f_X6_has p_4 v4_17) fun p_31 =>
    if p_31 = 0 then
    f_X6_firstDark_48 (fun a0 a1 a2 a3 => f_X6_firstDark_17 p_4 n0 a0 a1 a2 a3) v4_17 v3_17 v2_17 (-9 : Int32) w_17
    else
    Option.bind (f_X6_darkOf w_17 v4_17) fun p_40 =>
    f_X6_firstDark_48 (fun a0 a1 a2 a3 => f_X6_firstDark_17 p_4 n0 a0 a1 a2 a3) v4_17 v3_17 v2_17 p_40.1 p_40.2
    else none
def f_X6_firstDark (w : MW) : Option (Int32 × MW) :=
  Option.bind (f_X6_hangIn w.1) fun p_4 =>
    f_X6_firstDark_17 p_4 200 (0 : Int32) (1000000000 : Int32) (-9 : Int32) w
abbrev rmX6_firstDark : Room := { frames := 6, cells := 0, slots := 0, locals := 138 }
set_option maxRecDepth 100000 in
set_option maxHeartbeats 4000000 in
theorem c_X6_firstDark (l : Launch) (G : EnT) (q : Nat → Nat) (w : MW) (o : Int32 × MW) (h : f_X6_firstDark w = some o) : Mi l yX6_firstDark rmX6_firstDark cX6_firstDark 6 (some .int) G false [.ref (q 0)] (cMW G q w) o.1 (cMW G q o.2) := by
  refine Mi_of (by decide) (Nat.le_of_ble_eq_true rfl) ?_
  intro p e s m below meth c A0 F hr hW ls hl
  obtain ⟨hx, hb, hml, hown, hts, hK, hNW, hlocks, hA, hSX⟩ := id F
  have hl : lv_has ls 6 [(0, .ref (q 0))] := hl
  have hW : Wd G A0 s (cMW G q w) s.heap [] := hW
  show W p l e rmX6_firstDark s m ([.ref (q 0)] : List Value).toArray below meth c s.heap [] 0 0 (Qi below G (cMW G q o.2) o.1 A0 ([.ref (q 0)] : List Value).toArray s) (F0 m 0 ls [])
  refine lv_aload_n hx hb dX6_firstDark_0 rfl (lv_at hl 0 rfl) ?_
  refine x_get F hW 0 rfl fa_X6_9 rfl dX6_firstDark_1 ?_
  obtain ⟨p_4, hc_4, h⟩ := of_bind h
  refine x_Si (av := [.ref (q 1)]) F hW (c_X6_hangIn l G (fun i => q (i + 1)) w.1 _ hc_4) [1] rfl rfl (by intro q; cases q) cs_X6_145 rfl rfl hl (Nat.le_of_ble_eq_true rfl) ⟨Nat.le_of_ble_eq_true rfl, Nat.le_of_ble_eq_true rfl⟩ ⟨rfl, rfl⟩ ⟨Nat.le_of_ble_eq_true rfl, Nat.le_of_ble_eq_true rfl⟩ dX6_firstDark_4 rfl [none, some 0, none, none, none, none, none, none, none, none] rfl (ws' := cMW G q w) rfl (fun H locs hW => ?_)
  refine lv_istore_n (lv' := [(1, .int p_4), (0, .ref (q 0))]) hx hb dX6_firstDark_7 rfl hl (by decide) rfl (fun ls hl => ?_)
  refine lv_bipush (v := (-9 : Int32)) hx hb dX6_firstDark_8 (by decide) ?_
  refine lv_istore_n (lv' := [(2, .int (-9 : Int32)), (1, .int p_4), (0, .ref (q 0))]) hx hb dX6_firstDark_10 rfl hl (by decide) rfl (fun ls hl => ?_)
  refine lv_ldc (v := (1000000000 : Int32)) hx hb hown (hts _ wd_1086) dX6_firstDark_11 ?_
  refine lv_istore_n (lv' := [(3, .int (1000000000 : Int32)), (2, .int (-9 : Int32)), (1, .int p_4), (0, .ref (q 0))]) hx hb dX6_firstDark_13 rfl hl (by decide) rfl (fun ls hl => ?_)
  refine lv_iconst (v := (0 : Int32)) hx hb dX6_firstDark_14 (by decide) ?_
  refine lv_istore (lv' := [(4, .int (0 : Int32)), (3, .int (1000000000 : Int32)), (2, .int (-9 : Int32)), (1, .int p_4), (0, .ref (q 0))]) hx hb dX6_firstDark_15 hl (by decide) rfl (fun ls hl => ?_)
  have L0 : ∀ (n0 : Nat) (v4_17 : Int32) (v3_17 : Int32) (v2_17 : Int32) (w_17 : MW) (H : Heap) (locs : List Loc) (ls : Array Slot), f_X6_firstDark_17 p_4 n0 v4_17 v3_17 v2_17 w_17 = some o → Wd G A0 s (cMW G q w_17) H locs → lv_has ls 6 [(4, .int v4_17), (3, .int v3_17), (2, .int v2_17), (1, .int p_4), (0, .ref (q 0))] → W p l e rmX6_firstDark s m ([.ref (q 0)] : List Value).toArray below meth c H locs 0 0 (Qi below G (cMW G q o.2) o.1 A0 ([.ref (q 0)] : List Value).toArray s) (F0 m 17 ls []) := by
    intro n0
    induction n0 with
    | zero => intro v4_17 v3_17 v2_17 w_17 H locs ls h; cases (show (none : Option (Int32 × MW)) = some o from h)
    | succ n0 ih0 =>
      intro v4_17 v3_17 v2_17 w_17 H locs ls h hW hl
      have J1 : ∀ (v4_48 : Int32) (v3_48 : Int32) (v2_48 : Int32) (t0_48 : Int32) (w_48 : MW) (H : Heap) (locs : List Loc) (ls : Array Slot), f_X6_firstDark_48 (fun a0 a1 a2 a3 => f_X6_firstDark_17 p_4 n0 a0 a1 a2 a3) v4_48 v3_48 v2_48 t0_48 w_48 = some o → Wd G A0 s (cMW G q w_48) H locs → lv_has ls 6 [(4, .int v4_48), (3, .int v3_48), (2, .int v2_48), (1, .int p_4), (0, .ref (q 0))] → W p l e rmX6_firstDark s m ([.ref (q 0)] : List Value).toArray below meth c H locs 0 0 (Qi below G (cMW G q o.2) o.1 A0 ([.ref (q 0)] : List Value).toArray s) (F0 m 48 ls [.int t0_48]) := by
        intro v4_48 v3_48 v2_48 t0_48 w_48 H locs ls h hW hl
        refine lv_istore (lv' := [(5, .int t0_48), (4, .int v4_48), (3, .int v3_48), (2, .int v2_48), (1, .int p_4), (0, .ref (q 0))]) hx hb dX6_firstDark_48 hl (by decide) rfl (fun ls hl => ?_)
        refine lv_iload hx hb dX6_firstDark_50 (lv_at hl 0 rfl) ?_
        obtain ⟨ht_52, hf_52⟩ := of_ite h
        refine lv_if_lt (tgt := 70) hx hb dX6_firstDark_52 (by decide) (fun c_52 => ?_) (fun c_52 => ?_)
        · have h := ht_52 c_52
          refine lv_iinc (v := (v4_48 + (1 : Int32))) (lv' := [(4, .int (v4_48 + (1 : Int32))), (5, .int t0_48), (3, .int v3_48), (2, .int v2_48), (1, .int p_4), (0, .ref (q 0))]) hx hb dX6_firstDark_70 hl (k := 1) rfl rfl (by decide) rfl (fun ls hl => ?_)
          refine lv_goto (tgt := 17) hx hb dX6_firstDark_73 (by decide) ?_
          exact ih0 (v4_48 + (1 : Int32)) v3_48 v2_48 w_48 _ _ _ h hW (lv_sub hl [0, 2, 3, 4, 5] rfl)
        · have h := hf_52 c_52
          refine lv_iload hx hb dX6_firstDark_55 (lv_at hl 0 rfl) ?_
          refine lv_iload_n hx hb dX6_firstDark_57 rfl (lv_at hl 2 rfl) ?_
          obtain ⟨ht_58, hf_58⟩ := of_ite h
          refine lv_icmp_lt (tgt := 64) hx hb dX6_firstDark_58 (by decide) (fun c_58 => ?_) (fun c_58 => ?_)
          · have h := ht_58 c_58
            refine lv_iload hx hb dX6_firstDark_64 (lv_at hl 1 rfl) ?_
            refine lv_istore_n (lv' := [(2, .int v4_48), (5, .int t0_48), (4, .int v4_48), (3, .int v3_48), (1, .int p_4), (0, .ref (q 0))]) hx hb dX6_firstDark_66 rfl hl (by decide) rfl (fun ls hl => ?_)
            refine lv_iload hx hb dX6_firstDark_67 (lv_at hl 1 rfl) ?_
            refine lv_istore_n (lv' := [(3, .int t0_48), (2, .int v4_48), (5, .int t0_48), (4, .int v4_48), (1, .int p_4), (0, .ref (q 0))]) hx hb dX6_firstDark_69 rfl hl (by decide) rfl (fun ls hl => ?_)
            refine lv_iinc (v := (v4_48 + (1 : Int32))) (lv' := [(4, .int (v4_48 + (1 : Int32))), (3, .int t0_48), (2, .int v4_48), (5, .int t0_48), (1, .int p_4), (0, .ref (q 0))]) hx hb dX6_firstDark_70 hl (k := 3) rfl rfl (by decide) rfl (fun ls hl => ?_)
            refine lv_goto (tgt := 17) hx hb dX6_firstDark_73 (by decide) ?_
            exact ih0 (v4_48 + (1 : Int32)) t0_48 v4_48 w_48 _ _ _ h hW (lv_sub hl [0, 1, 2, 4, 5] rfl)
          · have h := hf_58 c_58
            refine lv_goto (tgt := 70) hx hb dX6_firstDark_61 (by decide) ?_
            refine lv_iinc (v := (v4_48 + (1 : Int32))) (lv' := [(4, .int (v4_48 + (1 : Int32))), (5, .int t0_48), (3, .int v3_48), (2, .int v2_48), (1, .int p_4), (0, .ref (q 0))]) hx hb dX6_firstDark_70 hl (k := 1) rfl rfl (by decide) rfl (fun ls hl => ?_)
            refine lv_goto (tgt := 17) hx hb dX6_firstDark_73 (by decide) ?_
            exact ih0 (v4_48 + (1 : Int32)) v3_48 v2_48 w_48 _ _ _ h hW (lv_sub hl [0, 2, 3, 4, 5] rfl)
      refine lv_iload hx hb dX6_firstDark_17 (lv_at hl 0 rfl) ?_
      refine lv_aload_n hx hb dX6_firstDark_19 rfl (lv_at hl 4 rfl) ?_
      refine x_get F hW 0 rfl fa_X6_9 rfl dX6_firstDark_20 ?_
      refine lv_iconst (v := (0 : Int32)) hx hb dX6_firstDark_23 (by decide) ?_
      obtain ⟨g_24, h⟩ := of_guard h
      refine x_iald F hW 1 rfl g_24 dX6_firstDark_24 ?_
      obtain ⟨ht_25, hf_25⟩ := of_ite h
      refine lv_icmp_ge (tgt := 76) hx hb dX6_firstDark_25 (by decide) (fun c_25 => ?_) (fun c_25 => ?_)
      · have h := ht_25 c_25
        refine lv_iload_n hx hb dX6_firstDark_76 rfl (lv_at hl 2 rfl) ?_
        obtain rfl := Option.some.inj h
        exact x_reti F hr hW rfl dX6_firstDark_77
      · have h := hf_25 c_25
        refine lv_iload_n hx hb dX6_firstDark_28 rfl (lv_at hl 3 rfl) ?_
        refine lv_iload hx hb dX6_firstDark_29 (lv_at hl 0 rfl) ?_
        obtain ⟨p_31, hc_31, h⟩ := of_bind h
        refine x_Si (av := [.int p_4, .int v4_17]) F hW (c_X6_has l G p_4 v4_17 _ hc_31) [] rfl rfl (by intro q; cases q) cs_X6_75 rfl rfl hl (Nat.le_of_ble_eq_true rfl) ⟨Nat.le_of_ble_eq_true rfl, Nat.le_of_ble_eq_true rfl⟩ ⟨rfl, rfl⟩ ⟨Nat.le_of_ble_eq_true rfl, Nat.le_of_ble_eq_true rfl⟩ dX6_firstDark_31 rfl [none, none, none, none, none, none, none, none, none, none] rfl (ws' := cMW G q w_17) rfl (fun H locs hW => ?_)
        obtain ⟨ht_34, hf_34⟩ := of_ite h
        refine lv_if_eq (tgt := 46) hx hb dX6_firstDark_34 (by decide) (fun c_34 => ?_) (fun c_34 => ?_)
        · have h := ht_34 c_34
          refine lv_bipush (v := (-9 : Int32)) hx hb dX6_firstDark_46 (by decide) ?_
          exact J1 v4_17 v3_17 v2_17 (-9 : Int32) w_17 _ _ _ h hW (lv_sub hl [0, 1, 2, 3, 4] rfl)
        · have h := hf_34 c_34
          refine lv_aload_n hx hb dX6_firstDark_37 rfl (lv_at hl 4 rfl) ?_
          refine lv_iload hx hb dX6_firstDark_38 (lv_at hl 0 rfl) ?_
          obtain ⟨p_40, hc_40, h⟩ := of_bind h
          refine x_Vi (av := [.ref (q 0), .int v4_17]) (As := [.int v4_17]) F hW (c_X6_darkOf l G q w_17 v4_17 _ hc_40) [0, 1, 2, 3, 4, 5, 6, 7, 8, 9] rfl rfl (by intro q; cases q) cv_X6_154 rfl ⟨_, rfl, rfl⟩ rfl rfl rfl hl (Nat.le_of_ble_eq_true rfl) ⟨Nat.le_of_ble_eq_true rfl, Nat.le_of_ble_eq_true rfl⟩ ⟨rfl, rfl⟩ ⟨Nat.le_of_ble_eq_true rfl, Nat.le_of_ble_eq_true rfl⟩ dX6_firstDark_40 rfl [some 0, some 1, some 2, some 3, some 4, some 5, some 6, some 7, some 8, some 9] rfl (ws' := cMW G q p_40.2) rfl (fun H locs hW => ?_)
          refine lv_goto (tgt := 48) hx hb dX6_firstDark_43 (by decide) ?_
          exact J1 v4_17 v3_17 v2_17 p_40.1 p_40.2 _ _ _ h hW (lv_sub hl [0, 1, 2, 3, 4] rfl)
  exact L0 200 (0 : Int32) (1000000000 : Int32) (-9 : Int32) w _ _ _ h hW (lv_sub hl [0, 1, 2, 3, 4] rfl)
def f_X6_whole_13 : Nat → Int32 → MW → Option (Int32 × MW)
  | 0, _, _ => none
  | n0 + 1, v1_13, w_13 =>
    if (60 : Int32) < v1_13 then
    some ((-9 : Int32), w_13)
    else
    Option.bind (f_X6_hangIn w_13.2.1) fun p_23 =>
    Option.bind (f_X6_bits p_23) fun p_26 =>
    if inR (0 : Int32) 71 then
    if p_26 = (w_13.2.1 (0 : Int32).toNatClampNeg) then
    some (v1_13, w_13)
    else
    Option.bind (f_X6_night w_13.2.1) fun p_44 =>
    nm p_44.1 fun x_47 =>
    f_X6_whole_13 n0 (v1_13 + (1 : Int32)) (w_13.1, p_44.2, w_13.2.2.1, w_13.2.2.2.1, w_13.2.2.2.2.1, w_13.2.2.2.2.2.1, w_13.2.2.2.2.2.2.1, w_13.2.2.2.2.2.2.2.1, w_13.2.2.2.2.2.2.2.2.1, w_13.2.2.2.2.2.2.2.2.2.1, w_13.2.2.2.2.2.2.2.2.2.2.1, w_13.2.2.2.2.2.2.2.2.2.2.2.1, w_13.2.2.2.2.2.2.2.2.2.2.2.2.1, w_13.2.2.2.2.2.2.2.2.2.2.2.2.2)
    else none
def f_X6_whole (w : MW) : Option (Int32 × MW) :=
  Option.bind (f_X6_copies w.1 w.2.1) fun p_8 =>
    f_X6_whole_13 200 (0 : Int32) (w.1, p_8, w.2.2.1, w.2.2.2.1, w.2.2.2.2.1, w.2.2.2.2.2.1, w.2.2.2.2.2.2.1, w.2.2.2.2.2.2.2.1, w.2.2.2.2.2.2.2.2.1, w.2.2.2.2.2.2.2.2.2.1, w.2.2.2.2.2.2.2.2.2.2.1, w.2.2.2.2.2.2.2.2.2.2.2.1, w.2.2.2.2.2.2.2.2.2.2.2.2.1, w.2.2.2.2.2.2.2.2.2.2.2.2.2)
abbrev rmX6_whole : Room := { frames := 5, cells := 0, slots := 0, locals := 115 }
set_option maxRecDepth 100000 in
set_option maxHeartbeats 4000000 in
theorem c_X6_whole (l : Launch) (G : EnT) (q : Nat → Nat) (w : MW) (o : Int32 × MW) (h : f_X6_whole w = some o) : Mi l yX6_whole rmX6_whole cX6_whole 3 (some .int) G false [.ref (q 0)] (cMW G q w) o.1 (cMW G q o.2) := by
  refine Mi_of (by decide) (Nat.le_of_ble_eq_true rfl) ?_
  intro p e s m below meth c A0 F hr hW ls hl
  obtain ⟨hx, hb, hml, hown, hts, hK, hNW, hlocks, hA, hSX⟩ := id F
  have hl : lv_has ls 3 [(0, .ref (q 0))] := hl
  have hW : Wd G A0 s (cMW G q w) s.heap [] := hW
  show W p l e rmX6_whole s m ([.ref (q 0)] : List Value).toArray below meth c s.heap [] 0 0 (Qi below G (cMW G q o.2) o.1 A0 ([.ref (q 0)] : List Value).toArray s) (F0 m 0 ls [])
  refine lv_aload_n hx hb dX6_whole_0 rfl (lv_at hl 0 rfl) ?_
  refine x_get F hW 0 rfl fa_X6_9 rfl dX6_whole_1 ?_
  refine lv_aload_n hx hb dX6_whole_4 rfl (lv_at hl 0 rfl) ?_
  refine x_get F hW 0 rfl fa_X6_13 rfl dX6_whole_5 ?_
  obtain ⟨p_8, hc_8, h⟩ := of_bind h
  refine x_Sv (av := [.ref (q 1), .ref (q 2)]) F hW (c_X6_copies l G (fun i => q (i + 1)) w.1 (fun i => q (i + 2)) w.2.1 _ hc_8) [1, 2] rfl rfl (by intro q; cases q) cs_X6_134 rfl rfl hl (Nat.le_of_ble_eq_true rfl) ⟨Nat.le_of_ble_eq_true rfl, Nat.le_of_ble_eq_true rfl⟩ ⟨rfl, rfl⟩ ⟨Nat.le_of_ble_eq_true rfl, Nat.le_of_ble_eq_true rfl⟩ dX6_whole_8 rfl [none, some 0, some 1, none, none, none, none, none, none, none] rfl (ws' := cMW G q (w.1, p_8, w.2.2.1, w.2.2.2.1, w.2.2.2.2.1, w.2.2.2.2.2.1, w.2.2.2.2.2.2.1, w.2.2.2.2.2.2.2.1, w.2.2.2.2.2.2.2.2.1, w.2.2.2.2.2.2.2.2.2.1, w.2.2.2.2.2.2.2.2.2.2.1, w.2.2.2.2.2.2.2.2.2.2.2.1, w.2.2.2.2.2.2.2.2.2.2.2.2.1, w.2.2.2.2.2.2.2.2.2.2.2.2.2)) rfl (fun H locs hW => ?_)
  refine lv_iconst (v := (0 : Int32)) hx hb dX6_whole_11 (by decide) ?_
  refine lv_istore_n (lv' := [(1, .int (0 : Int32)), (0, .ref (q 0))]) hx hb dX6_whole_12 rfl hl (by decide) rfl (fun ls hl => ?_)
  have L0 : ∀ (n0 : Nat) (v1_13 : Int32) (w_13 : MW) (H : Heap) (locs : List Loc) (ls : Array Slot), f_X6_whole_13 n0 v1_13 w_13 = some o → Wd G A0 s (cMW G q w_13) H locs → lv_has ls 3 [(1, .int v1_13), (0, .ref (q 0))] → W p l e rmX6_whole s m ([.ref (q 0)] : List Value).toArray below meth c H locs 0 0 (Qi below G (cMW G q o.2) o.1 A0 ([.ref (q 0)] : List Value).toArray s) (F0 m 13 ls []) := by
    intro n0
    induction n0 with
    | zero => intro v1_13 w_13 H locs ls h; cases (show (none : Option (Int32 × MW)) = some o from h)
    | succ n0 ih0 =>
      intro v1_13 w_13 H locs ls h hW hl
      refine lv_iload_n hx hb dX6_whole_13 rfl (lv_at hl 0 rfl) ?_
      refine lv_bipush (v := (60 : Int32)) hx hb dX6_whole_14 (by decide) ?_
      obtain ⟨ht_16, hf_16⟩ := of_ite h
      refine lv_icmp_gt (tgt := 54) hx hb dX6_whole_16 (by decide) (fun c_16 => ?_) (fun c_16 => ?_)
      · have h := ht_16 c_16
        refine lv_bipush (v := (-9 : Int32)) hx hb dX6_whole_54 (by decide) ?_
        obtain rfl := Option.some.inj h
        exact x_reti F hr hW rfl dX6_whole_56
      · have h := hf_16 c_16
        refine lv_aload_n hx hb dX6_whole_19 rfl (lv_at hl 1 rfl) ?_
        refine x_get F hW 0 rfl fa_X6_13 rfl dX6_whole_20 ?_
        obtain ⟨p_23, hc_23, h⟩ := of_bind h
        refine x_Si (av := [.ref (q 2)]) F hW (c_X6_hangIn l G (fun i => q (i + 2)) w_13.2.1 _ hc_23) [2] rfl rfl (by intro q; cases q) cs_X6_145 rfl rfl hl (Nat.le_of_ble_eq_true rfl) ⟨Nat.le_of_ble_eq_true rfl, Nat.le_of_ble_eq_true rfl⟩ ⟨rfl, rfl⟩ ⟨Nat.le_of_ble_eq_true rfl, Nat.le_of_ble_eq_true rfl⟩ dX6_whole_23 rfl [none, none, some 0, none, none, none, none, none, none, none] rfl (ws' := cMW G q w_13) rfl (fun H locs hW => ?_)
        obtain ⟨p_26, hc_26, h⟩ := of_bind h
        refine x_Si (av := [.int p_23]) F hW (c_X6_bits l G p_23 _ hc_26) [] rfl rfl (by intro q; cases q) cs_X6_148 rfl rfl hl (Nat.le_of_ble_eq_true rfl) ⟨Nat.le_of_ble_eq_true rfl, Nat.le_of_ble_eq_true rfl⟩ ⟨rfl, rfl⟩ ⟨Nat.le_of_ble_eq_true rfl, Nat.le_of_ble_eq_true rfl⟩ dX6_whole_26 rfl [none, none, none, none, none, none, none, none, none, none] rfl (ws' := cMW G q w_13) rfl (fun H locs hW => ?_)
        refine lv_aload_n hx hb dX6_whole_29 rfl (lv_at hl 1 rfl) ?_
        refine x_get F hW 0 rfl fa_X6_13 rfl dX6_whole_30 ?_
        refine lv_iconst (v := (0 : Int32)) hx hb dX6_whole_33 (by decide) ?_
        obtain ⟨g_34, h⟩ := of_guard h
        refine x_iald F hW 2 rfl g_34 dX6_whole_34 ?_
        obtain ⟨ht_35, hf_35⟩ := of_ite h
        refine lv_icmp_ne (tgt := 40) hx hb dX6_whole_35 (by decide) (fun c_35 => ?_) (fun c_35 => ?_)
        · have h := hf_35 c_35
          refine lv_aload_n hx hb dX6_whole_40 rfl (lv_at hl 1 rfl) ?_
          refine x_get F hW 0 rfl fa_X6_13 rfl dX6_whole_41 ?_
          obtain ⟨p_44, hc_44, h⟩ := of_bind h
          refine x_Si (av := [.ref (q 2)]) F hW (c_X6_night l G (fun i => q (i + 2)) w_13.2.1 _ hc_44) [2] rfl rfl (by intro q; cases q) cs_X6_90 rfl rfl hl (Nat.le_of_ble_eq_true rfl) ⟨Nat.le_of_ble_eq_true rfl, Nat.le_of_ble_eq_true rfl⟩ ⟨rfl, rfl⟩ ⟨Nat.le_of_ble_eq_true rfl, Nat.le_of_ble_eq_true rfl⟩ dX6_whole_44 rfl [none, none, some 0, none, none, none, none, none, none, none] rfl (ws' := cMW G q (w_13.1, p_44.2, w_13.2.2.1, w_13.2.2.2.1, w_13.2.2.2.2.1, w_13.2.2.2.2.2.1, w_13.2.2.2.2.2.2.1, w_13.2.2.2.2.2.2.2.1, w_13.2.2.2.2.2.2.2.2.1, w_13.2.2.2.2.2.2.2.2.2.1, w_13.2.2.2.2.2.2.2.2.2.2.1, w_13.2.2.2.2.2.2.2.2.2.2.2.1, w_13.2.2.2.2.2.2.2.2.2.2.2.2.1, w_13.2.2.2.2.2.2.2.2.2.2.2.2.2)) rfl (fun H locs hW => ?_)
          obtain ⟨x_47, e_x_47, h⟩ := of_nm h
          refine x_topi e_x_47 ?_
          refine lv_istore_n (lv' := [(2, .int x_47), (1, .int v1_13), (0, .ref (q 0))]) hx hb dX6_whole_47 rfl hl (by decide) rfl (fun ls hl => ?_)
          refine lv_iinc (v := (v1_13 + (1 : Int32))) (lv' := [(1, .int (v1_13 + (1 : Int32))), (2, .int x_47), (0, .ref (q 0))]) hx hb dX6_whole_48 hl (k := 1) rfl rfl (by decide) rfl (fun ls hl => ?_)
          refine lv_goto (tgt := 13) hx hb dX6_whole_51 (by decide) ?_
          exact ih0 (v1_13 + (1 : Int32)) (w_13.1, p_44.2, w_13.2.2.1, w_13.2.2.2.1, w_13.2.2.2.2.1, w_13.2.2.2.2.2.1, w_13.2.2.2.2.2.2.1, w_13.2.2.2.2.2.2.2.1, w_13.2.2.2.2.2.2.2.2.1, w_13.2.2.2.2.2.2.2.2.2.1, w_13.2.2.2.2.2.2.2.2.2.2.1, w_13.2.2.2.2.2.2.2.2.2.2.2.1, w_13.2.2.2.2.2.2.2.2.2.2.2.2.1, w_13.2.2.2.2.2.2.2.2.2.2.2.2.2) _ _ _ h hW (lv_sub hl [0, 2] rfl)
        · have h := ht_35 c_35
          refine lv_iload_n hx hb dX6_whole_38 rfl (lv_at hl 0 rfl) ?_
          obtain rfl := Option.some.inj h
          exact x_reti F hr hW rfl dX6_whole_39
  exact L0 200 (0 : Int32) (w.1, p_8, w.2.2.1, w.2.2.2.1, w.2.2.2.2.1, w.2.2.2.2.2.1, w.2.2.2.2.2.2.1, w.2.2.2.2.2.2.2.1, w.2.2.2.2.2.2.2.2.1, w.2.2.2.2.2.2.2.2.2.1, w.2.2.2.2.2.2.2.2.2.2.1, w.2.2.2.2.2.2.2.2.2.2.2.1, w.2.2.2.2.2.2.2.2.2.2.2.2.1, w.2.2.2.2.2.2.2.2.2.2.2.2.2) _ _ _ h hW (lv_sub hl [0, 1] rfl)
def f_X6_first (w : MW) (x1 : Int32) : Option (Int32 × MW) :=
  if x1 = 0 then
    Option.bind (f_X6_firstDark w) fun p_5 =>
    some (p_5.1, p_5.2)
    else
    if x1 = (1 : Int32) then
    Option.bind (f_X6_whole w) fun p_17 =>
    some (p_17.1, p_17.2)
    else
    Option.bind (f_X6_no w (-2 : Int32)) fun p_26 =>
    some (p_26.1, p_26.2)
abbrev rmX6_first : Room := { frames := 7, cells := 0, slots := 0, locals := 163 }
set_option maxRecDepth 100000 in
set_option maxHeartbeats 4000000 in
theorem c_X6_first (l : Launch) (G : EnT) (q : Nat → Nat) (w : MW) (x1 : Int32) (o : Int32 × MW) (h : f_X6_first w x1 = some o) : Mi l yX6_first rmX6_first cX6_first 2 (some .int) G false [.ref (q 0), .int x1] (cMW G q w) o.1 (cMW G q o.2) := by
  refine Mi_of (by decide) (Nat.le_of_ble_eq_true rfl) ?_
  intro p e s m below meth c A0 F hr hW ls hl
  obtain ⟨hx, hb, hml, hown, hts, hK, hNW, hlocks, hA, hSX⟩ := id F
  have hl : lv_has ls 2 [(0, .ref (q 0)), (1, .int x1)] := hl
  have hW : Wd G A0 s (cMW G q w) s.heap [] := hW
  show W p l e rmX6_first s m ([.ref (q 0), .int x1] : List Value).toArray below meth c s.heap [] 0 0 (Qi below G (cMW G q o.2) o.1 A0 ([.ref (q 0), .int x1] : List Value).toArray s) (F0 m 0 ls [])
  refine lv_iload_n hx hb dX6_first_0 rfl (lv_at hl 1 rfl) ?_
  obtain ⟨ht_1, hf_1⟩ := of_ite h
  refine lv_if_ne (tgt := 11) hx hb dX6_first_1 (by decide) (fun c_1 => ?_) (fun c_1 => ?_)
  · have h := hf_1 c_1
    refine lv_iload_n hx hb dX6_first_11 rfl (lv_at hl 1 rfl) ?_
    refine lv_iconst (v := (1 : Int32)) hx hb dX6_first_12 (by decide) ?_
    obtain ⟨ht_13, hf_13⟩ := of_ite h
    refine lv_icmp_ne (tgt := 23) hx hb dX6_first_13 (by decide) (fun c_13 => ?_) (fun c_13 => ?_)
    · have h := hf_13 c_13
      refine lv_aload_n hx hb dX6_first_23 rfl (lv_at hl 0 rfl) ?_
      refine lv_bipush (v := (-2 : Int32)) hx hb dX6_first_24 (by decide) ?_
      obtain ⟨p_26, hc_26, h⟩ := of_bind h
      refine x_Vi (av := [.ref (q 0), .int (-2 : Int32)]) (As := [.int (-2 : Int32)]) F hW (c_X6_no l G q w (-2 : Int32) _ hc_26) [0, 1, 2, 3, 4, 5, 6, 7, 8, 9] rfl rfl (by intro q; cases q) cv_X6_39 rfl ⟨_, rfl, rfl⟩ rfl rfl rfl hl (Nat.le_of_ble_eq_true rfl) ⟨Nat.le_of_ble_eq_true rfl, Nat.le_of_ble_eq_true rfl⟩ ⟨rfl, rfl⟩ ⟨Nat.le_of_ble_eq_true rfl, Nat.le_of_ble_eq_true rfl⟩ dX6_first_26 rfl [some 0, some 1, some 2, some 3, some 4, some 5, some 6, some 7, some 8, some 9] rfl (ws' := cMW G q p_26.2) rfl (fun H locs hW => ?_)
      obtain rfl := Option.some.inj h
      exact x_reti F hr hW rfl dX6_first_29
    · have h := ht_13 c_13
      refine lv_aload_n hx hb dX6_first_16 rfl (lv_at hl 0 rfl) ?_
      obtain ⟨p_17, hc_17, h⟩ := of_bind h
      refine x_Vi (av := [.ref (q 0)]) (As := []) F hW (c_X6_whole l G q w _ hc_17) [0, 1, 2, 3, 4, 5, 6, 7, 8, 9] rfl rfl (by intro q; cases q) cv_X6_161 rfl ⟨_, rfl, rfl⟩ rfl rfl rfl hl (Nat.le_of_ble_eq_true rfl) ⟨Nat.le_of_ble_eq_true rfl, Nat.le_of_ble_eq_true rfl⟩ ⟨rfl, rfl⟩ ⟨Nat.le_of_ble_eq_true rfl, Nat.le_of_ble_eq_true rfl⟩ dX6_first_17 rfl [some 0, some 1, some 2, some 3, some 4, some 5, some 6, some 7, some 8, some 9] rfl (ws' := cMW G q p_17.2) rfl (fun H locs hW => ?_)
      refine lv_goto (tgt := 29) hx hb dX6_first_20 (by decide) ?_
      obtain rfl := Option.some.inj h
      exact x_reti F hr hW rfl dX6_first_29
  · have h := ht_1 c_1
    refine lv_aload_n hx hb dX6_first_4 rfl (lv_at hl 0 rfl) ?_
    obtain ⟨p_5, hc_5, h⟩ := of_bind h
    refine x_Vi (av := [.ref (q 0)]) (As := []) F hW (c_X6_firstDark l G q w _ hc_5) [0, 1, 2, 3, 4, 5, 6, 7, 8, 9] rfl rfl (by intro q; cases q) cv_X6_158 rfl ⟨_, rfl, rfl⟩ rfl rfl rfl hl (Nat.le_of_ble_eq_true rfl) ⟨Nat.le_of_ble_eq_true rfl, Nat.le_of_ble_eq_true rfl⟩ ⟨rfl, rfl⟩ ⟨Nat.le_of_ble_eq_true rfl, Nat.le_of_ble_eq_true rfl⟩ dX6_first_5 rfl [some 0, some 1, some 2, some 3, some 4, some 5, some 6, some 7, some 8, some 9] rfl (ws' := cMW G q p_5.2) rfl (fun H locs hW => ?_)
    refine lv_goto (tgt := 29) hx hb dX6_first_8 (by decide) ?_
    obtain rfl := Option.some.inj h
    exact x_reti F hr hW rfl dX6_first_29
def f_X6_sees_37 (w_34 : MW) (x1 : Int32) : Nat → Int32 → Int32 → Option (Int32 × MW)
  | 0, _, _ => none
  | n1 + 1, v3_37, v2_37 =>
    if inR (0 : Int32) 71 then
    if (w_34.1 (0 : Int32).toNatClampNeg) ≤ v3_37 then
    some (v2_37, w_34)
    else
    if v3_37 = x1 then
    nm (v2_37 ||| (0 : Int32)) fun x_73 =>
    f_X6_sees_37 w_34 x1 n1 (v3_37 + (1 : Int32)) x_73
    else
    Option.bind (f_X6_doesSee w_34.1 x1 v3_37) fun p_59 =>
    if p_59 = 0 then
    nm (v2_37 ||| (0 : Int32)) fun x_73_2 =>
    f_X6_sees_37 w_34 x1 n1 (v3_37 + (1 : Int32)) x_73_2
    else
    nm (v2_37 ||| ((1 : Int32) <<< (v3_37 &&& 31))) fun x_73_3 =>
    f_X6_sees_37 w_34 x1 n1 (v3_37 + (1 : Int32)) x_73_3
    else none
def f_X6_sees_34 (x1 : Int32) (t0_34 : Int32) (w_34 : MW) : Option (Int32 × MW) :=
  f_X6_sees_37 w_34 x1 200 (0 : Int32) t0_34
def f_X6_sees (w : MW) (x1 : Int32) : Option (Int32 × MW) :=
  Option.bind (f_X6_isHouse w x1) fun p_2 =>
    if p_2 = 0 then
    Option.bind (f_X6_no w (-1 : Int32)) fun p_10 =>
    some (p_10.1, p_10.2)
    else
    Option.bind (f_X6_doesSee w.1 x1 (99 : Int32)) fun p_21 =>
    if p_21 = 0 then
    f_X6_sees_34 x1 (0 : Int32) w
    else
    f_X6_sees_34 x1 (128 : Int32) w
abbrev rmX6_sees : Room := { frames := 3, cells := 0, slots := 0, locals := 70 }
set_option maxRecDepth 100000 in
set_option maxHeartbeats 4000000 in
theorem c_X6_sees (l : Launch) (G : EnT) (q : Nat → Nat) (w : MW) (x1 : Int32) (o : Int32 × MW) (h : f_X6_sees w x1 = some o) : Mi l yX6_sees rmX6_sees cX6_sees 4 (some .int) G false [.ref (q 0), .int x1] (cMW G q w) o.1 (cMW G q o.2) := by
  refine Mi_of (by decide) (Nat.le_of_ble_eq_true rfl) ?_
  intro p e s m below meth c A0 F hr hW ls hl
  obtain ⟨hx, hb, hml, hown, hts, hK, hNW, hlocks, hA, hSX⟩ := id F
  have hl : lv_has ls 4 [(0, .ref (q 0)), (1, .int x1)] := hl
  have hW : Wd G A0 s (cMW G q w) s.heap [] := hW
  show W p l e rmX6_sees s m ([.ref (q 0), .int x1] : List Value).toArray below meth c s.heap [] 0 0 (Qi below G (cMW G q o.2) o.1 A0 ([.ref (q 0), .int x1] : List Value).toArray s) (F0 m 0 ls [])
  have J0 : ∀ (t0_34 : Int32) (w_34 : MW) (H : Heap) (locs : List Loc) (ls : Array Slot), f_X6_sees_34 x1 t0_34 w_34 = some o → Wd G A0 s (cMW G q w_34) H locs → lv_has ls 4 [(0, .ref (q 0)), (1, .int x1)] → W p l e rmX6_sees s m ([.ref (q 0), .int x1] : List Value).toArray below meth c H locs 0 0 (Qi below G (cMW G q o.2) o.1 A0 ([.ref (q 0), .int x1] : List Value).toArray s) (F0 m 34 ls [.int t0_34]) := by
    intro t0_34 w_34 H locs ls h hW hl
    refine lv_istore_n (lv' := [(2, .int t0_34), (0, .ref (q 0)), (1, .int x1)]) hx hb dX6_sees_34 rfl hl (by decide) rfl (fun ls hl => ?_)
    refine lv_iconst (v := (0 : Int32)) hx hb dX6_sees_35 (by decide) ?_
    refine lv_istore_n (lv' := [(3, .int (0 : Int32)), (2, .int t0_34), (0, .ref (q 0)), (1, .int x1)]) hx hb dX6_sees_36 rfl hl (by decide) rfl (fun ls hl => ?_)
    have L1 : ∀ (n1 : Nat) (v3_37 : Int32) (v2_37 : Int32) (H : Heap) (locs : List Loc) (ls : Array Slot), f_X6_sees_37 w_34 x1 n1 v3_37 v2_37 = some o → Wd G A0 s (cMW G q w_34) H locs → lv_has ls 4 [(3, .int v3_37), (2, .int v2_37), (0, .ref (q 0)), (1, .int x1)] → W p l e rmX6_sees s m ([.ref (q 0), .int x1] : List Value).toArray below meth c H locs 0 0 (Qi below G (cMW G q o.2) o.1 A0 ([.ref (q 0), .int x1] : List Value).toArray s) (F0 m 37 ls []) := by
      intro n1
      induction n1 with
      | zero => intro v3_37 v2_37 H locs ls h; cases (show (none : Option (Int32 × MW)) = some o from h)
      | succ n1 ih1 =>
        intro v3_37 v2_37 H locs ls h hW hl
        refine lv_iload_n hx hb dX6_sees_37 rfl (lv_at hl 0 rfl) ?_
        refine lv_aload_n hx hb dX6_sees_38 rfl (lv_at hl 2 rfl) ?_
        refine x_get F hW 0 rfl fa_X6_9 rfl dX6_sees_39 ?_
        refine lv_iconst (v := (0 : Int32)) hx hb dX6_sees_42 (by decide) ?_
        obtain ⟨g_43, h⟩ := of_guard h
        refine x_iald F hW 1 rfl g_43 dX6_sees_43 ?_
        obtain ⟨ht_44, hf_44⟩ := of_ite h
        refine lv_icmp_ge (tgt := 80) hx hb dX6_sees_44 (by decide) (fun c_44 => ?_) (fun c_44 => ?_)
        · have h := ht_44 c_44
          refine lv_iload_n hx hb dX6_sees_80 rfl (lv_at hl 1 rfl) ?_
          obtain rfl := Option.some.inj h
          exact x_reti F hr hW rfl dX6_sees_81
        · have h := hf_44 c_44
          refine lv_iload_n hx hb dX6_sees_47 rfl (lv_at hl 1 rfl) ?_
          refine lv_iload_n hx hb dX6_sees_48 rfl (lv_at hl 0 rfl) ?_
          refine lv_iload_n hx hb dX6_sees_49 rfl (lv_at hl 3 rfl) ?_
          obtain ⟨ht_50, hf_50⟩ := of_ite h
          refine lv_icmp_eq (tgt := 71) hx hb dX6_sees_50 (by decide) (fun c_50 => ?_) (fun c_50 => ?_)
          · have h := ht_50 c_50
            refine lv_iconst (v := (0 : Int32)) hx hb dX6_sees_71 (by decide) ?_
            refine lv_ior hx hb dX6_sees_72 ?_
            obtain ⟨x_73, e_x_73, h⟩ := of_nm h
            refine x_topi e_x_73 ?_
            refine lv_istore_n (lv' := [(2, .int x_73), (3, .int v3_37), (0, .ref (q 0)), (1, .int x1)]) hx hb dX6_sees_73 rfl hl (by decide) rfl (fun ls hl => ?_)
            refine lv_iinc (v := (v3_37 + (1 : Int32))) (lv' := [(3, .int (v3_37 + (1 : Int32))), (2, .int x_73), (0, .ref (q 0)), (1, .int x1)]) hx hb dX6_sees_74 hl (k := 1) rfl rfl (by decide) rfl (fun ls hl => ?_)
            refine lv_goto (tgt := 37) hx hb dX6_sees_77 (by decide) ?_
            exact ih1 (v3_37 + (1 : Int32)) x_73 _ _ _ h hW (lv_sub hl [0, 1, 2, 3] rfl)
          · have h := hf_50 c_50
            refine lv_aload_n hx hb dX6_sees_53 rfl (lv_at hl 2 rfl) ?_
            refine x_get F hW 0 rfl fa_X6_9 rfl dX6_sees_54 ?_
            refine lv_iload_n hx hb dX6_sees_57 rfl (lv_at hl 3 rfl) ?_
            refine lv_iload_n hx hb dX6_sees_58 rfl (lv_at hl 0 rfl) ?_
            obtain ⟨p_59, hc_59, h⟩ := of_bind h
            refine x_Si (av := [.ref (q 1), .int x1, .int v3_37]) F hW (c_X6_doesSee l G (fun i => q (i + 1)) w_34.1 x1 v3_37 _ hc_59) [1] rfl rfl (by intro q; cases q) cs_X6_79 rfl rfl hl (Nat.le_of_ble_eq_true rfl) ⟨Nat.le_of_ble_eq_true rfl, Nat.le_of_ble_eq_true rfl⟩ ⟨rfl, rfl⟩ ⟨Nat.le_of_ble_eq_true rfl, Nat.le_of_ble_eq_true rfl⟩ dX6_sees_59 rfl [none, some 0, none, none, none, none, none, none, none, none] rfl (ws' := cMW G q w_34) rfl (fun H locs hW => ?_)
            obtain ⟨ht_62, hf_62⟩ := of_ite h
            refine lv_if_eq (tgt := 71) hx hb dX6_sees_62 (by decide) (fun c_62 => ?_) (fun c_62 => ?_)
            · have h := ht_62 c_62
              refine lv_iconst (v := (0 : Int32)) hx hb dX6_sees_71 (by decide) ?_
              refine lv_ior hx hb dX6_sees_72 ?_
              obtain ⟨x_73_2, e_x_73_2, h⟩ := of_nm h
              refine x_topi e_x_73_2 ?_
              refine lv_istore_n (lv' := [(2, .int x_73_2), (3, .int v3_37), (0, .ref (q 0)), (1, .int x1)]) hx hb dX6_sees_73 rfl hl (by decide) rfl (fun ls hl => ?_)
              refine lv_iinc (v := (v3_37 + (1 : Int32))) (lv' := [(3, .int (v3_37 + (1 : Int32))), (2, .int x_73_2), (0, .ref (q 0)), (1, .int x1)]) hx hb dX6_sees_74 hl (k := 1) rfl rfl (by decide) rfl (fun ls hl => ?_)
              refine lv_goto (tgt := 37) hx hb dX6_sees_77 (by decide) ?_
              exact ih1 (v3_37 + (1 : Int32)) x_73_2 _ _ _ h hW (lv_sub hl [0, 1, 2, 3] rfl)
            · have h := hf_62 c_62
              refine lv_iconst (v := (1 : Int32)) hx hb dX6_sees_65 (by decide) ?_
              refine lv_iload_n hx hb dX6_sees_66 rfl (lv_at hl 0 rfl) ?_
              refine lv_ishl hx hb dX6_sees_67 ?_
              refine lv_goto (tgt := 72) hx hb dX6_sees_68 (by decide) ?_
              refine lv_ior hx hb dX6_sees_72 ?_
              obtain ⟨x_73_3, e_x_73_3, h⟩ := of_nm h
              refine x_topi e_x_73_3 ?_
              refine lv_istore_n (lv' := [(2, .int x_73_3), (3, .int v3_37), (0, .ref (q 0)), (1, .int x1)]) hx hb dX6_sees_73 rfl hl (by decide) rfl (fun ls hl => ?_)
              refine lv_iinc (v := (v3_37 + (1 : Int32))) (lv' := [(3, .int (v3_37 + (1 : Int32))), (2, .int x_73_3), (0, .ref (q 0)), (1, .int x1)]) hx hb dX6_sees_74 hl (k := 1) rfl rfl (by decide) rfl (fun ls hl => ?_)
              refine lv_goto (tgt := 37) hx hb dX6_sees_77 (by decide) ?_
              exact ih1 (v3_37 + (1 : Int32)) x_73_3 _ _ _ h hW (lv_sub hl [0, 1, 2, 3] rfl)
    exact L1 200 (0 : Int32) t0_34 _ _ _ h hW (lv_sub hl [0, 1, 2, 3] rfl)
  refine lv_aload_n hx hb dX6_sees_0 rfl (lv_at hl 0 rfl) ?_
  refine lv_iload_n hx hb dX6_sees_1 rfl (lv_at hl 1 rfl) ?_
  obtain ⟨p_2, hc_2, h⟩ := of_bind h
  refine x_Vi (av := [.ref (q 0), .int x1]) (As := [.int x1]) F hW (c_X6_isHouse l G q w x1 _ hc_2) [0, 1, 2, 3, 4, 5, 6, 7, 8, 9] rfl rfl (by intro q; cases q) cv_X6_122 rfl ⟨_, rfl, rfl⟩ rfl rfl rfl hl (Nat.le_of_ble_eq_true rfl) ⟨Nat.le_of_ble_eq_true rfl, Nat.le_of_ble_eq_true rfl⟩ ⟨rfl, rfl⟩ ⟨Nat.le_of_ble_eq_true rfl, Nat.le_of_ble_eq_true rfl⟩ dX6_sees_2 rfl [some 0, some 1, some 2, some 3, some 4, some 5, some 6, some 7, some 8, some 9] rfl (ws' := cMW G q w) rfl (fun H locs hW => ?_)
  obtain ⟨ht_5, hf_5⟩ := of_ite h
  refine lv_if_ne (tgt := 14) hx hb dX6_sees_5 (by decide) (fun c_5 => ?_) (fun c_5 => ?_)
  · have h := hf_5 c_5
    refine lv_aload_n hx hb dX6_sees_14 rfl (lv_at hl 0 rfl) ?_
    refine x_get F hW 0 rfl fa_X6_9 rfl dX6_sees_15 ?_
    refine lv_iload_n hx hb dX6_sees_18 rfl (lv_at hl 1 rfl) ?_
    refine lv_bipush (v := (99 : Int32)) hx hb dX6_sees_19 (by decide) ?_
    obtain ⟨p_21, hc_21, h⟩ := of_bind h
    refine x_Si (av := [.ref (q 1), .int x1, .int (99 : Int32)]) F hW (c_X6_doesSee l G (fun i => q (i + 1)) w.1 x1 (99 : Int32) _ hc_21) [1] rfl rfl (by intro q; cases q) cs_X6_79 rfl rfl hl (Nat.le_of_ble_eq_true rfl) ⟨Nat.le_of_ble_eq_true rfl, Nat.le_of_ble_eq_true rfl⟩ ⟨rfl, rfl⟩ ⟨Nat.le_of_ble_eq_true rfl, Nat.le_of_ble_eq_true rfl⟩ dX6_sees_21 rfl [none, some 0, none, none, none, none, none, none, none, none] rfl (ws' := cMW G q w) rfl (fun H locs hW => ?_)
    obtain ⟨ht_24, hf_24⟩ := of_ite h
    refine lv_if_eq (tgt := 33) hx hb dX6_sees_24 (by decide) (fun c_24 => ?_) (fun c_24 => ?_)
    · have h := ht_24 c_24
      refine lv_iconst (v := (0 : Int32)) hx hb dX6_sees_33 (by decide) ?_
      exact J0 (0 : Int32) w _ _ _ h hW (lv_sub hl [0, 1] rfl)
    · have h := hf_24 c_24
      refine lv_sipush (v := (128 : Int32)) hx hb dX6_sees_27 (by decide) ?_
      refine lv_goto (tgt := 34) hx hb dX6_sees_30 (by decide) ?_
      exact J0 (128 : Int32) w _ _ _ h hW (lv_sub hl [0, 1] rfl)
  · have h := ht_5 c_5
    refine lv_aload_n hx hb dX6_sees_8 rfl (lv_at hl 0 rfl) ?_
    refine lv_iconst (v := (-1 : Int32)) hx hb dX6_sees_9 (by decide) ?_
    obtain ⟨p_10, hc_10, h⟩ := of_bind h
    refine x_Vi (av := [.ref (q 0), .int (-1 : Int32)]) (As := [.int (-1 : Int32)]) F hW (c_X6_no l G q w (-1 : Int32) _ hc_10) [0, 1, 2, 3, 4, 5, 6, 7, 8, 9] rfl rfl (by intro q; cases q) cv_X6_39 rfl ⟨_, rfl, rfl⟩ rfl rfl rfl hl (Nat.le_of_ble_eq_true rfl) ⟨Nat.le_of_ble_eq_true rfl, Nat.le_of_ble_eq_true rfl⟩ ⟨rfl, rfl⟩ ⟨Nat.le_of_ble_eq_true rfl, Nat.le_of_ble_eq_true rfl⟩ dX6_sees_10 rfl [some 0, some 1, some 2, some 3, some 4, some 5, some 6, some 7, some 8, some 9] rfl (ws' := cMW G q p_10.2) rfl (fun H locs hW => ?_)
    obtain rfl := Option.some.inj h
    exact x_reti F hr hW rfl dX6_sees_13
def f_X6_hill_95 (p_80 : Int32) (w_62 : MW) (v3_62 : Int32) (t0_62 : Int32) (p_69 : Int32) : Nat → Int32 → Int32 → Option (Int32 × MW)
  | 0, _, _ => none
  | n1 + 1, v8_95, v7_95 =>
    if p_80 ≤ v8_95 then
    some (v7_95, w_62)
    else
    if v7_95 < 0 then
    f_X6_hill_95 p_80 w_62 v3_62 t0_62 p_69 n1 (v8_95 + (1 : Int32)) v8_95
    else
    Option.bind (f_X6_eye w_62.1 v3_62) fun p_118 =>
    Option.bind (f_X6_eye w_62.1 t0_62) fun p_129 =>
    Option.bind (f_X6_above w_62.1 p_69 p_118 p_80 p_129 v8_95) fun p_134 =>
    Option.bind (f_X6_eye w_62.1 v3_62) fun p_148 =>
    Option.bind (f_X6_eye w_62.1 t0_62) fun p_159 =>
    Option.bind (f_X6_above w_62.1 p_69 p_148 p_80 p_159 v7_95) fun p_164 =>
    if p_134 ≤ p_164 then
    f_X6_hill_95 p_80 w_62 v3_62 t0_62 p_69 n1 (v8_95 + (1 : Int32)) v7_95
    else
    f_X6_hill_95 p_80 w_62 v3_62 t0_62 p_69 n1 (v8_95 + (1 : Int32)) v8_95
def f_X6_hill_62 (v3_62 : Int32) (t0_62 : Int32) (w_62 : MW) : Option (Int32 × MW) :=
  Option.bind (f_X6_cellOf w_62.1 v3_62) fun p_69 =>
    Option.bind (f_X6_cellOf w_62.1 t0_62) fun p_80 =>
    nm (p_69 + (1 : Int32)) fun x_93 =>
    f_X6_hill_95 p_80 w_62 v3_62 t0_62 p_69 200 x_93 (-9 : Int32)
def f_X6_hill_51 (x1 : Int32) (x2 : Int32) (t0_51 : Int32) (w_51 : MW) : Option (Int32 × MW) :=
  if t0_51 = x1 then
    f_X6_hill_62 t0_51 x2 w_51
    else
    f_X6_hill_62 t0_51 x1 w_51
def f_X6_hill (w : MW) (x1 : Int32) (x2 : Int32) : Option (Int32 × MW) :=
  Option.bind (f_X6_isHouse w x1) fun p_2 =>
    if p_2 = 0 then
    Option.bind (f_X6_no w (-1 : Int32)) fun p_23 =>
    some (p_23.1, p_23.2)
    else
    Option.bind (f_X6_isHouse w x2) fun p_10 =>
    if p_10 = 0 then
    Option.bind (f_X6_no w (-1 : Int32)) fun p_23_2 =>
    some (p_23_2.1, p_23_2.2)
    else
    if x1 = x2 then
    Option.bind (f_X6_no w (-1 : Int32)) fun p_23_3 =>
    some (p_23_3.1, p_23_3.2)
    else
    Option.bind (f_X6_cellOf w.1 x1) fun p_32 =>
    Option.bind (f_X6_cellOf w.1 x2) fun p_40 =>
    if p_40 < p_32 then
    f_X6_hill_51 x1 x2 x2 w
    else
    f_X6_hill_51 x1 x2 x1 w
abbrev rmX6_hill : Room := { frames := 2, cells := 0, slots := 0, locals := 43 }
set_option maxRecDepth 100000 in
set_option maxHeartbeats 4000000 in
theorem c_X6_hill (l : Launch) (G : EnT) (q : Nat → Nat) (w : MW) (x1 : Int32) (x2 : Int32) (o : Int32 × MW) (h : f_X6_hill w x1 x2 = some o) : Mi l yX6_hill rmX6_hill cX6_hill 9 (some .int) G false [.ref (q 0), .int x1, .int x2] (cMW G q w) o.1 (cMW G q o.2) := by
  refine Mi_of (by decide) (Nat.le_of_ble_eq_true rfl) ?_
  intro p e s m below meth c A0 F hr hW ls hl
  obtain ⟨hx, hb, hml, hown, hts, hK, hNW, hlocks, hA, hSX⟩ := id F
  have hl : lv_has ls 9 [(0, .ref (q 0)), (1, .int x1), (2, .int x2)] := hl
  have hW : Wd G A0 s (cMW G q w) s.heap [] := hW
  show W p l e rmX6_hill s m ([.ref (q 0), .int x1, .int x2] : List Value).toArray below meth c s.heap [] 0 0 (Qi below G (cMW G q o.2) o.1 A0 ([.ref (q 0), .int x1, .int x2] : List Value).toArray s) (F0 m 0 ls [])
  have J0 : ∀ (v3_62 : Int32) (t0_62 : Int32) (w_62 : MW) (H : Heap) (locs : List Loc) (ls : Array Slot), f_X6_hill_62 v3_62 t0_62 w_62 = some o → Wd G A0 s (cMW G q w_62) H locs → lv_has ls 9 [(3, .int v3_62), (0, .ref (q 0))] → W p l e rmX6_hill s m ([.ref (q 0), .int x1, .int x2] : List Value).toArray below meth c H locs 0 0 (Qi below G (cMW G q o.2) o.1 A0 ([.ref (q 0), .int x1, .int x2] : List Value).toArray s) (F0 m 62 ls [.int t0_62]) := by
    intro v3_62 t0_62 w_62 H locs ls h hW hl
    refine lv_istore (lv' := [(4, .int t0_62), (3, .int v3_62), (0, .ref (q 0))]) hx hb dX6_hill_62 hl (by decide) rfl (fun ls hl => ?_)
    refine lv_aload_n hx hb dX6_hill_64 rfl (lv_at hl 2 rfl) ?_
    refine x_get F hW 0 rfl fa_X6_9 rfl dX6_hill_65 ?_
    refine lv_iload_n hx hb dX6_hill_68 rfl (lv_at hl 1 rfl) ?_
    obtain ⟨p_69, hc_69, h⟩ := of_bind h
    refine x_Si (av := [.ref (q 1), .int v3_62]) F hW (c_X6_cellOf l G (fun i => q (i + 1)) w_62.1 v3_62 _ hc_69) [1] rfl rfl (by intro q; cases q) cs_X6_60 rfl rfl hl (Nat.le_of_ble_eq_true rfl) ⟨Nat.le_of_ble_eq_true rfl, Nat.le_of_ble_eq_true rfl⟩ ⟨rfl, rfl⟩ ⟨Nat.le_of_ble_eq_true rfl, Nat.le_of_ble_eq_true rfl⟩ dX6_hill_69 rfl [none, some 0, none, none, none, none, none, none, none, none] rfl (ws' := cMW G q w_62) rfl (fun H locs hW => ?_)
    refine lv_istore (lv' := [(5, .int p_69), (4, .int t0_62), (3, .int v3_62), (0, .ref (q 0))]) hx hb dX6_hill_72 hl (by decide) rfl (fun ls hl => ?_)
    refine lv_aload_n hx hb dX6_hill_74 rfl (lv_at hl 3 rfl) ?_
    refine x_get F hW 0 rfl fa_X6_9 rfl dX6_hill_75 ?_
    refine lv_iload hx hb dX6_hill_78 (lv_at hl 1 rfl) ?_
    obtain ⟨p_80, hc_80, h⟩ := of_bind h
    refine x_Si (av := [.ref (q 1), .int t0_62]) F hW (c_X6_cellOf l G (fun i => q (i + 1)) w_62.1 t0_62 _ hc_80) [1] rfl rfl (by intro q; cases q) cs_X6_60 rfl rfl hl (Nat.le_of_ble_eq_true rfl) ⟨Nat.le_of_ble_eq_true rfl, Nat.le_of_ble_eq_true rfl⟩ ⟨rfl, rfl⟩ ⟨Nat.le_of_ble_eq_true rfl, Nat.le_of_ble_eq_true rfl⟩ dX6_hill_80 rfl [none, some 0, none, none, none, none, none, none, none, none] rfl (ws' := cMW G q w_62) rfl (fun H locs hW => ?_)
    refine lv_istore (lv' := [(6, .int p_80), (5, .int p_69), (4, .int t0_62), (3, .int v3_62), (0, .ref (q 0))]) hx hb dX6_hill_83 hl (by decide) rfl (fun ls hl => ?_)
    refine lv_bipush (v := (-9 : Int32)) hx hb dX6_hill_85 (by decide) ?_
    refine lv_istore (lv' := [(7, .int (-9 : Int32)), (6, .int p_80), (5, .int p_69), (4, .int t0_62), (3, .int v3_62), (0, .ref (q 0))]) hx hb dX6_hill_87 hl (by decide) rfl (fun ls hl => ?_)
    refine lv_iload hx hb dX6_hill_89 (lv_at hl 2 rfl) ?_
    refine lv_iconst (v := (1 : Int32)) hx hb dX6_hill_91 (by decide) ?_
    refine lv_iadd hx hb dX6_hill_92 ?_
    obtain ⟨x_93, e_x_93, h⟩ := of_nm h
    refine x_topi e_x_93 ?_
    refine lv_istore (lv' := [(8, .int x_93), (7, .int (-9 : Int32)), (6, .int p_80), (5, .int p_69), (4, .int t0_62), (3, .int v3_62), (0, .ref (q 0))]) hx hb dX6_hill_93 hl (by decide) rfl (fun ls hl => ?_)
    have L1 : ∀ (n1 : Nat) (v8_95 : Int32) (v7_95 : Int32) (H : Heap) (locs : List Loc) (ls : Array Slot), f_X6_hill_95 p_80 w_62 v3_62 t0_62 p_69 n1 v8_95 v7_95 = some o → Wd G A0 s (cMW G q w_62) H locs → lv_has ls 9 [(8, .int v8_95), (7, .int v7_95), (6, .int p_80), (5, .int p_69), (4, .int t0_62), (3, .int v3_62), (0, .ref (q 0))] → W p l e rmX6_hill s m ([.ref (q 0), .int x1, .int x2] : List Value).toArray below meth c H locs 0 0 (Qi below G (cMW G q o.2) o.1 A0 ([.ref (q 0), .int x1, .int x2] : List Value).toArray s) (F0 m 95 ls []) := by
      intro n1
      induction n1 with
      | zero => intro v8_95 v7_95 H locs ls h; cases (show (none : Option (Int32 × MW)) = some o from h)
      | succ n1 ih1 =>
        intro v8_95 v7_95 H locs ls h hW hl
        refine lv_iload hx hb dX6_hill_95 (lv_at hl 0 rfl) ?_
        refine lv_iload hx hb dX6_hill_97 (lv_at hl 2 rfl) ?_
        obtain ⟨ht_99, hf_99⟩ := of_ite h
        refine lv_icmp_ge (tgt := 180) hx hb dX6_hill_99 (by decide) (fun c_99 => ?_) (fun c_99 => ?_)
        · have h := ht_99 c_99
          refine lv_iload hx hb dX6_hill_180 (lv_at hl 1 rfl) ?_
          obtain rfl := Option.some.inj h
          exact x_reti F hr hW rfl dX6_hill_182
        · have h := hf_99 c_99
          refine lv_iload hx hb dX6_hill_102 (lv_at hl 1 rfl) ?_
          obtain ⟨ht_104, hf_104⟩ := of_ite h
          refine lv_if_lt (tgt := 170) hx hb dX6_hill_104 (by decide) (fun c_104 => ?_) (fun c_104 => ?_)
          · have h := ht_104 c_104
            refine lv_iload hx hb dX6_hill_170 (lv_at hl 0 rfl) ?_
            refine lv_istore (lv' := [(7, .int v8_95), (8, .int v8_95), (6, .int p_80), (5, .int p_69), (4, .int t0_62), (3, .int v3_62), (0, .ref (q 0))]) hx hb dX6_hill_172 hl (by decide) rfl (fun ls hl => ?_)
            refine lv_iinc (v := (v8_95 + (1 : Int32))) (lv' := [(8, .int (v8_95 + (1 : Int32))), (7, .int v8_95), (6, .int p_80), (5, .int p_69), (4, .int t0_62), (3, .int v3_62), (0, .ref (q 0))]) hx hb dX6_hill_174 hl (k := 1) rfl rfl (by decide) rfl (fun ls hl => ?_)
            refine lv_goto (tgt := 95) hx hb dX6_hill_177 (by decide) ?_
            exact ih1 (v8_95 + (1 : Int32)) v8_95 _ _ _ h hW (lv_sub hl [0, 1, 2, 3, 4, 5, 6] rfl)
          · have h := hf_104 c_104
            refine lv_aload_n hx hb dX6_hill_107 rfl (lv_at hl 6 rfl) ?_
            refine x_get F hW 0 rfl fa_X6_9 rfl dX6_hill_108 ?_
            refine lv_iload hx hb dX6_hill_111 (lv_at hl 3 rfl) ?_
            refine lv_aload_n hx hb dX6_hill_113 rfl (lv_at hl 6 rfl) ?_
            refine x_get F hW 0 rfl fa_X6_9 rfl dX6_hill_114 ?_
            refine lv_iload_n hx hb dX6_hill_117 rfl (lv_at hl 5 rfl) ?_
            obtain ⟨p_118, hc_118, h⟩ := of_bind h
            refine x_Si (av := [.ref (q 1), .int v3_62]) F hW (c_X6_eye l G (fun i => q (i + 1)) w_62.1 v3_62 _ hc_118) [1] rfl rfl (by intro q; cases q) cs_X6_64 rfl rfl hl (Nat.le_of_ble_eq_true rfl) ⟨Nat.le_of_ble_eq_true rfl, Nat.le_of_ble_eq_true rfl⟩ ⟨rfl, rfl⟩ ⟨Nat.le_of_ble_eq_true rfl, Nat.le_of_ble_eq_true rfl⟩ dX6_hill_118 rfl [none, some 0, none, none, none, none, none, none, none, none] rfl (ws' := cMW G q w_62) rfl (fun H locs hW => ?_)
            refine lv_iload hx hb dX6_hill_121 (lv_at hl 2 rfl) ?_
            refine lv_aload_n hx hb dX6_hill_123 rfl (lv_at hl 6 rfl) ?_
            refine x_get F hW 0 rfl fa_X6_9 rfl dX6_hill_124 ?_
            refine lv_iload hx hb dX6_hill_127 (lv_at hl 4 rfl) ?_
            obtain ⟨p_129, hc_129, h⟩ := of_bind h
            refine x_Si (av := [.ref (q 1), .int t0_62]) F hW (c_X6_eye l G (fun i => q (i + 1)) w_62.1 t0_62 _ hc_129) [1] rfl rfl (by intro q; cases q) cs_X6_64 rfl rfl hl (Nat.le_of_ble_eq_true rfl) ⟨Nat.le_of_ble_eq_true rfl, Nat.le_of_ble_eq_true rfl⟩ ⟨rfl, rfl⟩ ⟨Nat.le_of_ble_eq_true rfl, Nat.le_of_ble_eq_true rfl⟩ dX6_hill_129 rfl [none, some 0, none, none, none, none, none, none, none, none] rfl (ws' := cMW G q w_62) rfl (fun H locs hW => ?_)
            refine lv_iload hx hb dX6_hill_132 (lv_at hl 0 rfl) ?_
            obtain ⟨p_134, hc_134, h⟩ := of_bind h
            refine x_Si (av := [.ref (q 1), .int p_69, .int p_118, .int p_80, .int p_129, .int v8_95]) F hW (c_X6_above l G (fun i => q (i + 1)) w_62.1 p_69 p_118 p_80 p_129 v8_95 _ hc_134) [1] rfl rfl (by intro q; cases q) cs_X6_67 rfl rfl hl (Nat.le_of_ble_eq_true rfl) ⟨Nat.le_of_ble_eq_true rfl, Nat.le_of_ble_eq_true rfl⟩ ⟨rfl, rfl⟩ ⟨Nat.le_of_ble_eq_true rfl, Nat.le_of_ble_eq_true rfl⟩ dX6_hill_134 rfl [none, some 0, none, none, none, none, none, none, none, none] rfl (ws' := cMW G q w_62) rfl (fun H locs hW => ?_)
            refine lv_aload_n hx hb dX6_hill_137 rfl (lv_at hl 6 rfl) ?_
            refine x_get F hW 0 rfl fa_X6_9 rfl dX6_hill_138 ?_
            refine lv_iload hx hb dX6_hill_141 (lv_at hl 3 rfl) ?_
            refine lv_aload_n hx hb dX6_hill_143 rfl (lv_at hl 6 rfl) ?_
            refine x_get F hW 0 rfl fa_X6_9 rfl dX6_hill_144 ?_
            refine lv_iload_n hx hb dX6_hill_147 rfl (lv_at hl 5 rfl) ?_
            obtain ⟨p_148, hc_148, h⟩ := of_bind h
            refine x_Si (av := [.ref (q 1), .int v3_62]) F hW (c_X6_eye l G (fun i => q (i + 1)) w_62.1 v3_62 _ hc_148) [1] rfl rfl (by intro q; cases q) cs_X6_64 rfl rfl hl (Nat.le_of_ble_eq_true rfl) ⟨Nat.le_of_ble_eq_true rfl, Nat.le_of_ble_eq_true rfl⟩ ⟨rfl, rfl⟩ ⟨Nat.le_of_ble_eq_true rfl, Nat.le_of_ble_eq_true rfl⟩ dX6_hill_148 rfl [none, some 0, none, none, none, none, none, none, none, none] rfl (ws' := cMW G q w_62) rfl (fun H locs hW => ?_)
            refine lv_iload hx hb dX6_hill_151 (lv_at hl 2 rfl) ?_
            refine lv_aload_n hx hb dX6_hill_153 rfl (lv_at hl 6 rfl) ?_
            refine x_get F hW 0 rfl fa_X6_9 rfl dX6_hill_154 ?_
            refine lv_iload hx hb dX6_hill_157 (lv_at hl 4 rfl) ?_
            obtain ⟨p_159, hc_159, h⟩ := of_bind h
            refine x_Si (av := [.ref (q 1), .int t0_62]) F hW (c_X6_eye l G (fun i => q (i + 1)) w_62.1 t0_62 _ hc_159) [1] rfl rfl (by intro q; cases q) cs_X6_64 rfl rfl hl (Nat.le_of_ble_eq_true rfl) ⟨Nat.le_of_ble_eq_true rfl, Nat.le_of_ble_eq_true rfl⟩ ⟨rfl, rfl⟩ ⟨Nat.le_of_ble_eq_true rfl, Nat.le_of_ble_eq_true rfl⟩ dX6_hill_159 rfl [none, some 0, none, none, none, none, none, none, none, none] rfl (ws' := cMW G q w_62) rfl (fun H locs hW => ?_)
            refine lv_iload hx hb dX6_hill_162 (lv_at hl 1 rfl) ?_
            obtain ⟨p_164, hc_164, h⟩ := of_bind h
            refine x_Si (av := [.ref (q 1), .int p_69, .int p_148, .int p_80, .int p_159, .int v7_95]) F hW (c_X6_above l G (fun i => q (i + 1)) w_62.1 p_69 p_148 p_80 p_159 v7_95 _ hc_164) [1] rfl rfl (by intro q; cases q) cs_X6_67 rfl rfl hl (Nat.le_of_ble_eq_true rfl) ⟨Nat.le_of_ble_eq_true rfl, Nat.le_of_ble_eq_true rfl⟩ ⟨rfl, rfl⟩ ⟨Nat.le_of_ble_eq_true rfl, Nat.le_of_ble_eq_true rfl⟩ dX6_hill_164 rfl [none, some 0, none, none, none, none, none, none, none, none] rfl (ws' := cMW G q w_62) rfl (fun H locs hW => ?_)
            obtain ⟨ht_167, hf_167⟩ := of_ite h
            refine lv_icmp_le (tgt := 174) hx hb dX6_hill_167 (by decide) (fun c_167 => ?_) (fun c_167 => ?_)
            · have h := ht_167 c_167
              refine lv_iinc (v := (v8_95 + (1 : Int32))) (lv' := [(8, .int (v8_95 + (1 : Int32))), (7, .int v7_95), (6, .int p_80), (5, .int p_69), (4, .int t0_62), (3, .int v3_62), (0, .ref (q 0))]) hx hb dX6_hill_174 hl (k := 0) rfl rfl (by decide) rfl (fun ls hl => ?_)
              refine lv_goto (tgt := 95) hx hb dX6_hill_177 (by decide) ?_
              exact ih1 (v8_95 + (1 : Int32)) v7_95 _ _ _ h hW (lv_sub hl [0, 1, 2, 3, 4, 5, 6] rfl)
            · have h := hf_167 c_167
              refine lv_iload hx hb dX6_hill_170 (lv_at hl 0 rfl) ?_
              refine lv_istore (lv' := [(7, .int v8_95), (8, .int v8_95), (6, .int p_80), (5, .int p_69), (4, .int t0_62), (3, .int v3_62), (0, .ref (q 0))]) hx hb dX6_hill_172 hl (by decide) rfl (fun ls hl => ?_)
              refine lv_iinc (v := (v8_95 + (1 : Int32))) (lv' := [(8, .int (v8_95 + (1 : Int32))), (7, .int v8_95), (6, .int p_80), (5, .int p_69), (4, .int t0_62), (3, .int v3_62), (0, .ref (q 0))]) hx hb dX6_hill_174 hl (k := 1) rfl rfl (by decide) rfl (fun ls hl => ?_)
              refine lv_goto (tgt := 95) hx hb dX6_hill_177 (by decide) ?_
              exact ih1 (v8_95 + (1 : Int32)) v8_95 _ _ _ h hW (lv_sub hl [0, 1, 2, 3, 4, 5, 6] rfl)
    exact L1 200 x_93 (-9 : Int32) _ _ _ h hW (lv_sub hl [0, 1, 2, 3, 4, 5, 6] rfl)
  have J2 : ∀ (t0_51 : Int32) (w_51 : MW) (H : Heap) (locs : List Loc) (ls : Array Slot), f_X6_hill_51 x1 x2 t0_51 w_51 = some o → Wd G A0 s (cMW G q w_51) H locs → lv_has ls 9 [(0, .ref (q 0)), (1, .int x1), (2, .int x2)] → W p l e rmX6_hill s m ([.ref (q 0), .int x1, .int x2] : List Value).toArray below meth c H locs 0 0 (Qi below G (cMW G q o.2) o.1 A0 ([.ref (q 0), .int x1, .int x2] : List Value).toArray s) (F0 m 51 ls [.int t0_51]) := by
    intro t0_51 w_51 H locs ls h hW hl
    refine lv_istore_n (lv' := [(3, .int t0_51), (0, .ref (q 0)), (1, .int x1), (2, .int x2)]) hx hb dX6_hill_51 rfl hl (by decide) rfl (fun ls hl => ?_)
    refine lv_iload_n hx hb dX6_hill_52 rfl (lv_at hl 0 rfl) ?_
    refine lv_iload_n hx hb dX6_hill_53 rfl (lv_at hl 2 rfl) ?_
    obtain ⟨ht_54, hf_54⟩ := of_ite h
    refine lv_icmp_ne (tgt := 61) hx hb dX6_hill_54 (by decide) (fun c_54 => ?_) (fun c_54 => ?_)
    · have h := hf_54 c_54
      refine lv_iload_n hx hb dX6_hill_61 rfl (lv_at hl 2 rfl) ?_
      exact J0 t0_51 x1 w_51 _ _ _ h hW (lv_sub hl [0, 1] rfl)
    · have h := ht_54 c_54
      refine lv_iload_n hx hb dX6_hill_57 rfl (lv_at hl 3 rfl) ?_
      refine lv_goto (tgt := 62) hx hb dX6_hill_58 (by decide) ?_
      exact J0 t0_51 x2 w_51 _ _ _ h hW (lv_sub hl [0, 1] rfl)
  refine lv_aload_n hx hb dX6_hill_0 rfl (lv_at hl 0 rfl) ?_
  refine lv_iload_n hx hb dX6_hill_1 rfl (lv_at hl 1 rfl) ?_
  obtain ⟨p_2, hc_2, h⟩ := of_bind h
  refine x_Vi (av := [.ref (q 0), .int x1]) (As := [.int x1]) F hW (c_X6_isHouse l G q w x1 _ hc_2) [0, 1, 2, 3, 4, 5, 6, 7, 8, 9] rfl rfl (by intro q; cases q) cv_X6_122 rfl ⟨_, rfl, rfl⟩ rfl rfl rfl hl (Nat.le_of_ble_eq_true rfl) ⟨Nat.le_of_ble_eq_true rfl, Nat.le_of_ble_eq_true rfl⟩ ⟨rfl, rfl⟩ ⟨Nat.le_of_ble_eq_true rfl, Nat.le_of_ble_eq_true rfl⟩ dX6_hill_2 rfl [some 0, some 1, some 2, some 3, some 4, some 5, some 6, some 7, some 8, some 9] rfl (ws' := cMW G q w) rfl (fun H locs hW => ?_)
  obtain ⟨ht_5, hf_5⟩ := of_ite h
  refine lv_if_eq (tgt := 21) hx hb dX6_hill_5 (by decide) (fun c_5 => ?_) (fun c_5 => ?_)
  · have h := ht_5 c_5
    refine lv_aload_n hx hb dX6_hill_21 rfl (lv_at hl 0 rfl) ?_
    refine lv_iconst (v := (-1 : Int32)) hx hb dX6_hill_22 (by decide) ?_
    obtain ⟨p_23, hc_23, h⟩ := of_bind h
    refine x_Vi (av := [.ref (q 0), .int (-1 : Int32)]) (As := [.int (-1 : Int32)]) F hW (c_X6_no l G q w (-1 : Int32) _ hc_23) [0, 1, 2, 3, 4, 5, 6, 7, 8, 9] rfl rfl (by intro q; cases q) cv_X6_39 rfl ⟨_, rfl, rfl⟩ rfl rfl rfl hl (Nat.le_of_ble_eq_true rfl) ⟨Nat.le_of_ble_eq_true rfl, Nat.le_of_ble_eq_true rfl⟩ ⟨rfl, rfl⟩ ⟨Nat.le_of_ble_eq_true rfl, Nat.le_of_ble_eq_true rfl⟩ dX6_hill_23 rfl [some 0, some 1, some 2, some 3, some 4, some 5, some 6, some 7, some 8, some 9] rfl (ws' := cMW G q p_23.2) rfl (fun H locs hW => ?_)
    obtain rfl := Option.some.inj h
    exact x_reti F hr hW rfl dX6_hill_26
  · have h := hf_5 c_5
    refine lv_aload_n hx hb dX6_hill_8 rfl (lv_at hl 0 rfl) ?_
    refine lv_iload_n hx hb dX6_hill_9 rfl (lv_at hl 2 rfl) ?_
    obtain ⟨p_10, hc_10, h⟩ := of_bind h
    refine x_Vi (av := [.ref (q 0), .int x2]) (As := [.int x2]) F hW (c_X6_isHouse l G q w x2 _ hc_10) [0, 1, 2, 3, 4, 5, 6, 7, 8, 9] rfl rfl (by intro q; cases q) cv_X6_122 rfl ⟨_, rfl, rfl⟩ rfl rfl rfl hl (Nat.le_of_ble_eq_true rfl) ⟨Nat.le_of_ble_eq_true rfl, Nat.le_of_ble_eq_true rfl⟩ ⟨rfl, rfl⟩ ⟨Nat.le_of_ble_eq_true rfl, Nat.le_of_ble_eq_true rfl⟩ dX6_hill_10 rfl [some 0, some 1, some 2, some 3, some 4, some 5, some 6, some 7, some 8, some 9] rfl (ws' := cMW G q w) rfl (fun H locs hW => ?_)
    obtain ⟨ht_13, hf_13⟩ := of_ite h
    refine lv_if_eq (tgt := 21) hx hb dX6_hill_13 (by decide) (fun c_13 => ?_) (fun c_13 => ?_)
    · have h := ht_13 c_13
      refine lv_aload_n hx hb dX6_hill_21 rfl (lv_at hl 0 rfl) ?_
      refine lv_iconst (v := (-1 : Int32)) hx hb dX6_hill_22 (by decide) ?_
      obtain ⟨p_23_2, hc_23, h⟩ := of_bind h
      refine x_Vi (av := [.ref (q 0), .int (-1 : Int32)]) (As := [.int (-1 : Int32)]) F hW (c_X6_no l G q w (-1 : Int32) _ hc_23) [0, 1, 2, 3, 4, 5, 6, 7, 8, 9] rfl rfl (by intro q; cases q) cv_X6_39 rfl ⟨_, rfl, rfl⟩ rfl rfl rfl hl (Nat.le_of_ble_eq_true rfl) ⟨Nat.le_of_ble_eq_true rfl, Nat.le_of_ble_eq_true rfl⟩ ⟨rfl, rfl⟩ ⟨Nat.le_of_ble_eq_true rfl, Nat.le_of_ble_eq_true rfl⟩ dX6_hill_23 rfl [some 0, some 1, some 2, some 3, some 4, some 5, some 6, some 7, some 8, some 9] rfl (ws' := cMW G q p_23_2.2) rfl (fun H locs hW => ?_)
      obtain rfl := Option.some.inj h
      exact x_reti F hr hW rfl dX6_hill_26
    · have h := hf_13 c_13
      refine lv_iload_n hx hb dX6_hill_16 rfl (lv_at hl 1 rfl) ?_
      refine lv_iload_n hx hb dX6_hill_17 rfl (lv_at hl 2 rfl) ?_
      obtain ⟨ht_18, hf_18⟩ := of_ite h
      refine lv_icmp_ne (tgt := 27) hx hb dX6_hill_18 (by decide) (fun c_18 => ?_) (fun c_18 => ?_)
      · have h := hf_18 c_18
        refine lv_aload_n hx hb dX6_hill_27 rfl (lv_at hl 0 rfl) ?_
        refine x_get F hW 0 rfl fa_X6_9 rfl dX6_hill_28 ?_
        refine lv_iload_n hx hb dX6_hill_31 rfl (lv_at hl 1 rfl) ?_
        obtain ⟨p_32, hc_32, h⟩ := of_bind h
        refine x_Si (av := [.ref (q 1), .int x1]) F hW (c_X6_cellOf l G (fun i => q (i + 1)) w.1 x1 _ hc_32) [1] rfl rfl (by intro q; cases q) cs_X6_60 rfl rfl hl (Nat.le_of_ble_eq_true rfl) ⟨Nat.le_of_ble_eq_true rfl, Nat.le_of_ble_eq_true rfl⟩ ⟨rfl, rfl⟩ ⟨Nat.le_of_ble_eq_true rfl, Nat.le_of_ble_eq_true rfl⟩ dX6_hill_32 rfl [none, some 0, none, none, none, none, none, none, none, none] rfl (ws' := cMW G q w) rfl (fun H locs hW => ?_)
        refine lv_aload_n hx hb dX6_hill_35 rfl (lv_at hl 0 rfl) ?_
        refine x_get F hW 0 rfl fa_X6_9 rfl dX6_hill_36 ?_
        refine lv_iload_n hx hb dX6_hill_39 rfl (lv_at hl 2 rfl) ?_
        obtain ⟨p_40, hc_40, h⟩ := of_bind h
        refine x_Si (av := [.ref (q 1), .int x2]) F hW (c_X6_cellOf l G (fun i => q (i + 1)) w.1 x2 _ hc_40) [1] rfl rfl (by intro q; cases q) cs_X6_60 rfl rfl hl (Nat.le_of_ble_eq_true rfl) ⟨Nat.le_of_ble_eq_true rfl, Nat.le_of_ble_eq_true rfl⟩ ⟨rfl, rfl⟩ ⟨Nat.le_of_ble_eq_true rfl, Nat.le_of_ble_eq_true rfl⟩ dX6_hill_40 rfl [none, some 0, none, none, none, none, none, none, none, none] rfl (ws' := cMW G q w) rfl (fun H locs hW => ?_)
        obtain ⟨ht_43, hf_43⟩ := of_ite h
        refine lv_icmp_gt (tgt := 50) hx hb dX6_hill_43 (by decide) (fun c_43 => ?_) (fun c_43 => ?_)
        · have h := ht_43 c_43
          refine lv_iload_n hx hb dX6_hill_50 rfl (lv_at hl 2 rfl) ?_
          exact J2 x2 w _ _ _ h hW (lv_sub hl [0, 1, 2] rfl)
        · have h := hf_43 c_43
          refine lv_iload_n hx hb dX6_hill_46 rfl (lv_at hl 1 rfl) ?_
          refine lv_goto (tgt := 51) hx hb dX6_hill_47 (by decide) ?_
          exact J2 x1 w _ _ _ h hW (lv_sub hl [0, 1, 2] rfl)
      · have h := ht_18 c_18
        refine lv_aload_n hx hb dX6_hill_21 rfl (lv_at hl 0 rfl) ?_
        refine lv_iconst (v := (-1 : Int32)) hx hb dX6_hill_22 (by decide) ?_
        obtain ⟨p_23_3, hc_23, h⟩ := of_bind h
        refine x_Vi (av := [.ref (q 0), .int (-1 : Int32)]) (As := [.int (-1 : Int32)]) F hW (c_X6_no l G q w (-1 : Int32) _ hc_23) [0, 1, 2, 3, 4, 5, 6, 7, 8, 9] rfl rfl (by intro q; cases q) cv_X6_39 rfl ⟨_, rfl, rfl⟩ rfl rfl rfl hl (Nat.le_of_ble_eq_true rfl) ⟨Nat.le_of_ble_eq_true rfl, Nat.le_of_ble_eq_true rfl⟩ ⟨rfl, rfl⟩ ⟨Nat.le_of_ble_eq_true rfl, Nat.le_of_ble_eq_true rfl⟩ dX6_hill_23 rfl [some 0, some 1, some 2, some 3, some 4, some 5, some 6, some 7, some 8, some 9] rfl (ws' := cMW G q p_23_3.2) rfl (fun H locs hW => ?_)
        obtain rfl := Option.some.inj h
        exact x_reti F hr hW rfl dX6_hill_26
def f_X6_leastEye_40 (x1 : Int32) (p_34 : Int32) : Nat → Int32 → MW → Option (Int32 × MW)
  | 0, _, _ => none
  | n0 + 1, v3_40, w_40 =>
    if (30 : Int32) < v3_40 then
    some ((-9 : Int32), w_40)
    else
    Option.bind (f_X6_copies w_40.1 w_40.2.1) fun p_54 =>
    Option.bind (f_X6_of x1 (5 : Int32)) fun p_63 =>
    if inR p_63 71 then
    Option.bind (f_X6_doesSee (upd p_54 p_63.toNatClampNeg (v3_40 - p_34)) x1 (99 : Int32)) fun p_77 =>
    if p_77 = 0 then
    f_X6_leastEye_40 x1 p_34 n0 (v3_40 + (1 : Int32)) (w_40.1, (upd p_54 p_63.toNatClampNeg (v3_40 - p_34)), w_40.2.2.1, w_40.2.2.2.1, w_40.2.2.2.2.1, w_40.2.2.2.2.2.1, w_40.2.2.2.2.2.2.1, w_40.2.2.2.2.2.2.2.1, w_40.2.2.2.2.2.2.2.2.1, w_40.2.2.2.2.2.2.2.2.2.1, w_40.2.2.2.2.2.2.2.2.2.2.1, w_40.2.2.2.2.2.2.2.2.2.2.2.1, w_40.2.2.2.2.2.2.2.2.2.2.2.2.1, w_40.2.2.2.2.2.2.2.2.2.2.2.2.2)
    else
    some (v3_40, (w_40.1, (upd p_54 p_63.toNatClampNeg (v3_40 - p_34)), w_40.2.2.1, w_40.2.2.2.1, w_40.2.2.2.2.1, w_40.2.2.2.2.2.1, w_40.2.2.2.2.2.2.1, w_40.2.2.2.2.2.2.2.1, w_40.2.2.2.2.2.2.2.2.1, w_40.2.2.2.2.2.2.2.2.2.1, w_40.2.2.2.2.2.2.2.2.2.2.1, w_40.2.2.2.2.2.2.2.2.2.2.2.1, w_40.2.2.2.2.2.2.2.2.2.2.2.2.1, w_40.2.2.2.2.2.2.2.2.2.2.2.2.2))
    else none
def f_X6_leastEye (w : MW) (x1 : Int32) : Option (Int32 × MW) :=
  Option.bind (f_X6_isHouse w x1) fun p_2 =>
    if p_2 = 0 then
    Option.bind (f_X6_no w (-1 : Int32)) fun p_10 =>
    some (p_10.1, p_10.2)
    else
    Option.bind (f_X6_of x1 (0 : Int32)) fun p_20 =>
    if inR p_20 71 then
    Option.bind (f_X6_of x1 (1 : Int32)) fun p_30 =>
    if inR p_30 71 then
    Option.bind (f_X6_candleBy (w.1 p_20.toNatClampNeg) (w.1 p_30.toNatClampNeg)) fun p_34 =>
    f_X6_leastEye_40 x1 p_34 200 (0 : Int32) w
    else none
    else none
abbrev rmX6_leastEye : Room := { frames := 3, cells := 0, slots := 0, locals := 70 }
set_option maxRecDepth 100000 in
set_option maxHeartbeats 4000000 in
theorem c_X6_leastEye (l : Launch) (G : EnT) (q : Nat → Nat) (w : MW) (x1 : Int32) (o : Int32 × MW) (h : f_X6_leastEye w x1 = some o) : Mi l yX6_leastEye rmX6_leastEye cX6_leastEye 4 (some .int) G false [.ref (q 0), .int x1] (cMW G q w) o.1 (cMW G q o.2) := by
  refine Mi_of (by decide) (Nat.le_of_ble_eq_true rfl) ?_
  intro p e s m below meth c A0 F hr hW ls hl
  obtain ⟨hx, hb, hml, hown, hts, hK, hNW, hlocks, hA, hSX⟩ := id F
  have hl : lv_has ls 4 [(0, .ref (q 0)), (1, .int x1)] := hl
  have hW : Wd G A0 s (cMW G q w) s.heap [] := hW
  show W p l e rmX6_leastEye s m ([.ref (q 0), .int x1] : List Value).toArray below meth c s.heap [] 0 0 (Qi below G (cMW G q o.2) o.1 A0 ([.ref (q 0), .int x1] : List Value).toArray s) (F0 m 0 ls [])
  refine lv_aload_n hx hb dX6_leastEye_0 rfl (lv_at hl 0 rfl) ?_
  refine lv_iload_n hx hb dX6_leastEye_1 rfl (lv_at hl 1 rfl) ?_
  obtain ⟨p_2, hc_2, h⟩ := of_bind h
  refine x_Vi (av := [.ref (q 0), .int x1]) (As := [.int x1]) F hW (c_X6_isHouse l G q w x1 _ hc_2) [0, 1, 2, 3, 4, 5, 6, 7, 8, 9] rfl rfl (by intro q; cases q) cv_X6_122 rfl ⟨_, rfl, rfl⟩ rfl rfl rfl hl (Nat.le_of_ble_eq_true rfl) ⟨Nat.le_of_ble_eq_true rfl, Nat.le_of_ble_eq_true rfl⟩ ⟨rfl, rfl⟩ ⟨Nat.le_of_ble_eq_true rfl, Nat.le_of_ble_eq_true rfl⟩ dX6_leastEye_2 rfl [some 0, some 1, some 2, some 3, some 4, some 5, some 6, some 7, some 8, some 9] rfl (ws' := cMW G q w) rfl (fun H locs hW => ?_)
  obtain ⟨ht_5, hf_5⟩ := of_ite h
  refine lv_if_ne (tgt := 14) hx hb dX6_leastEye_5 (by decide) (fun c_5 => ?_) (fun c_5 => ?_)
  · have h := hf_5 c_5
    refine lv_aload_n hx hb dX6_leastEye_14 rfl (lv_at hl 0 rfl) ?_
    refine x_get F hW 0 rfl fa_X6_9 rfl dX6_leastEye_15 ?_
    refine lv_iload_n hx hb dX6_leastEye_18 rfl (lv_at hl 1 rfl) ?_
    refine lv_iconst (v := (0 : Int32)) hx hb dX6_leastEye_19 (by decide) ?_
    obtain ⟨p_20, hc_20, h⟩ := of_bind h
    refine x_Si (av := [.int x1, .int (0 : Int32)]) F hW (c_X6_of l G x1 (0 : Int32) _ hc_20) [] rfl rfl (by intro q; cases q) cs_X6_47 rfl rfl hl (Nat.le_of_ble_eq_true rfl) ⟨Nat.le_of_ble_eq_true rfl, Nat.le_of_ble_eq_true rfl⟩ ⟨rfl, rfl⟩ ⟨Nat.le_of_ble_eq_true rfl, Nat.le_of_ble_eq_true rfl⟩ dX6_leastEye_20 rfl [none, none, none, none, none, none, none, none, none, none] rfl (ws' := cMW G q w) rfl (fun H locs hW => ?_)
    obtain ⟨g_23, h⟩ := of_guard h
    refine x_iald F hW 1 rfl g_23 dX6_leastEye_23 ?_
    refine lv_aload_n hx hb dX6_leastEye_24 rfl (lv_at hl 0 rfl) ?_
    refine x_get F hW 0 rfl fa_X6_9 rfl dX6_leastEye_25 ?_
    refine lv_iload_n hx hb dX6_leastEye_28 rfl (lv_at hl 1 rfl) ?_
    refine lv_iconst (v := (1 : Int32)) hx hb dX6_leastEye_29 (by decide) ?_
    obtain ⟨p_30, hc_30, h⟩ := of_bind h
    refine x_Si (av := [.int x1, .int (1 : Int32)]) F hW (c_X6_of l G x1 (1 : Int32) _ hc_30) [] rfl rfl (by intro q; cases q) cs_X6_47 rfl rfl hl (Nat.le_of_ble_eq_true rfl) ⟨Nat.le_of_ble_eq_true rfl, Nat.le_of_ble_eq_true rfl⟩ ⟨rfl, rfl⟩ ⟨Nat.le_of_ble_eq_true rfl, Nat.le_of_ble_eq_true rfl⟩ dX6_leastEye_30 rfl [none, none, none, none, none, none, none, none, none, none] rfl (ws' := cMW G q w) rfl (fun H locs hW => ?_)
    obtain ⟨g_33, h⟩ := of_guard h
    refine x_iald F hW 1 rfl g_33 dX6_leastEye_33 ?_
    obtain ⟨p_34, hc_34, h⟩ := of_bind h
    refine x_Si (av := [.int (w.1 p_20.toNatClampNeg), .int (w.1 p_30.toNatClampNeg)]) F hW (c_X6_candleBy l G (w.1 p_20.toNatClampNeg) (w.1 p_30.toNatClampNeg) _ hc_34) [] rfl rfl (by intro q; cases q) cs_X6_57 rfl rfl hl (Nat.le_of_ble_eq_true rfl) ⟨Nat.le_of_ble_eq_true rfl, Nat.le_of_ble_eq_true rfl⟩ ⟨rfl, rfl⟩ ⟨Nat.le_of_ble_eq_true rfl, Nat.le_of_ble_eq_true rfl⟩ dX6_leastEye_34 rfl [none, none, none, none, none, none, none, none, none, none] rfl (ws' := cMW G q w) rfl (fun H locs hW => ?_)
    refine lv_istore_n (lv' := [(2, .int p_34), (0, .ref (q 0)), (1, .int x1)]) hx hb dX6_leastEye_37 rfl hl (by decide) rfl (fun ls hl => ?_)
    refine lv_iconst (v := (0 : Int32)) hx hb dX6_leastEye_38 (by decide) ?_
    refine lv_istore_n (lv' := [(3, .int (0 : Int32)), (2, .int p_34), (0, .ref (q 0)), (1, .int x1)]) hx hb dX6_leastEye_39 rfl hl (by decide) rfl (fun ls hl => ?_)
    have L0 : ∀ (n0 : Nat) (v3_40 : Int32) (w_40 : MW) (H : Heap) (locs : List Loc) (ls : Array Slot), f_X6_leastEye_40 x1 p_34 n0 v3_40 w_40 = some o → Wd G A0 s (cMW G q w_40) H locs → lv_has ls 4 [(3, .int v3_40), (2, .int p_34), (0, .ref (q 0)), (1, .int x1)] → W p l e rmX6_leastEye s m ([.ref (q 0), .int x1] : List Value).toArray below meth c H locs 0 0 (Qi below G (cMW G q o.2) o.1 A0 ([.ref (q 0), .int x1] : List Value).toArray s) (F0 m 40 ls []) := by
      intro n0
      induction n0 with
      | zero => intro v3_40 w_40 H locs ls h; cases (show (none : Option (Int32 × MW)) = some o from h)
      | succ n0 ih0 =>
        intro v3_40 w_40 H locs ls h hW hl
        refine lv_iload_n hx hb dX6_leastEye_40 rfl (lv_at hl 0 rfl) ?_
        refine lv_bipush (v := (30 : Int32)) hx hb dX6_leastEye_41 (by decide) ?_
        obtain ⟨ht_43, hf_43⟩ := of_ite h
        refine lv_icmp_gt (tgt := 91) hx hb dX6_leastEye_43 (by decide) (fun c_43 => ?_) (fun c_43 => ?_)
        · have h := ht_43 c_43
          refine lv_bipush (v := (-9 : Int32)) hx hb dX6_leastEye_91 (by decide) ?_
          obtain rfl := Option.some.inj h
          exact x_reti F hr hW rfl dX6_leastEye_93
        · have h := hf_43 c_43
          refine lv_aload_n hx hb dX6_leastEye_46 rfl (lv_at hl 2 rfl) ?_
          refine x_get F hW 0 rfl fa_X6_9 rfl dX6_leastEye_47 ?_
          refine lv_aload_n hx hb dX6_leastEye_50 rfl (lv_at hl 2 rfl) ?_
          refine x_get F hW 0 rfl fa_X6_13 rfl dX6_leastEye_51 ?_
          obtain ⟨p_54, hc_54, h⟩ := of_bind h
          refine x_Sv (av := [.ref (q 1), .ref (q 2)]) F hW (c_X6_copies l G (fun i => q (i + 1)) w_40.1 (fun i => q (i + 2)) w_40.2.1 _ hc_54) [1, 2] rfl rfl (by intro q; cases q) cs_X6_134 rfl rfl hl (Nat.le_of_ble_eq_true rfl) ⟨Nat.le_of_ble_eq_true rfl, Nat.le_of_ble_eq_true rfl⟩ ⟨rfl, rfl⟩ ⟨Nat.le_of_ble_eq_true rfl, Nat.le_of_ble_eq_true rfl⟩ dX6_leastEye_54 rfl [none, some 0, some 1, none, none, none, none, none, none, none] rfl (ws' := cMW G q (w_40.1, p_54, w_40.2.2.1, w_40.2.2.2.1, w_40.2.2.2.2.1, w_40.2.2.2.2.2.1, w_40.2.2.2.2.2.2.1, w_40.2.2.2.2.2.2.2.1, w_40.2.2.2.2.2.2.2.2.1, w_40.2.2.2.2.2.2.2.2.2.1, w_40.2.2.2.2.2.2.2.2.2.2.1, w_40.2.2.2.2.2.2.2.2.2.2.2.1, w_40.2.2.2.2.2.2.2.2.2.2.2.2.1, w_40.2.2.2.2.2.2.2.2.2.2.2.2.2)) rfl (fun H locs hW => ?_)
          refine lv_aload_n hx hb dX6_leastEye_57 rfl (lv_at hl 2 rfl) ?_
          refine x_get F hW 0 rfl fa_X6_13 rfl dX6_leastEye_58 ?_
          refine lv_iload_n hx hb dX6_leastEye_61 rfl (lv_at hl 3 rfl) ?_
          refine lv_iconst (v := (5 : Int32)) hx hb dX6_leastEye_62 (by decide) ?_
          obtain ⟨p_63, hc_63, h⟩ := of_bind h
          refine x_Si (av := [.int x1, .int (5 : Int32)]) F hW (c_X6_of l G x1 (5 : Int32) _ hc_63) [] rfl rfl (by intro q; cases q) cs_X6_47 rfl rfl hl (Nat.le_of_ble_eq_true rfl) ⟨Nat.le_of_ble_eq_true rfl, Nat.le_of_ble_eq_true rfl⟩ ⟨rfl, rfl⟩ ⟨Nat.le_of_ble_eq_true rfl, Nat.le_of_ble_eq_true rfl⟩ dX6_leastEye_63 rfl [none, none, none, none, none, none, none, none, none, none] rfl (ws' := cMW G q (w_40.1, p_54, w_40.2.2.1, w_40.2.2.2.1, w_40.2.2.2.2.1, w_40.2.2.2.2.2.1, w_40.2.2.2.2.2.2.1, w_40.2.2.2.2.2.2.2.1, w_40.2.2.2.2.2.2.2.2.1, w_40.2.2.2.2.2.2.2.2.2.1, w_40.2.2.2.2.2.2.2.2.2.2.1, w_40.2.2.2.2.2.2.2.2.2.2.2.1, w_40.2.2.2.2.2.2.2.2.2.2.2.2.1, w_40.2.2.2.2.2.2.2.2.2.2.2.2.2)) rfl (fun H locs hW => ?_)
          refine lv_iload_n hx hb dX6_leastEye_66 rfl (lv_at hl 0 rfl) ?_
          refine lv_iload_n hx hb dX6_leastEye_67 rfl (lv_at hl 1 rfl) ?_
          refine lv_isub hx hb dX6_leastEye_68 ?_
          obtain ⟨g_69, h⟩ := of_guard h
          refine x_iast F hW 2 rfl g_69 (ws' := cMW G q (w_40.1, (upd p_54 p_63.toNatClampNeg (v3_40 - p_34)), w_40.2.2.1, w_40.2.2.2.1, w_40.2.2.2.2.1, w_40.2.2.2.2.2.1, w_40.2.2.2.2.2.2.1, w_40.2.2.2.2.2.2.2.1, w_40.2.2.2.2.2.2.2.2.1, w_40.2.2.2.2.2.2.2.2.2.1, w_40.2.2.2.2.2.2.2.2.2.2.1, w_40.2.2.2.2.2.2.2.2.2.2.2.1, w_40.2.2.2.2.2.2.2.2.2.2.2.2.1, w_40.2.2.2.2.2.2.2.2.2.2.2.2.2)) rfl dX6_leastEye_69 (fun H locs hW => ?_)
          refine lv_aload_n hx hb dX6_leastEye_70 rfl (lv_at hl 2 rfl) ?_
          refine x_get F hW 0 rfl fa_X6_13 rfl dX6_leastEye_71 ?_
          refine lv_iload_n hx hb dX6_leastEye_74 rfl (lv_at hl 3 rfl) ?_
          refine lv_bipush (v := (99 : Int32)) hx hb dX6_leastEye_75 (by decide) ?_
          obtain ⟨p_77, hc_77, h⟩ := of_bind h
          refine x_Si (av := [.ref (q 2), .int x1, .int (99 : Int32)]) F hW (c_X6_doesSee l G (fun i => q (i + 2)) (upd p_54 p_63.toNatClampNeg (v3_40 - p_34)) x1 (99 : Int32) _ hc_77) [2] rfl rfl (by intro q; cases q) cs_X6_79 rfl rfl hl (Nat.le_of_ble_eq_true rfl) ⟨Nat.le_of_ble_eq_true rfl, Nat.le_of_ble_eq_true rfl⟩ ⟨rfl, rfl⟩ ⟨Nat.le_of_ble_eq_true rfl, Nat.le_of_ble_eq_true rfl⟩ dX6_leastEye_77 rfl [none, none, some 0, none, none, none, none, none, none, none] rfl (ws' := cMW G q (w_40.1, (upd p_54 p_63.toNatClampNeg (v3_40 - p_34)), w_40.2.2.1, w_40.2.2.2.1, w_40.2.2.2.2.1, w_40.2.2.2.2.2.1, w_40.2.2.2.2.2.2.1, w_40.2.2.2.2.2.2.2.1, w_40.2.2.2.2.2.2.2.2.1, w_40.2.2.2.2.2.2.2.2.2.1, w_40.2.2.2.2.2.2.2.2.2.2.1, w_40.2.2.2.2.2.2.2.2.2.2.2.1, w_40.2.2.2.2.2.2.2.2.2.2.2.2.1, w_40.2.2.2.2.2.2.2.2.2.2.2.2.2)) rfl (fun H locs hW => ?_)
          obtain ⟨ht_80, hf_80⟩ := of_ite h
          refine lv_if_eq (tgt := 85) hx hb dX6_leastEye_80 (by decide) (fun c_80 => ?_) (fun c_80 => ?_)
          · have h := ht_80 c_80
            refine lv_iinc (v := (v3_40 + (1 : Int32))) (lv' := [(3, .int (v3_40 + (1 : Int32))), (2, .int p_34), (0, .ref (q 0)), (1, .int x1)]) hx hb dX6_leastEye_85 hl (k := 0) rfl rfl (by decide) rfl (fun ls hl => ?_)
            refine lv_goto (tgt := 40) hx hb dX6_leastEye_88 (by decide) ?_
            exact ih0 (v3_40 + (1 : Int32)) (w_40.1, (upd p_54 p_63.toNatClampNeg (v3_40 - p_34)), w_40.2.2.1, w_40.2.2.2.1, w_40.2.2.2.2.1, w_40.2.2.2.2.2.1, w_40.2.2.2.2.2.2.1, w_40.2.2.2.2.2.2.2.1, w_40.2.2.2.2.2.2.2.2.1, w_40.2.2.2.2.2.2.2.2.2.1, w_40.2.2.2.2.2.2.2.2.2.2.1, w_40.2.2.2.2.2.2.2.2.2.2.2.1, w_40.2.2.2.2.2.2.2.2.2.2.2.2.1, w_40.2.2.2.2.2.2.2.2.2.2.2.2.2) _ _ _ h hW (lv_sub hl [0, 1, 2, 3] rfl)
          · have h := hf_80 c_80
            refine lv_iload_n hx hb dX6_leastEye_83 rfl (lv_at hl 0 rfl) ?_
            obtain rfl := Option.some.inj h
            exact x_reti F hr hW rfl dX6_leastEye_84
    exact L0 200 (0 : Int32) w _ _ _ h hW (lv_sub hl [0, 1, 2, 3] rfl)
  · have h := ht_5 c_5
    refine lv_aload_n hx hb dX6_leastEye_8 rfl (lv_at hl 0 rfl) ?_
    refine lv_iconst (v := (-1 : Int32)) hx hb dX6_leastEye_9 (by decide) ?_
    obtain ⟨p_10, hc_10, h⟩ := of_bind h
    refine x_Vi (av := [.ref (q 0), .int (-1 : Int32)]) (As := [.int (-1 : Int32)]) F hW (c_X6_no l G q w (-1 : Int32) _ hc_10) [0, 1, 2, 3, 4, 5, 6, 7, 8, 9] rfl rfl (by intro q; cases q) cv_X6_39 rfl ⟨_, rfl, rfl⟩ rfl rfl rfl hl (Nat.le_of_ble_eq_true rfl) ⟨Nat.le_of_ble_eq_true rfl, Nat.le_of_ble_eq_true rfl⟩ ⟨rfl, rfl⟩ ⟨Nat.le_of_ble_eq_true rfl, Nat.le_of_ble_eq_true rfl⟩ dX6_leastEye_10 rfl [some 0, some 1, some 2, some 3, some 4, some 5, some 6, some 7, some 8, some 9] rfl (ws' := cMW G q p_10.2) rfl (fun H locs hW => ?_)
    obtain rfl := Option.some.inj h
    exact x_reti F hr hW rfl dX6_leastEye_13
def f_X6_cut_100 (k0 : Int32 → Int32 → Int32 → Int32 → Option (Int32 × MW)) (p_20 : Int32) (v8_100 : Int32) (v7_100 : Int32) (v5_100 : Int32) (v4_100 : Int32) (t0_100 : Int32) (t1_100 : Int32) : Option (Int32 × MW) :=
  nm (t1_100 ||| t0_100) fun x_101 =>
    Option.bind (f_X6_has p_20 v7_100) fun p_106 =>
    if p_106 = 0 then
    k0 (v7_100 + (1 : Int32)) x_101 v5_100 v4_100
    else
    Option.bind (f_X6_bits v8_100) fun p_114 =>
    if p_114 < v5_100 then
    Option.bind (f_X6_bits v8_100) fun p_131 =>
    k0 (v7_100 + (1 : Int32)) x_101 p_131 v7_100
    else
    k0 (v7_100 + (1 : Int32)) x_101 v5_100 v4_100
def f_X6_cut_46 (w : MW) (x1 : Int32) (p_20 : Int32) (p_28 : Int32) : Nat → Int32 → Int32 → Int32 → Int32 → Option (Int32 × MW)
  | 0, _, _, _, _ => none
  | n0 + 1, v7_46, v6_46, v5_46, v4_46 =>
    if inR (0 : Int32) 71 then
    if (w.1 (0 : Int32).toNatClampNeg) ≤ v7_46 then
    if x1 = (2 : Int32) then
    some (v6_46, w)
    else
    if v4_46 < 0 then
    some (v4_46, w)
    else
    if x1 = 0 then
    some (v4_46, w)
    else
    some (v5_46, w)
    else
    Option.bind (f_X6_hangBy w.1 (p_20 &&& (((1 : Int32) <<< (v7_46 &&& 31)) ^^^ (-1 : Int32)))) fun p_69 =>
    if ((p_28 &&& (((1 : Int32) <<< (v7_46 &&& 31)) ^^^ (-1 : Int32))) &&& (p_69 ^^^ (-1 : Int32))) = 0 then
    f_X6_cut_100 (fun a0 a1 a2 a3 => f_X6_cut_46 w x1 p_20 p_28 n0 a0 a1 a2 a3) p_20 p_69 v7_46 v5_46 v4_46 (0 : Int32) v6_46
    else
    f_X6_cut_100 (fun a0 a1 a2 a3 => f_X6_cut_46 w x1 p_20 p_28 n0 a0 a1 a2 a3) p_20 p_69 v7_46 v5_46 v4_46 ((1 : Int32) <<< (v7_46 &&& 31)) v6_46
    else none
def f_X6_cut (w : MW) (x1 : Int32) : Option (Int32 × MW) :=
  Option.bind (f_X6_isIn x1 (0 : Int32) (2 : Int32)) fun p_3 =>
    if p_3 = 0 then
    Option.bind (f_X6_no w (-2 : Int32)) fun p_12 =>
    some (p_12.1, p_12.2)
    else
    Option.bind (f_X6_litIn w.1) fun p_20 =>
    Option.bind (f_X6_hangIn w.1) fun p_28 =>
    f_X6_cut_46 w x1 p_20 p_28 200 (0 : Int32) (0 : Int32) (1000000000 : Int32) (-9 : Int32)
abbrev rmX6_cut : Room := { frames := 5, cells := 0, slots := 0, locals := 115 }
set_option maxRecDepth 100000 in
set_option maxHeartbeats 4000000 in
theorem c_X6_cut (l : Launch) (G : EnT) (q : Nat → Nat) (w : MW) (x1 : Int32) (o : Int32 × MW) (h : f_X6_cut w x1 = some o) : Mi l yX6_cut rmX6_cut cX6_cut 9 (some .int) G false [.ref (q 0), .int x1] (cMW G q w) o.1 (cMW G q o.2) := by
  refine Mi_of (by decide) (Nat.le_of_ble_eq_true rfl) ?_
  intro p e s m below meth c A0 F hr hW ls hl
  obtain ⟨hx, hb, hml, hown, hts, hK, hNW, hlocks, hA, hSX⟩ := id F
  have hl : lv_has ls 9 [(0, .ref (q 0)), (1, .int x1)] := hl
  have hW : Wd G A0 s (cMW G q w) s.heap [] := hW
  show W p l e rmX6_cut s m ([.ref (q 0), .int x1] : List Value).toArray below meth c s.heap [] 0 0 (Qi below G (cMW G q o.2) o.1 A0 ([.ref (q 0), .int x1] : List Value).toArray s) (F0 m 0 ls [])
  refine lv_iload_n hx hb dX6_cut_0 rfl (lv_at hl 1 rfl) ?_
  refine lv_iconst (v := (0 : Int32)) hx hb dX6_cut_1 (by decide) ?_
  refine lv_iconst (v := (2 : Int32)) hx hb dX6_cut_2 (by decide) ?_
  obtain ⟨p_3, hc_3, h⟩ := of_bind h
  refine x_Si (av := [.int x1, .int (0 : Int32), .int (2 : Int32)]) F hW (c_X6_isIn l G x1 (0 : Int32) (2 : Int32) _ hc_3) [] rfl rfl (by intro q; cases q) cs_X6_43 rfl rfl hl (Nat.le_of_ble_eq_true rfl) ⟨Nat.le_of_ble_eq_true rfl, Nat.le_of_ble_eq_true rfl⟩ ⟨rfl, rfl⟩ ⟨Nat.le_of_ble_eq_true rfl, Nat.le_of_ble_eq_true rfl⟩ dX6_cut_3 rfl [none, none, none, none, none, none, none, none, none, none] rfl (ws' := cMW G q w) rfl (fun H locs hW => ?_)
  obtain ⟨ht_6, hf_6⟩ := of_ite h
  refine lv_if_ne (tgt := 16) hx hb dX6_cut_6 (by decide) (fun c_6 => ?_) (fun c_6 => ?_)
  · have h := hf_6 c_6
    refine lv_aload_n hx hb dX6_cut_16 rfl (lv_at hl 0 rfl) ?_
    refine x_get F hW 0 rfl fa_X6_9 rfl dX6_cut_17 ?_
    obtain ⟨p_20, hc_20, h⟩ := of_bind h
    refine x_Si (av := [.ref (q 1)]) F hW (c_X6_litIn l G (fun i => q (i + 1)) w.1 _ hc_20) [1] rfl rfl (by intro q; cases q) cs_X6_83 rfl rfl hl (Nat.le_of_ble_eq_true rfl) ⟨Nat.le_of_ble_eq_true rfl, Nat.le_of_ble_eq_true rfl⟩ ⟨rfl, rfl⟩ ⟨Nat.le_of_ble_eq_true rfl, Nat.le_of_ble_eq_true rfl⟩ dX6_cut_20 rfl [none, some 0, none, none, none, none, none, none, none, none] rfl (ws' := cMW G q w) rfl (fun H locs hW => ?_)
    refine lv_istore_n (lv' := [(2, .int p_20), (0, .ref (q 0)), (1, .int x1)]) hx hb dX6_cut_23 rfl hl (by decide) rfl (fun ls hl => ?_)
    refine lv_aload_n hx hb dX6_cut_24 rfl (lv_at hl 1 rfl) ?_
    refine x_get F hW 0 rfl fa_X6_9 rfl dX6_cut_25 ?_
    obtain ⟨p_28, hc_28, h⟩ := of_bind h
    refine x_Si (av := [.ref (q 1)]) F hW (c_X6_hangIn l G (fun i => q (i + 1)) w.1 _ hc_28) [1] rfl rfl (by intro q; cases q) cs_X6_145 rfl rfl hl (Nat.le_of_ble_eq_true rfl) ⟨Nat.le_of_ble_eq_true rfl, Nat.le_of_ble_eq_true rfl⟩ ⟨rfl, rfl⟩ ⟨Nat.le_of_ble_eq_true rfl, Nat.le_of_ble_eq_true rfl⟩ dX6_cut_28 rfl [none, some 0, none, none, none, none, none, none, none, none] rfl (ws' := cMW G q w) rfl (fun H locs hW => ?_)
    refine lv_istore_n (lv' := [(3, .int p_28), (2, .int p_20), (0, .ref (q 0)), (1, .int x1)]) hx hb dX6_cut_31 rfl hl (by decide) rfl (fun ls hl => ?_)
    refine lv_bipush (v := (-9 : Int32)) hx hb dX6_cut_32 (by decide) ?_
    refine lv_istore (lv' := [(4, .int (-9 : Int32)), (3, .int p_28), (2, .int p_20), (0, .ref (q 0)), (1, .int x1)]) hx hb dX6_cut_34 hl (by decide) rfl (fun ls hl => ?_)
    refine lv_ldc (v := (1000000000 : Int32)) hx hb hown (hts _ wd_1086) dX6_cut_36 ?_
    refine lv_istore (lv' := [(5, .int (1000000000 : Int32)), (4, .int (-9 : Int32)), (3, .int p_28), (2, .int p_20), (0, .ref (q 0)), (1, .int x1)]) hx hb dX6_cut_38 hl (by decide) rfl (fun ls hl => ?_)
    refine lv_iconst (v := (0 : Int32)) hx hb dX6_cut_40 (by decide) ?_
    refine lv_istore (lv' := [(6, .int (0 : Int32)), (5, .int (1000000000 : Int32)), (4, .int (-9 : Int32)), (3, .int p_28), (2, .int p_20), (0, .ref (q 0)), (1, .int x1)]) hx hb dX6_cut_41 hl (by decide) rfl (fun ls hl => ?_)
    refine lv_iconst (v := (0 : Int32)) hx hb dX6_cut_43 (by decide) ?_
    refine lv_istore (lv' := [(7, .int (0 : Int32)), (6, .int (0 : Int32)), (5, .int (1000000000 : Int32)), (4, .int (-9 : Int32)), (3, .int p_28), (2, .int p_20), (0, .ref (q 0)), (1, .int x1)]) hx hb dX6_cut_44 hl (by decide) rfl (fun ls hl => ?_)
    have L0 : ∀ (n0 : Nat) (v7_46 : Int32) (v6_46 : Int32) (v5_46 : Int32) (v4_46 : Int32) (H : Heap) (locs : List Loc) (ls : Array Slot), f_X6_cut_46 w x1 p_20 p_28 n0 v7_46 v6_46 v5_46 v4_46 = some o → Wd G A0 s (cMW G q w) H locs → lv_has ls 9 [(7, .int v7_46), (6, .int v6_46), (5, .int v5_46), (4, .int v4_46), (3, .int p_28), (2, .int p_20), (0, .ref (q 0)), (1, .int x1)] → W p l e rmX6_cut s m ([.ref (q 0), .int x1] : List Value).toArray below meth c H locs 0 0 (Qi below G (cMW G q o.2) o.1 A0 ([.ref (q 0), .int x1] : List Value).toArray s) (F0 m 46 ls []) := by
      intro n0
      induction n0 with
      | zero => intro v7_46 v6_46 v5_46 v4_46 H locs ls h; cases (show (none : Option (Int32 × MW)) = some o from h)
      | succ n0 ih0 =>
        intro v7_46 v6_46 v5_46 v4_46 H locs ls h hW hl
        have J1 : ∀ (v8_100 : Int32) (v7_100 : Int32) (v5_100 : Int32) (v4_100 : Int32) (t0_100 : Int32) (t1_100 : Int32) (H : Heap) (locs : List Loc) (ls : Array Slot), f_X6_cut_100 (fun a0 a1 a2 a3 => f_X6_cut_46 w x1 p_20 p_28 n0 a0 a1 a2 a3) p_20 v8_100 v7_100 v5_100 v4_100 t0_100 t1_100 = some o → Wd G A0 s (cMW G q w) H locs → lv_has ls 9 [(8, .int v8_100), (7, .int v7_100), (5, .int v5_100), (4, .int v4_100), (3, .int p_28), (2, .int p_20), (0, .ref (q 0)), (1, .int x1)] → W p l e rmX6_cut s m ([.ref (q 0), .int x1] : List Value).toArray below meth c H locs 0 0 (Qi below G (cMW G q o.2) o.1 A0 ([.ref (q 0), .int x1] : List Value).toArray s) (F0 m 100 ls [.int t0_100, .int t1_100]) := by
          intro v8_100 v7_100 v5_100 v4_100 t0_100 t1_100 H locs ls h hW hl
          refine lv_ior hx hb dX6_cut_100 ?_
          obtain ⟨x_101, e_x_101, h⟩ := of_nm h
          refine x_topi e_x_101 ?_
          refine lv_istore (lv' := [(6, .int x_101), (8, .int v8_100), (7, .int v7_100), (5, .int v5_100), (4, .int v4_100), (3, .int p_28), (2, .int p_20), (0, .ref (q 0)), (1, .int x1)]) hx hb dX6_cut_101 hl (by decide) rfl (fun ls hl => ?_)
          refine lv_iload_n hx hb dX6_cut_103 rfl (lv_at hl 6 rfl) ?_
          refine lv_iload hx hb dX6_cut_104 (lv_at hl 2 rfl) ?_
          obtain ⟨p_106, hc_106, h⟩ := of_bind h
          refine x_Si (av := [.int p_20, .int v7_100]) F hW (c_X6_has l G p_20 v7_100 _ hc_106) [] rfl rfl (by intro q; cases q) cs_X6_75 rfl rfl hl (Nat.le_of_ble_eq_true rfl) ⟨Nat.le_of_ble_eq_true rfl, Nat.le_of_ble_eq_true rfl⟩ ⟨rfl, rfl⟩ ⟨Nat.le_of_ble_eq_true rfl, Nat.le_of_ble_eq_true rfl⟩ dX6_cut_106 rfl [none, none, none, none, none, none, none, none, none, none] rfl (ws' := cMW G q w) rfl (fun H locs hW => ?_)
          obtain ⟨ht_109, hf_109⟩ := of_ite h
          refine lv_if_eq (tgt := 136) hx hb dX6_cut_109 (by decide) (fun c_109 => ?_) (fun c_109 => ?_)
          · have h := ht_109 c_109
            refine lv_iinc (v := (v7_100 + (1 : Int32))) (lv' := [(7, .int (v7_100 + (1 : Int32))), (6, .int x_101), (8, .int v8_100), (5, .int v5_100), (4, .int v4_100), (3, .int p_28), (2, .int p_20), (0, .ref (q 0)), (1, .int x1)]) hx hb dX6_cut_136 hl (k := 2) rfl rfl (by decide) rfl (fun ls hl => ?_)
            refine lv_goto (tgt := 46) hx hb dX6_cut_139 (by decide) ?_
            exact ih0 (v7_100 + (1 : Int32)) x_101 v5_100 v4_100 _ _ _ h hW (lv_sub hl [0, 1, 3, 4, 5, 6, 7, 8] rfl)
          · have h := hf_109 c_109
            refine lv_iload hx hb dX6_cut_112 (lv_at hl 1 rfl) ?_
            obtain ⟨p_114, hc_114, h⟩ := of_bind h
            refine x_Si (av := [.int v8_100]) F hW (c_X6_bits l G v8_100 _ hc_114) [] rfl rfl (by intro q; cases q) cs_X6_148 rfl rfl hl (Nat.le_of_ble_eq_true rfl) ⟨Nat.le_of_ble_eq_true rfl, Nat.le_of_ble_eq_true rfl⟩ ⟨rfl, rfl⟩ ⟨Nat.le_of_ble_eq_true rfl, Nat.le_of_ble_eq_true rfl⟩ dX6_cut_114 rfl [none, none, none, none, none, none, none, none, none, none] rfl (ws' := cMW G q w) rfl (fun H locs hW => ?_)
            refine lv_iload hx hb dX6_cut_117 (lv_at hl 3 rfl) ?_
            obtain ⟨ht_119, hf_119⟩ := of_ite h
            refine lv_icmp_lt (tgt := 125) hx hb dX6_cut_119 (by decide) (fun c_119 => ?_) (fun c_119 => ?_)
            · have h := ht_119 c_119
              refine lv_iload hx hb dX6_cut_125 (lv_at hl 2 rfl) ?_
              refine lv_istore (lv' := [(4, .int v7_100), (6, .int x_101), (8, .int v8_100), (7, .int v7_100), (5, .int v5_100), (3, .int p_28), (2, .int p_20), (0, .ref (q 0)), (1, .int x1)]) hx hb dX6_cut_127 hl (by decide) rfl (fun ls hl => ?_)
              refine lv_iload hx hb dX6_cut_129 (lv_at hl 2 rfl) ?_
              obtain ⟨p_131, hc_131, h⟩ := of_bind h
              refine x_Si (av := [.int v8_100]) F hW (c_X6_bits l G v8_100 _ hc_131) [] rfl rfl (by intro q; cases q) cs_X6_148 rfl rfl hl (Nat.le_of_ble_eq_true rfl) ⟨Nat.le_of_ble_eq_true rfl, Nat.le_of_ble_eq_true rfl⟩ ⟨rfl, rfl⟩ ⟨Nat.le_of_ble_eq_true rfl, Nat.le_of_ble_eq_true rfl⟩ dX6_cut_131 rfl [none, none, none, none, none, none, none, none, none, none] rfl (ws' := cMW G q w) rfl (fun H locs hW => ?_)
              refine lv_istore (lv' := [(5, .int p_131), (4, .int v7_100), (6, .int x_101), (8, .int v8_100), (7, .int v7_100), (3, .int p_28), (2, .int p_20), (0, .ref (q 0)), (1, .int x1)]) hx hb dX6_cut_134 hl (by decide) rfl (fun ls hl => ?_)
              refine lv_iinc (v := (v7_100 + (1 : Int32))) (lv' := [(7, .int (v7_100 + (1 : Int32))), (5, .int p_131), (4, .int v7_100), (6, .int x_101), (8, .int v8_100), (3, .int p_28), (2, .int p_20), (0, .ref (q 0)), (1, .int x1)]) hx hb dX6_cut_136 hl (k := 4) rfl rfl (by decide) rfl (fun ls hl => ?_)
              refine lv_goto (tgt := 46) hx hb dX6_cut_139 (by decide) ?_
              exact ih0 (v7_100 + (1 : Int32)) x_101 p_131 v7_100 _ _ _ h hW (lv_sub hl [0, 3, 1, 2, 5, 6, 7, 8] rfl)
            · have h := hf_119 c_119
              refine lv_goto (tgt := 136) hx hb dX6_cut_122 (by decide) ?_
              refine lv_iinc (v := (v7_100 + (1 : Int32))) (lv' := [(7, .int (v7_100 + (1 : Int32))), (6, .int x_101), (8, .int v8_100), (5, .int v5_100), (4, .int v4_100), (3, .int p_28), (2, .int p_20), (0, .ref (q 0)), (1, .int x1)]) hx hb dX6_cut_136 hl (k := 2) rfl rfl (by decide) rfl (fun ls hl => ?_)
              refine lv_goto (tgt := 46) hx hb dX6_cut_139 (by decide) ?_
              exact ih0 (v7_100 + (1 : Int32)) x_101 v5_100 v4_100 _ _ _ h hW (lv_sub hl [0, 1, 3, 4, 5, 6, 7, 8] rfl)
        refine lv_iload hx hb dX6_cut_46 (lv_at hl 0 rfl) ?_
        refine lv_aload_n hx hb dX6_cut_48 rfl (lv_at hl 6 rfl) ?_
        refine x_get F hW 0 rfl fa_X6_9 rfl dX6_cut_49 ?_
        refine lv_iconst (v := (0 : Int32)) hx hb dX6_cut_52 (by decide) ?_
        obtain ⟨g_53, h⟩ := of_guard h
        refine x_iald F hW 1 rfl g_53 dX6_cut_53 ?_
        obtain ⟨ht_54, hf_54⟩ := of_ite h
        refine lv_icmp_ge (tgt := 142) hx hb dX6_cut_54 (by decide) (fun c_54 => ?_) (fun c_54 => ?_)
        · have h := ht_54 c_54
          refine lv_iload_n hx hb dX6_cut_142 rfl (lv_at hl 7 rfl) ?_
          refine lv_iconst (v := (2 : Int32)) hx hb dX6_cut_143 (by decide) ?_
          obtain ⟨ht_144, hf_144⟩ := of_ite h
          refine lv_icmp_ne (tgt := 152) hx hb dX6_cut_144 (by decide) (fun c_144 => ?_) (fun c_144 => ?_)
          · have h := hf_144 c_144
            refine lv_iload hx hb dX6_cut_152 (lv_at hl 3 rfl) ?_
            obtain ⟨ht_154, hf_154⟩ := of_ite h
            refine lv_if_lt (tgt := 161) hx hb dX6_cut_154 (by decide) (fun c_154 => ?_) (fun c_154 => ?_)
            · have h := ht_154 c_154
              refine lv_iload hx hb dX6_cut_161 (lv_at hl 3 rfl) ?_
              refine lv_goto (tgt := 168) hx hb dX6_cut_163 (by decide) ?_
              obtain rfl := Option.some.inj h
              exact x_reti F hr hW rfl dX6_cut_168
            · have h := hf_154 c_154
              refine lv_iload_n hx hb dX6_cut_157 rfl (lv_at hl 7 rfl) ?_
              obtain ⟨ht_158, hf_158⟩ := of_ite h
              refine lv_if_ne (tgt := 166) hx hb dX6_cut_158 (by decide) (fun c_158 => ?_) (fun c_158 => ?_)
              · have h := hf_158 c_158
                refine lv_iload hx hb dX6_cut_166 (lv_at hl 2 rfl) ?_
                obtain rfl := Option.some.inj h
                exact x_reti F hr hW rfl dX6_cut_168
              · have h := ht_158 c_158
                refine lv_iload hx hb dX6_cut_161 (lv_at hl 3 rfl) ?_
                refine lv_goto (tgt := 168) hx hb dX6_cut_163 (by decide) ?_
                obtain rfl := Option.some.inj h
                exact x_reti F hr hW rfl dX6_cut_168
          · have h := ht_144 c_144
            refine lv_iload hx hb dX6_cut_147 (lv_at hl 1 rfl) ?_
            refine lv_goto (tgt := 168) hx hb dX6_cut_149 (by decide) ?_
            obtain rfl := Option.some.inj h
            exact x_reti F hr hW rfl dX6_cut_168
        · have h := hf_54 c_54
          refine lv_aload_n hx hb dX6_cut_57 rfl (lv_at hl 6 rfl) ?_
          refine x_get F hW 0 rfl fa_X6_9 rfl dX6_cut_58 ?_
          refine lv_iload_n hx hb dX6_cut_61 rfl (lv_at hl 5 rfl) ?_
          refine lv_iconst (v := (1 : Int32)) hx hb dX6_cut_62 (by decide) ?_
          refine lv_iload hx hb dX6_cut_63 (lv_at hl 0 rfl) ?_
          refine lv_ishl hx hb dX6_cut_65 ?_
          refine lv_iconst (v := (-1 : Int32)) hx hb dX6_cut_66 (by decide) ?_
          refine lv_ixor hx hb dX6_cut_67 ?_
          refine lv_iand hx hb dX6_cut_68 ?_
          obtain ⟨p_69, hc_69, h⟩ := of_bind h
          refine x_Si (av := [.ref (q 1), .int (p_20 &&& (((1 : Int32) <<< (v7_46 &&& 31)) ^^^ (-1 : Int32)))]) F hW (c_X6_hangBy l G (fun i => q (i + 1)) w.1 (p_20 &&& (((1 : Int32) <<< (v7_46 &&& 31)) ^^^ (-1 : Int32))) _ hc_69) [1] rfl rfl (by intro q; cases q) cs_X6_87 rfl rfl hl (Nat.le_of_ble_eq_true rfl) ⟨Nat.le_of_ble_eq_true rfl, Nat.le_of_ble_eq_true rfl⟩ ⟨rfl, rfl⟩ ⟨Nat.le_of_ble_eq_true rfl, Nat.le_of_ble_eq_true rfl⟩ dX6_cut_69 rfl [none, some 0, none, none, none, none, none, none, none, none] rfl (ws' := cMW G q w) rfl (fun H locs hW => ?_)
          refine lv_istore (lv' := [(8, .int p_69), (7, .int v7_46), (6, .int v6_46), (5, .int v5_46), (4, .int v4_46), (3, .int p_28), (2, .int p_20), (0, .ref (q 0)), (1, .int x1)]) hx hb dX6_cut_72 hl (by decide) rfl (fun ls hl => ?_)
          refine lv_iload hx hb dX6_cut_74 (lv_at hl 2 rfl) ?_
          refine lv_iload_n hx hb dX6_cut_76 rfl (lv_at hl 5 rfl) ?_
          refine lv_iconst (v := (1 : Int32)) hx hb dX6_cut_77 (by decide) ?_
          refine lv_iload hx hb dX6_cut_78 (lv_at hl 1 rfl) ?_
          refine lv_ishl hx hb dX6_cut_80 ?_
          refine lv_iconst (v := (-1 : Int32)) hx hb dX6_cut_81 (by decide) ?_
          refine lv_ixor hx hb dX6_cut_82 ?_
          refine lv_iand hx hb dX6_cut_83 ?_
          refine lv_iload hx hb dX6_cut_84 (lv_at hl 0 rfl) ?_
          refine lv_iconst (v := (-1 : Int32)) hx hb dX6_cut_86 (by decide) ?_
          refine lv_ixor hx hb dX6_cut_87 ?_
          refine lv_iand hx hb dX6_cut_88 ?_
          obtain ⟨ht_89, hf_89⟩ := of_ite h
          refine lv_if_eq (tgt := 99) hx hb dX6_cut_89 (by decide) (fun c_89 => ?_) (fun c_89 => ?_)
          · have h := ht_89 c_89
            refine lv_iconst (v := (0 : Int32)) hx hb dX6_cut_99 (by decide) ?_
            exact J1 p_69 v7_46 v5_46 v4_46 (0 : Int32) v6_46 _ _ _ h hW (lv_sub hl [0, 1, 3, 4, 5, 6, 7, 8] rfl)
          · have h := hf_89 c_89
            refine lv_iconst (v := (1 : Int32)) hx hb dX6_cut_92 (by decide) ?_
            refine lv_iload hx hb dX6_cut_93 (lv_at hl 1 rfl) ?_
            refine lv_ishl hx hb dX6_cut_95 ?_
            refine lv_goto (tgt := 100) hx hb dX6_cut_96 (by decide) ?_
            exact J1 p_69 v7_46 v5_46 v4_46 ((1 : Int32) <<< (v7_46 &&& 31)) v6_46 _ _ _ h hW (lv_sub hl [0, 1, 3, 4, 5, 6, 7, 8] rfl)
    exact L0 200 (0 : Int32) (0 : Int32) (1000000000 : Int32) (-9 : Int32) _ _ _ h hW (lv_sub hl [0, 1, 2, 3, 4, 5, 6, 7] rfl)
  · have h := ht_6 c_6
    refine lv_aload_n hx hb dX6_cut_9 rfl (lv_at hl 0 rfl) ?_
    refine lv_bipush (v := (-2 : Int32)) hx hb dX6_cut_10 (by decide) ?_
    obtain ⟨p_12, hc_12, h⟩ := of_bind h
    refine x_Vi (av := [.ref (q 0), .int (-2 : Int32)]) (As := [.int (-2 : Int32)]) F hW (c_X6_no l G q w (-2 : Int32) _ hc_12) [0, 1, 2, 3, 4, 5, 6, 7, 8, 9] rfl rfl (by intro q; cases q) cv_X6_39 rfl ⟨_, rfl, rfl⟩ rfl rfl rfl hl (Nat.le_of_ble_eq_true rfl) ⟨Nat.le_of_ble_eq_true rfl, Nat.le_of_ble_eq_true rfl⟩ ⟨rfl, rfl⟩ ⟨Nat.le_of_ble_eq_true rfl, Nat.le_of_ble_eq_true rfl⟩ dX6_cut_12 rfl [some 0, some 1, some 2, some 3, some 4, some 5, some 6, some 7, some 8, some 9] rfl (ws' := cMW G q p_12.2) rfl (fun H locs hW => ?_)
    obtain rfl := Option.some.inj h
    exact x_reti F hr hW rfl dX6_cut_15
