def f_X6_night_38 (k0 : Int32 → Int32 → (Nat → Int32) → Option (Int32 × (Nat → Int32))) (v3_38 : Int32) (v2_38 : Int32) (t0_38 : Int32) (w_38 : (Nat → Int32)) : Option (Int32 × (Nat → Int32)) :=
  Option.bind (f_X6_of v3_38 (3 : Int32)) fun p_43 =>
    if inR p_43 71 then
    if inR p_43 71 then
    nm (v2_38 + t0_38) fun x_56 =>
    k0 (v3_38 + (1 : Int32)) x_56 (upd w_38 p_43.toNatClampNeg ((w_38 p_43.toNatClampNeg) - t0_38))
    else none
    else none
def f_X6_night_9 (p_1 : Int32) : Nat → Int32 → Int32 → (Nat → Int32) → Option (Int32 × (Nat → Int32))
  | 0, _, _, _ => none
  | n0 + 1, v3_9, v2_9, w_9 =>
    if inR (0 : Int32) 71 then
    if (w_9 (0 : Int32).toNatClampNeg) ≤ v3_9 then
    if inR (1 : Int32) 71 then
    if inR (1 : Int32) 71 then
    some (v2_9, (upd w_9 (1 : Int32).toNatClampNeg ((w_9 (1 : Int32).toNatClampNeg) + (1 : Int32))))
    else none
    else none
    else
    Option.bind (f_X6_has p_1 v3_9) fun p_18 =>
    if p_18 = 0 then
    f_X6_night_38 (fun a0 a1 a2 => f_X6_night_9 p_1 n0 a0 a1 a2) v3_9 v2_9 (0 : Int32) w_9
    else
    Option.bind (f_X6_of v3_9 (0 : Int32)) fun p_27 =>
    if inR p_27 71 then
    Option.bind (f_X6_burnsBy (w_9 p_27.toNatClampNeg)) fun p_31 =>
    f_X6_night_38 (fun a0 a1 a2 => f_X6_night_9 p_1 n0 a0 a1 a2) v3_9 v2_9 p_31 w_9
    else none
    else none
def f_X6_night (w : (Nat → Int32)) : Option (Int32 × (Nat → Int32)) :=
  Option.bind (f_X6_litIn w) fun p_1 =>
    f_X6_night_9 p_1 200 (0 : Int32) (0 : Int32) w
abbrev rmX6_night : Room := { frames := 3, cells := 0, slots := 0, locals := 67 }
set_option maxRecDepth 100000 in
set_option maxHeartbeats 4000000 in
theorem c_X6_night (l : Launch) (G : EnT) (q : Nat → Nat) (w : (Nat → Int32)) (o : Int32 × (Nat → Int32)) (h : f_X6_night w = some o) : Mi l yX6_night rmX6_night cX6_night 5 (some .int) G false [.ref (q 0)] (cAR G 71 q w) o.1 (cAR G 71 q o.2) := by
  refine Mi_of (by decide) (Nat.le_of_ble_eq_true rfl) ?_
  intro p e s m below meth c A0 F hr hW ls hl
  obtain ⟨hx, hb, hml, hown, hts, hK, hNW, hlocks, hA, hSX⟩ := id F
  have hl : lv_has ls 5 [(0, .ref (q 0))] := hl
  have hW : Wd G A0 s (cAR G 71 q w) s.heap [] := hW
  show W p l e rmX6_night s m ([.ref (q 0)] : List Value).toArray below meth c s.heap [] 0 0 (Qi below G (cAR G 71 q o.2) o.1 A0 ([.ref (q 0)] : List Value).toArray s) (F0 m 0 ls [])
  refine lv_aload_n hx hb dX6_night_0 rfl (lv_at hl 0 rfl) ?_
  obtain ⟨p_1, hc_1, h⟩ := of_bind h
  refine x_Si (av := [.ref (q 0)]) F hW (c_X6_litIn l G q w _ hc_1) [0] rfl rfl (by intro q; cases q) cs_X6_83 rfl rfl hl (Nat.le_of_ble_eq_true rfl) ⟨Nat.le_of_ble_eq_true rfl, Nat.le_of_ble_eq_true rfl⟩ ⟨rfl, rfl⟩ ⟨Nat.le_of_ble_eq_true rfl, Nat.le_of_ble_eq_true rfl⟩ dX6_night_1 rfl [some 0] rfl (ws' := cAR G 71 q w) rfl (fun H locs hW => ?_)
  refine lv_istore_n (lv' := [(1, .int p_1), (0, .ref (q 0))]) hx hb dX6_night_4 rfl hl (by decide) rfl (fun ls hl => ?_)
  refine lv_iconst (v := (0 : Int32)) hx hb dX6_night_5 (by decide) ?_
  refine lv_istore_n (lv' := [(2, .int (0 : Int32)), (1, .int p_1), (0, .ref (q 0))]) hx hb dX6_night_6 rfl hl (by decide) rfl (fun ls hl => ?_)
  refine lv_iconst (v := (0 : Int32)) hx hb dX6_night_7 (by decide) ?_
  refine lv_istore_n (lv' := [(3, .int (0 : Int32)), (2, .int (0 : Int32)), (1, .int p_1), (0, .ref (q 0))]) hx hb dX6_night_8 rfl hl (by decide) rfl (fun ls hl => ?_)
  have L0 : ∀ (n0 : Nat) (v3_9 : Int32) (v2_9 : Int32) (w_9 : (Nat → Int32)) (H : Heap) (locs : List Loc) (ls : Array Slot), f_X6_night_9 p_1 n0 v3_9 v2_9 w_9 = some o → Wd G A0 s (cAR G 71 q w_9) H locs → lv_has ls 5 [(3, .int v3_9), (2, .int v2_9), (1, .int p_1), (0, .ref (q 0))] → W p l e rmX6_night s m ([.ref (q 0)] : List Value).toArray below meth c H locs 0 0 (Qi below G (cAR G 71 q o.2) o.1 A0 ([.ref (q 0)] : List Value).toArray s) (F0 m 9 ls []) := by
    intro n0
    induction n0 with
    | zero => intro v3_9 v2_9 w_9 H locs ls h; cases (show (none : Option (Int32 × (Nat → Int32))) = some o from h)
    | succ n0 ih0 =>
      intro v3_9 v2_9 w_9 H locs ls h hW hl
      have J1 : ∀ (v3_38 : Int32) (v2_38 : Int32) (t0_38 : Int32) (w_38 : (Nat → Int32)) (H : Heap) (locs : List Loc) (ls : Array Slot), f_X6_night_38 (fun a0 a1 a2 => f_X6_night_9 p_1 n0 a0 a1 a2) v3_38 v2_38 t0_38 w_38 = some o → Wd G A0 s (cAR G 71 q w_38) H locs → lv_has ls 5 [(3, .int v3_38), (2, .int v2_38), (1, .int p_1), (0, .ref (q 0))] → W p l e rmX6_night s m ([.ref (q 0)] : List Value).toArray below meth c H locs 0 0 (Qi below G (cAR G 71 q o.2) o.1 A0 ([.ref (q 0)] : List Value).toArray s) (F0 m 38 ls [.int t0_38]) := by
        intro v3_38 v2_38 t0_38 w_38 H locs ls h hW hl
        refine lv_istore (lv' := [(4, .int t0_38), (3, .int v3_38), (2, .int v2_38), (1, .int p_1), (0, .ref (q 0))]) hx hb dX6_night_38 hl (by decide) rfl (fun ls hl => ?_)
        refine lv_aload_n hx hb dX6_night_40 rfl (lv_at hl 4 rfl) ?_
        refine lv_iload_n hx hb dX6_night_41 rfl (lv_at hl 1 rfl) ?_
        refine lv_iconst (v := (3 : Int32)) hx hb dX6_night_42 (by decide) ?_
        obtain ⟨p_43, hc_43, h⟩ := of_bind h
        refine x_Si (av := [.int v3_38, .int (3 : Int32)]) F hW (c_X6_of l G v3_38 (3 : Int32) _ hc_43) [] rfl rfl (by intro q; cases q) cs_X6_47 rfl rfl hl (Nat.le_of_ble_eq_true rfl) ⟨Nat.le_of_ble_eq_true rfl, Nat.le_of_ble_eq_true rfl⟩ ⟨rfl, rfl⟩ ⟨Nat.le_of_ble_eq_true rfl, Nat.le_of_ble_eq_true rfl⟩ dX6_night_43 rfl [none] rfl (ws' := cAR G 71 q w_38) rfl (fun H locs hW => ?_)
        refine lv_dup2_11 hx hb dX6_night_46 rfl rfl ?_
        obtain ⟨g_47, h⟩ := of_guard h
        refine x_iald F hW 0 rfl g_47 dX6_night_47 ?_
        refine lv_iload hx hb dX6_night_48 (lv_at hl 0 rfl) ?_
        refine lv_isub hx hb dX6_night_50 ?_
        obtain ⟨g_51, h⟩ := of_guard h
        refine x_iast F hW 0 rfl g_51 (ws' := cAR G 71 q (upd w_38 p_43.toNatClampNeg ((w_38 p_43.toNatClampNeg) - t0_38))) rfl dX6_night_51 (fun H locs hW => ?_)
        refine lv_iload_n hx hb dX6_night_52 rfl (lv_at hl 2 rfl) ?_
        refine lv_iload hx hb dX6_night_53 (lv_at hl 0 rfl) ?_
        refine lv_iadd hx hb dX6_night_55 ?_
        obtain ⟨x_56, e_x_56, h⟩ := of_nm h
        refine x_topi e_x_56 ?_
        refine lv_istore_n (lv' := [(2, .int x_56), (4, .int t0_38), (3, .int v3_38), (1, .int p_1), (0, .ref (q 0))]) hx hb dX6_night_56 rfl hl (by decide) rfl (fun ls hl => ?_)
        refine lv_iinc (v := (v3_38 + (1 : Int32))) (lv' := [(3, .int (v3_38 + (1 : Int32))), (2, .int x_56), (4, .int t0_38), (1, .int p_1), (0, .ref (q 0))]) hx hb dX6_night_57 hl (k := 2) rfl rfl (by decide) rfl (fun ls hl => ?_)
        refine lv_goto (tgt := 9) hx hb dX6_night_60 (by decide) ?_
        exact ih0 (v3_38 + (1 : Int32)) x_56 (upd w_38 p_43.toNatClampNeg ((w_38 p_43.toNatClampNeg) - t0_38)) _ _ _ h hW (lv_sub hl [0, 1, 3, 4] rfl)
      refine lv_iload_n hx hb dX6_night_9 rfl (lv_at hl 0 rfl) ?_
      refine lv_aload_n hx hb dX6_night_10 rfl (lv_at hl 3 rfl) ?_
      refine lv_iconst (v := (0 : Int32)) hx hb dX6_night_11 (by decide) ?_
      obtain ⟨g_12, h⟩ := of_guard h
      refine x_iald F hW 0 rfl g_12 dX6_night_12 ?_
      obtain ⟨ht_13, hf_13⟩ := of_ite h
      refine lv_icmp_ge (tgt := 63) hx hb dX6_night_13 (by decide) (fun c_13 => ?_) (fun c_13 => ?_)
      · have h := ht_13 c_13
        refine lv_aload_n hx hb dX6_night_63 rfl (lv_at hl 3 rfl) ?_
        refine lv_iconst (v := (1 : Int32)) hx hb dX6_night_64 (by decide) ?_
        refine lv_dup2_11 hx hb dX6_night_65 rfl rfl ?_
        obtain ⟨g_66, h⟩ := of_guard h
        refine x_iald F hW 0 rfl g_66 dX6_night_66 ?_
        refine lv_iconst (v := (1 : Int32)) hx hb dX6_night_67 (by decide) ?_
        refine lv_iadd hx hb dX6_night_68 ?_
        obtain ⟨g_69, h⟩ := of_guard h
        refine x_iast F hW 0 rfl g_69 (ws' := cAR G 71 q (upd w_9 (1 : Int32).toNatClampNeg ((w_9 (1 : Int32).toNatClampNeg) + (1 : Int32)))) rfl dX6_night_69 (fun H locs hW => ?_)
        refine lv_iload_n hx hb dX6_night_70 rfl (lv_at hl 1 rfl) ?_
        obtain rfl := Option.some.inj h
        exact x_reti F hr hW rfl dX6_night_71
      · have h := hf_13 c_13
        refine lv_iload_n hx hb dX6_night_16 rfl (lv_at hl 2 rfl) ?_
        refine lv_iload_n hx hb dX6_night_17 rfl (lv_at hl 0 rfl) ?_
        obtain ⟨p_18, hc_18, h⟩ := of_bind h
        refine x_Si (av := [.int p_1, .int v3_9]) F hW (c_X6_has l G p_1 v3_9 _ hc_18) [] rfl rfl (by intro q; cases q) cs_X6_75 rfl rfl hl (Nat.le_of_ble_eq_true rfl) ⟨Nat.le_of_ble_eq_true rfl, Nat.le_of_ble_eq_true rfl⟩ ⟨rfl, rfl⟩ ⟨Nat.le_of_ble_eq_true rfl, Nat.le_of_ble_eq_true rfl⟩ dX6_night_18 rfl [none] rfl (ws' := cAR G 71 q w_9) rfl (fun H locs hW => ?_)
        obtain ⟨ht_21, hf_21⟩ := of_ite h
        refine lv_if_eq (tgt := 37) hx hb dX6_night_21 (by decide) (fun c_21 => ?_) (fun c_21 => ?_)
        · have h := ht_21 c_21
          refine lv_iconst (v := (0 : Int32)) hx hb dX6_night_37 (by decide) ?_
          exact J1 v3_9 v2_9 (0 : Int32) w_9 _ _ _ h hW (lv_sub hl [0, 1, 2, 3] rfl)
        · have h := hf_21 c_21
          refine lv_aload_n hx hb dX6_night_24 rfl (lv_at hl 3 rfl) ?_
          refine lv_iload_n hx hb dX6_night_25 rfl (lv_at hl 0 rfl) ?_
          refine lv_iconst (v := (0 : Int32)) hx hb dX6_night_26 (by decide) ?_
          obtain ⟨p_27, hc_27, h⟩ := of_bind h
          refine x_Si (av := [.int v3_9, .int (0 : Int32)]) F hW (c_X6_of l G v3_9 (0 : Int32) _ hc_27) [] rfl rfl (by intro q; cases q) cs_X6_47 rfl rfl hl (Nat.le_of_ble_eq_true rfl) ⟨Nat.le_of_ble_eq_true rfl, Nat.le_of_ble_eq_true rfl⟩ ⟨rfl, rfl⟩ ⟨Nat.le_of_ble_eq_true rfl, Nat.le_of_ble_eq_true rfl⟩ dX6_night_27 rfl [none] rfl (ws' := cAR G 71 q w_9) rfl (fun H locs hW => ?_)
          obtain ⟨g_30, h⟩ := of_guard h
          refine x_iald F hW 0 rfl g_30 dX6_night_30 ?_
          obtain ⟨p_31, hc_31, h⟩ := of_bind h
          refine x_Si (av := [.int (w_9 p_27.toNatClampNeg)]) F hW (c_X6_burnsBy l G (w_9 p_27.toNatClampNeg) _ hc_31) [] rfl rfl (by intro q; cases q) cs_X6_51 rfl rfl hl (Nat.le_of_ble_eq_true rfl) ⟨Nat.le_of_ble_eq_true rfl, Nat.le_of_ble_eq_true rfl⟩ ⟨rfl, rfl⟩ ⟨Nat.le_of_ble_eq_true rfl, Nat.le_of_ble_eq_true rfl⟩ dX6_night_31 rfl [none] rfl (ws' := cAR G 71 q w_9) rfl (fun H locs hW => ?_)
          refine lv_goto (tgt := 38) hx hb dX6_night_34 (by decide) ?_
          exact J1 v3_9 v2_9 p_31 w_9 _ _ _ h hW (lv_sub hl [0, 1, 2, 3] rfl)
  exact L0 200 (0 : Int32) (0 : Int32) w _ _ _ h hW (lv_sub hl [0, 1, 2, 3] rfl)
def f_X6_nightsOn_4 (x1 : Int32) : Nat → Int32 → Int32 → (Nat → Int32) → Option (Int32 × (Nat → Int32))
  | 0, _, _, _ => none
  | n0 + 1, v3_4, v2_4, w_4 =>
    if x1 ≤ v3_4 then
    some (v2_4, w_4)
    else
    Option.bind (f_X6_night w_4) fun p_11 =>
    nm (v2_4 + p_11.1) fun x_15 =>
    f_X6_nightsOn_4 x1 n0 (v3_4 + (1 : Int32)) x_15 p_11.2
def f_X6_nightsOn (w : (Nat → Int32)) (x1 : Int32) : Option (Int32 × (Nat → Int32)) :=
  f_X6_nightsOn_4 x1 200 (0 : Int32) (0 : Int32) w
abbrev rmX6_nightsOn : Room := { frames := 4, cells := 0, slots := 0, locals := 91 }
set_option maxRecDepth 100000 in
set_option maxHeartbeats 4000000 in
theorem c_X6_nightsOn (l : Launch) (G : EnT) (q : Nat → Nat) (w : (Nat → Int32)) (x1 : Int32) (o : Int32 × (Nat → Int32)) (h : f_X6_nightsOn w x1 = some o) : Mi l yX6_nightsOn rmX6_nightsOn cX6_nightsOn 4 (some .int) G false [.ref (q 0), .int x1] (cAR G 71 q w) o.1 (cAR G 71 q o.2) := by
  refine Mi_of (by decide) (Nat.le_of_ble_eq_true rfl) ?_
  intro p e s m below meth c A0 F hr hW ls hl
  obtain ⟨hx, hb, hml, hown, hts, hK, hNW, hlocks, hA, hSX⟩ := id F
  have hl : lv_has ls 4 [(0, .ref (q 0)), (1, .int x1)] := hl
  have hW : Wd G A0 s (cAR G 71 q w) s.heap [] := hW
  show W p l e rmX6_nightsOn s m ([.ref (q 0), .int x1] : List Value).toArray below meth c s.heap [] 0 0 (Qi below G (cAR G 71 q o.2) o.1 A0 ([.ref (q 0), .int x1] : List Value).toArray s) (F0 m 0 ls [])
  refine lv_iconst (v := (0 : Int32)) hx hb dX6_nightsOn_0 (by decide) ?_
  refine lv_istore_n (lv' := [(2, .int (0 : Int32)), (0, .ref (q 0)), (1, .int x1)]) hx hb dX6_nightsOn_1 rfl hl (by decide) rfl (fun ls hl => ?_)
  refine lv_iconst (v := (0 : Int32)) hx hb dX6_nightsOn_2 (by decide) ?_
  refine lv_istore_n (lv' := [(3, .int (0 : Int32)), (2, .int (0 : Int32)), (0, .ref (q 0)), (1, .int x1)]) hx hb dX6_nightsOn_3 rfl hl (by decide) rfl (fun ls hl => ?_)
  have L0 : ∀ (n0 : Nat) (v3_4 : Int32) (v2_4 : Int32) (w_4 : (Nat → Int32)) (H : Heap) (locs : List Loc) (ls : Array Slot), f_X6_nightsOn_4 x1 n0 v3_4 v2_4 w_4 = some o → Wd G A0 s (cAR G 71 q w_4) H locs → lv_has ls 4 [(3, .int v3_4), (2, .int v2_4), (0, .ref (q 0)), (1, .int x1)] → W p l e rmX6_nightsOn s m ([.ref (q 0), .int x1] : List Value).toArray below meth c H locs 0 0 (Qi below G (cAR G 71 q o.2) o.1 A0 ([.ref (q 0), .int x1] : List Value).toArray s) (F0 m 4 ls []) := by
    intro n0
    induction n0 with
    | zero => intro v3_4 v2_4 w_4 H locs ls h; cases (show (none : Option (Int32 × (Nat → Int32))) = some o from h)
    | succ n0 ih0 =>
      intro v3_4 v2_4 w_4 H locs ls h hW hl
      refine lv_iload_n hx hb dX6_nightsOn_4 rfl (lv_at hl 0 rfl) ?_
      refine lv_iload_n hx hb dX6_nightsOn_5 rfl (lv_at hl 3 rfl) ?_
      obtain ⟨ht_6, hf_6⟩ := of_ite h
      refine lv_icmp_ge (tgt := 22) hx hb dX6_nightsOn_6 (by decide) (fun c_6 => ?_) (fun c_6 => ?_)
      · have h := ht_6 c_6
        refine lv_iload_n hx hb dX6_nightsOn_22 rfl (lv_at hl 1 rfl) ?_
        obtain rfl := Option.some.inj h
        exact x_reti F hr hW rfl dX6_nightsOn_23
      · have h := hf_6 c_6
        refine lv_iload_n hx hb dX6_nightsOn_9 rfl (lv_at hl 1 rfl) ?_
        refine lv_aload_n hx hb dX6_nightsOn_10 rfl (lv_at hl 2 rfl) ?_
        obtain ⟨p_11, hc_11, h⟩ := of_bind h
        refine x_Si (av := [.ref (q 0)]) F hW (c_X6_night l G q w_4 _ hc_11) [0] rfl rfl (by intro q; cases q) cs_X6_90 rfl rfl hl (Nat.le_of_ble_eq_true rfl) ⟨Nat.le_of_ble_eq_true rfl, Nat.le_of_ble_eq_true rfl⟩ ⟨rfl, rfl⟩ ⟨Nat.le_of_ble_eq_true rfl, Nat.le_of_ble_eq_true rfl⟩ dX6_nightsOn_11 rfl [some 0] rfl (ws' := cAR G 71 q p_11.2) rfl (fun H locs hW => ?_)
        refine lv_iadd hx hb dX6_nightsOn_14 ?_
        obtain ⟨x_15, e_x_15, h⟩ := of_nm h
        refine x_topi e_x_15 ?_
        refine lv_istore_n (lv' := [(2, .int x_15), (3, .int v3_4), (0, .ref (q 0)), (1, .int x1)]) hx hb dX6_nightsOn_15 rfl hl (by decide) rfl (fun ls hl => ?_)
        refine lv_iinc (v := (v3_4 + (1 : Int32))) (lv' := [(3, .int (v3_4 + (1 : Int32))), (2, .int x_15), (0, .ref (q 0)), (1, .int x1)]) hx hb dX6_nightsOn_16 hl (k := 1) rfl rfl (by decide) rfl (fun ls hl => ?_)
        refine lv_goto (tgt := 4) hx hb dX6_nightsOn_19 (by decide) ?_
        exact ih0 (v3_4 + (1 : Int32)) x_15 p_11.2 _ _ _ h hW (lv_sub hl [0, 1, 2, 3] rfl)
  exact L0 200 (0 : Int32) (0 : Int32) w _ _ _ h hW (lv_sub hl [0, 1, 2, 3] rfl)
def f_X6_allWicks_4 (w : (Nat → Int32)) : Nat → Int32 → Int32 → Option (Int32)
  | 0, _, _ => none
  | n0 + 1, v2_4, v1_4 =>
    if inR (0 : Int32) 71 then
    if (w (0 : Int32).toNatClampNeg) ≤ v2_4 then
    some v1_4
    else
    Option.bind (f_X6_of v2_4 (3 : Int32)) fun p_15 =>
    if inR p_15 71 then
    nm (v1_4 + (w p_15.toNatClampNeg)) fun x_20 =>
    f_X6_allWicks_4 w n0 (v2_4 + (1 : Int32)) x_20
    else none
    else none
def f_X6_allWicks (w : (Nat → Int32)) : Option (Int32) :=
  f_X6_allWicks_4 w 200 (0 : Int32) (0 : Int32)
abbrev rmX6_allWicks : Room := { frames := 1, cells := 0, slots := 0, locals := 21 }
set_option maxRecDepth 100000 in
set_option maxHeartbeats 4000000 in
theorem c_X6_allWicks (l : Launch) (G : EnT) (q : Nat → Nat) (w : (Nat → Int32)) (o : Int32) (h : f_X6_allWicks w = some o) : Mi l yX6_allWicks rmX6_allWicks cX6_allWicks 3 (some .int) G false [.ref (q 0)] (cAR G 71 q w) o (cAR G 71 q w) := by
  refine Mi_of (by decide) (Nat.le_of_ble_eq_true rfl) ?_
  intro p e s m below meth c A0 F hr hW ls hl
  obtain ⟨hx, hb, hml, hown, hts, hK, hNW, hlocks, hA, hSX⟩ := id F
  have hl : lv_has ls 3 [(0, .ref (q 0))] := hl
  have hW : Wd G A0 s (cAR G 71 q w) s.heap [] := hW
  show W p l e rmX6_allWicks s m ([.ref (q 0)] : List Value).toArray below meth c s.heap [] 0 0 (Qi below G (cAR G 71 q w) o A0 ([.ref (q 0)] : List Value).toArray s) (F0 m 0 ls [])
  refine lv_iconst (v := (0 : Int32)) hx hb dX6_allWicks_0 (by decide) ?_
  refine lv_istore_n (lv' := [(1, .int (0 : Int32)), (0, .ref (q 0))]) hx hb dX6_allWicks_1 rfl hl (by decide) rfl (fun ls hl => ?_)
  refine lv_iconst (v := (0 : Int32)) hx hb dX6_allWicks_2 (by decide) ?_
  refine lv_istore_n (lv' := [(2, .int (0 : Int32)), (1, .int (0 : Int32)), (0, .ref (q 0))]) hx hb dX6_allWicks_3 rfl hl (by decide) rfl (fun ls hl => ?_)
  have L0 : ∀ (n0 : Nat) (v2_4 : Int32) (v1_4 : Int32) (H : Heap) (locs : List Loc) (ls : Array Slot), f_X6_allWicks_4 w n0 v2_4 v1_4 = some o → Wd G A0 s (cAR G 71 q w) H locs → lv_has ls 3 [(2, .int v2_4), (1, .int v1_4), (0, .ref (q 0))] → W p l e rmX6_allWicks s m ([.ref (q 0)] : List Value).toArray below meth c H locs 0 0 (Qi below G (cAR G 71 q w) o A0 ([.ref (q 0)] : List Value).toArray s) (F0 m 4 ls []) := by
    intro n0
    induction n0 with
    | zero => intro v2_4 v1_4 H locs ls h; cases (show (none : Option (Int32)) = some o from h)
    | succ n0 ih0 =>
      intro v2_4 v1_4 H locs ls h hW hl
      refine lv_iload_n hx hb dX6_allWicks_4 rfl (lv_at hl 0 rfl) ?_
      refine lv_aload_n hx hb dX6_allWicks_5 rfl (lv_at hl 2 rfl) ?_
      refine lv_iconst (v := (0 : Int32)) hx hb dX6_allWicks_6 (by decide) ?_
      obtain ⟨g_7, h⟩ := of_guard h
      refine x_iald F hW 0 rfl g_7 dX6_allWicks_7 ?_
      obtain ⟨ht_8, hf_8⟩ := of_ite h
      refine lv_icmp_ge (tgt := 27) hx hb dX6_allWicks_8 (by decide) (fun c_8 => ?_) (fun c_8 => ?_)
      · have h := ht_8 c_8
        refine lv_iload_n hx hb dX6_allWicks_27 rfl (lv_at hl 1 rfl) ?_
        obtain rfl := Option.some.inj h
        exact x_reti F hr hW rfl dX6_allWicks_28
      · have h := hf_8 c_8
        refine lv_iload_n hx hb dX6_allWicks_11 rfl (lv_at hl 1 rfl) ?_
        refine lv_aload_n hx hb dX6_allWicks_12 rfl (lv_at hl 2 rfl) ?_
        refine lv_iload_n hx hb dX6_allWicks_13 rfl (lv_at hl 0 rfl) ?_
        refine lv_iconst (v := (3 : Int32)) hx hb dX6_allWicks_14 (by decide) ?_
        obtain ⟨p_15, hc_15, h⟩ := of_bind h
        refine x_Si (av := [.int v2_4, .int (3 : Int32)]) F hW (c_X6_of l G v2_4 (3 : Int32) _ hc_15) [] rfl rfl (by intro q; cases q) cs_X6_47 rfl rfl hl (Nat.le_of_ble_eq_true rfl) ⟨Nat.le_of_ble_eq_true rfl, Nat.le_of_ble_eq_true rfl⟩ ⟨rfl, rfl⟩ ⟨Nat.le_of_ble_eq_true rfl, Nat.le_of_ble_eq_true rfl⟩ dX6_allWicks_15 rfl [none] rfl (ws' := cAR G 71 q w) rfl (fun H locs hW => ?_)
        obtain ⟨g_18, h⟩ := of_guard h
        refine x_iald F hW 0 rfl g_18 dX6_allWicks_18 ?_
        refine lv_iadd hx hb dX6_allWicks_19 ?_
        obtain ⟨x_20, e_x_20, h⟩ := of_nm h
        refine x_topi e_x_20 ?_
        refine lv_istore_n (lv' := [(1, .int x_20), (2, .int v2_4), (0, .ref (q 0))]) hx hb dX6_allWicks_20 rfl hl (by decide) rfl (fun ls hl => ?_)
        refine lv_iinc (v := (v2_4 + (1 : Int32))) (lv' := [(2, .int (v2_4 + (1 : Int32))), (1, .int x_20), (0, .ref (q 0))]) hx hb dX6_allWicks_21 hl (k := 1) rfl rfl (by decide) rfl (fun ls hl => ?_)
        refine lv_goto (tgt := 4) hx hb dX6_allWicks_24 (by decide) ?_
        exact ih0 (v2_4 + (1 : Int32)) x_20 _ _ _ h hW (lv_sub hl [0, 1, 2] rfl)
  exact L0 200 (0 : Int32) (0 : Int32) _ _ _ h hW (lv_sub hl [0, 1, 2] rfl)
def f_X6_letter (w : MW) (x1 : Int32) : Option (Int32 × MW) :=
  if 0 ≤ x1 then
    if (255 : Int32) < x1 then
    Option.bind (f_X6_no w (-6 : Int32)) fun p_30 =>
    some (p_30.1, p_30.2)
    else
    if w.2.2.2.2.2.2.2.2.2.2.1 = (96 : Int32) then
    Option.bind (f_X6_no w (-6 : Int32)) fun p_30_2 =>
    some (p_30_2.1, p_30_2.2)
    else
    if inR w.2.2.2.2.2.2.2.2.2.2.1 96 then
    some ((w.2.2.2.2.2.2.2.2.2.2.1 + (1 : Int32)), (w.1, w.2.1, w.2.2.1, w.2.2.2.1, (upd w.2.2.2.2.1 w.2.2.2.2.2.2.2.2.2.2.1.toNatClampNeg x1), w.2.2.2.2.2.1, w.2.2.2.2.2.2.1, w.2.2.2.2.2.2.2.1, w.2.2.2.2.2.2.2.2.1, w.2.2.2.2.2.2.2.2.2.1, (w.2.2.2.2.2.2.2.2.2.2.1 + (1 : Int32)), w.2.2.2.2.2.2.2.2.2.2.2.1, w.2.2.2.2.2.2.2.2.2.2.2.2.1, w.2.2.2.2.2.2.2.2.2.2.2.2.2))
    else none
    else
    Option.bind (f_X6_no w (-4 : Int32)) fun p_7 =>
    some (p_7.1, p_7.2)
abbrev rmX6_letter : Room := { frames := 1, cells := 0, slots := 0, locals := 21 }
set_option maxRecDepth 100000 in
set_option maxHeartbeats 4000000 in
theorem c_X6_letter (l : Launch) (G : EnT) (q : Nat → Nat) (w : MW) (x1 : Int32) (o : Int32 × MW) (h : f_X6_letter w x1 = some o) : Mi l yX6_letter rmX6_letter cX6_letter 2 (some .int) G false [.ref (q 0), .int x1] (cMW G q w) o.1 (cMW G q o.2) := by
  refine Mi_of (by decide) (Nat.le_of_ble_eq_true rfl) ?_
  intro p e s m below meth c A0 F hr hW ls hl
  obtain ⟨hx, hb, hml, hown, hts, hK, hNW, hlocks, hA, hSX⟩ := id F
  have hl : lv_has ls 2 [(0, .ref (q 0)), (1, .int x1)] := hl
  have hW : Wd G A0 s (cMW G q w) s.heap [] := hW
  show W p l e rmX6_letter s m ([.ref (q 0), .int x1] : List Value).toArray below meth c s.heap [] 0 0 (Qi below G (cMW G q o.2) o.1 A0 ([.ref (q 0), .int x1] : List Value).toArray s) (F0 m 0 ls [])
  refine lv_iload_n hx hb dX6_letter_0 rfl (lv_at hl 1 rfl) ?_
  obtain ⟨ht_1, hf_1⟩ := of_ite h
  refine lv_if_ge (tgt := 11) hx hb dX6_letter_1 (by decide) (fun c_1 => ?_) (fun c_1 => ?_)
  · have h := ht_1 c_1
    refine lv_iload_n hx hb dX6_letter_11 rfl (lv_at hl 1 rfl) ?_
    refine lv_sipush (v := (255 : Int32)) hx hb dX6_letter_12 (by decide) ?_
    obtain ⟨ht_15, hf_15⟩ := of_ite h
    refine lv_icmp_gt (tgt := 27) hx hb dX6_letter_15 (by decide) (fun c_15 => ?_) (fun c_15 => ?_)
    · have h := ht_15 c_15
      refine lv_aload_n hx hb dX6_letter_27 rfl (lv_at hl 0 rfl) ?_
      refine lv_bipush (v := (-6 : Int32)) hx hb dX6_letter_28 (by decide) ?_
      obtain ⟨p_30, hc_30, h⟩ := of_bind h
      refine x_Vi (av := [.ref (q 0), .int (-6 : Int32)]) (As := [.int (-6 : Int32)]) F hW (c_X6_no l G q w (-6 : Int32) _ hc_30) [0, 1, 2, 3, 4, 5, 6, 7, 8, 9] rfl rfl (by intro q; cases q) cv_X6_39 rfl ⟨_, rfl, rfl⟩ rfl rfl rfl hl (Nat.le_of_ble_eq_true rfl) ⟨Nat.le_of_ble_eq_true rfl, Nat.le_of_ble_eq_true rfl⟩ ⟨rfl, rfl⟩ ⟨Nat.le_of_ble_eq_true rfl, Nat.le_of_ble_eq_true rfl⟩ dX6_letter_30 rfl [some 0, some 1, some 2, some 3, some 4, some 5, some 6, some 7, some 8, some 9] rfl (ws' := cMW G q p_30.2) rfl (fun H locs hW => ?_)
      obtain rfl := Option.some.inj h
      exact x_reti F hr hW rfl dX6_letter_33
    · have h := hf_15 c_15
      refine lv_aload_n hx hb dX6_letter_18 rfl (lv_at hl 0 rfl) ?_
      refine x_get F hW 0 rfl fa_X6_93 rfl dX6_letter_19 ?_
      refine lv_bipush (v := (96 : Int32)) hx hb dX6_letter_22 (by decide) ?_
      obtain ⟨ht_24, hf_24⟩ := of_ite h
      refine lv_icmp_ne (tgt := 34) hx hb dX6_letter_24 (by decide) (fun c_24 => ?_) (fun c_24 => ?_)
      · have h := hf_24 c_24
        refine lv_aload_n hx hb dX6_letter_34 rfl (lv_at hl 0 rfl) ?_
        refine x_get F hW 0 rfl fa_X6_22 rfl dX6_letter_35 ?_
        refine lv_aload_n hx hb dX6_letter_38 rfl (lv_at hl 0 rfl) ?_
        refine x_get F hW 0 rfl fa_X6_93 rfl dX6_letter_39 ?_
        refine lv_iload_n hx hb dX6_letter_42 rfl (lv_at hl 1 rfl) ?_
        obtain ⟨g_43, h⟩ := of_guard h
        refine x_iast F hW 5 rfl g_43 (ws' := cMW G q (w.1, w.2.1, w.2.2.1, w.2.2.2.1, (upd w.2.2.2.2.1 w.2.2.2.2.2.2.2.2.2.2.1.toNatClampNeg x1), w.2.2.2.2.2.1, w.2.2.2.2.2.2.1, w.2.2.2.2.2.2.2.1, w.2.2.2.2.2.2.2.2.1, w.2.2.2.2.2.2.2.2.2.1, w.2.2.2.2.2.2.2.2.2.2.1, w.2.2.2.2.2.2.2.2.2.2.2.1, w.2.2.2.2.2.2.2.2.2.2.2.2.1, w.2.2.2.2.2.2.2.2.2.2.2.2.2)) rfl dX6_letter_43 (fun H locs hW => ?_)
        refine lv_aload_n hx hb dX6_letter_44 rfl (lv_at hl 0 rfl) ?_
        refine lv_dup hx hb dX6_letter_45 rfl ?_
        refine x_get F hW 0 rfl fa_X6_93 rfl dX6_letter_46 ?_
        refine lv_iconst (v := (1 : Int32)) hx hb dX6_letter_49 (by decide) ?_
        refine lv_iadd hx hb dX6_letter_50 ?_
        refine x_put F hW 0 rfl fp_X6_93 rfl rfl (Nat.le_of_ble_eq_true rfl) (ws' := cMW G q (w.1, w.2.1, w.2.2.1, w.2.2.2.1, (upd w.2.2.2.2.1 w.2.2.2.2.2.2.2.2.2.2.1.toNatClampNeg x1), w.2.2.2.2.2.1, w.2.2.2.2.2.2.1, w.2.2.2.2.2.2.2.1, w.2.2.2.2.2.2.2.2.1, w.2.2.2.2.2.2.2.2.2.1, (w.2.2.2.2.2.2.2.2.2.2.1 + (1 : Int32)), w.2.2.2.2.2.2.2.2.2.2.2.1, w.2.2.2.2.2.2.2.2.2.2.2.2.1, w.2.2.2.2.2.2.2.2.2.2.2.2.2)) rfl dX6_letter_51 (fun H locs hW => ?_)
        refine lv_aload_n hx hb dX6_letter_54 rfl (lv_at hl 0 rfl) ?_
        refine x_get F hW 0 rfl fa_X6_93 rfl dX6_letter_55 ?_
        obtain rfl := Option.some.inj h
        exact x_reti F hr hW rfl dX6_letter_58
      · have h := ht_24 c_24
        refine lv_aload_n hx hb dX6_letter_27 rfl (lv_at hl 0 rfl) ?_
        refine lv_bipush (v := (-6 : Int32)) hx hb dX6_letter_28 (by decide) ?_
        obtain ⟨p_30_2, hc_30, h⟩ := of_bind h
        refine x_Vi (av := [.ref (q 0), .int (-6 : Int32)]) (As := [.int (-6 : Int32)]) F hW (c_X6_no l G q w (-6 : Int32) _ hc_30) [0, 1, 2, 3, 4, 5, 6, 7, 8, 9] rfl rfl (by intro q; cases q) cv_X6_39 rfl ⟨_, rfl, rfl⟩ rfl rfl rfl hl (Nat.le_of_ble_eq_true rfl) ⟨Nat.le_of_ble_eq_true rfl, Nat.le_of_ble_eq_true rfl⟩ ⟨rfl, rfl⟩ ⟨Nat.le_of_ble_eq_true rfl, Nat.le_of_ble_eq_true rfl⟩ dX6_letter_30 rfl [some 0, some 1, some 2, some 3, some 4, some 5, some 6, some 7, some 8, some 9] rfl (ws' := cMW G q p_30_2.2) rfl (fun H locs hW => ?_)
        obtain rfl := Option.some.inj h
        exact x_reti F hr hW rfl dX6_letter_33
  · have h := hf_1 c_1
    refine lv_aload_n hx hb dX6_letter_4 rfl (lv_at hl 0 rfl) ?_
    refine lv_bipush (v := (-4 : Int32)) hx hb dX6_letter_5 (by decide) ?_
    obtain ⟨p_7, hc_7, h⟩ := of_bind h
    refine x_Vi (av := [.ref (q 0), .int (-4 : Int32)]) (As := [.int (-4 : Int32)]) F hW (c_X6_no l G q w (-4 : Int32) _ hc_7) [0, 1, 2, 3, 4, 5, 6, 7, 8, 9] rfl rfl (by intro q; cases q) cv_X6_39 rfl ⟨_, rfl, rfl⟩ rfl rfl rfl hl (Nat.le_of_ble_eq_true rfl) ⟨Nat.le_of_ble_eq_true rfl, Nat.le_of_ble_eq_true rfl⟩ ⟨rfl, rfl⟩ ⟨Nat.le_of_ble_eq_true rfl, Nat.le_of_ble_eq_true rfl⟩ dX6_letter_7 rfl [some 0, some 1, some 2, some 3, some 4, some 5, some 6, some 7, some 8, some 9] rfl (ws' := cMW G q p_7.2) rfl (fun H locs hW => ?_)
    obtain rfl := Option.some.inj h
    exact x_reti F hr hW rfl dX6_letter_10
def f_X6_here (w : MW) : Option (Int32) :=
  if w.2.2.2.2.2.2.2.2.2.2.1 ≤ w.2.2.2.2.2.2.2.2.2.2.2.2.1 then
    some (-1 : Int32)
    else
    if inR w.2.2.2.2.2.2.2.2.2.2.2.2.1 96 then
    some (w.2.2.2.2.1 w.2.2.2.2.2.2.2.2.2.2.2.2.1.toNatClampNeg)
    else none
abbrev rmX6_here : Room := { frames := 0, cells := 0, slots := 0, locals := 0 }
set_option maxRecDepth 100000 in
set_option maxHeartbeats 4000000 in
theorem c_X6_here (l : Launch) (G : EnT) (q : Nat → Nat) (w : MW) (o : Int32) (h : f_X6_here w = some o) : Mi l yX6_here rmX6_here cX6_here 1 (some .int) G false [.ref (q 0)] (cMW G q w) o (cMW G q w) := by
  refine Mi_of (by decide) (Nat.le_of_ble_eq_true rfl) ?_
  intro p e s m below meth c A0 F hr hW ls hl
  obtain ⟨hx, hb, hml, hown, hts, hK, hNW, hlocks, hA, hSX⟩ := id F
  have hl : lv_has ls 1 [(0, .ref (q 0))] := hl
  have hW : Wd G A0 s (cMW G q w) s.heap [] := hW
  show W p l e rmX6_here s m ([.ref (q 0)] : List Value).toArray below meth c s.heap [] 0 0 (Qi below G (cMW G q w) o A0 ([.ref (q 0)] : List Value).toArray s) (F0 m 0 ls [])
  refine lv_aload_n hx hb dX6_here_0 rfl (lv_at hl 0 rfl) ?_
  refine x_get F hW 0 rfl fa_X6_97 rfl dX6_here_1 ?_
  refine lv_aload_n hx hb dX6_here_4 rfl (lv_at hl 0 rfl) ?_
  refine x_get F hW 0 rfl fa_X6_93 rfl dX6_here_5 ?_
  obtain ⟨ht_8, hf_8⟩ := of_ite h
  refine lv_icmp_ge (tgt := 23) hx hb dX6_here_8 (by decide) (fun c_8 => ?_) (fun c_8 => ?_)
  · have h := ht_8 c_8
    refine lv_iconst (v := (-1 : Int32)) hx hb dX6_here_23 (by decide) ?_
    obtain rfl := Option.some.inj h
    exact x_reti F hr hW rfl dX6_here_24
  · have h := hf_8 c_8
    refine lv_aload_n hx hb dX6_here_11 rfl (lv_at hl 0 rfl) ?_
    refine x_get F hW 0 rfl fa_X6_22 rfl dX6_here_12 ?_
    refine lv_aload_n hx hb dX6_here_15 rfl (lv_at hl 0 rfl) ?_
    refine x_get F hW 0 rfl fa_X6_97 rfl dX6_here_16 ?_
    obtain ⟨g_19, h⟩ := of_guard h
    refine x_iald F hW 5 rfl g_19 dX6_here_19 ?_
    refine lv_goto (tgt := 24) hx hb dX6_here_20 (by decide) ?_
    obtain rfl := Option.some.inj h
    exact x_reti F hr hW rfl dX6_here_24
def f_X6_readsNumber_9 (x2 : Int32) (x1 : Int32) : Nat → Int32 → MW → Option (Int32 × MW)
  | 0, _, _ => none
  | n0 + 1, v3_9, w_9 =>
    if x2 ≤ v3_9 then
    some ((1 : Int32), w_9)
    else
    Option.bind (f_X6_here w_9) fun p_15 =>
    Option.bind (f_X6_isIn p_15 (48 : Int32) (57 : Int32)) fun p_22 =>
    if p_22 = 0 then
    some ((0 : Int32), w_9)
    else
    if inR x1 3 then
    Option.bind (f_X6_here w_9) fun p_45 =>
    if inR x1 3 then
    f_X6_readsNumber_9 x2 x1 n0 (v3_9 + (1 : Int32)) (w_9.1, w_9.2.1, w_9.2.2.1, w_9.2.2.2.1, w_9.2.2.2.2.1, w_9.2.2.2.2.2.1, w_9.2.2.2.2.2.2.1, (upd w_9.2.2.2.2.2.2.2.1 x1.toNatClampNeg ((((10 : Int32) * (w_9.2.2.2.2.2.2.2.1 x1.toNatClampNeg)) + p_45) - (48 : Int32))), w_9.2.2.2.2.2.2.2.2.1, w_9.2.2.2.2.2.2.2.2.2.1, w_9.2.2.2.2.2.2.2.2.2.2.1, w_9.2.2.2.2.2.2.2.2.2.2.2.1, (w_9.2.2.2.2.2.2.2.2.2.2.2.2.1 + (1 : Int32)), w_9.2.2.2.2.2.2.2.2.2.2.2.2.2)
    else none
    else none
def f_X6_readsNumber (w : MW) (x1 : Int32) (x2 : Int32) : Option (Int32 × MW) :=
  if inR x1 3 then
    f_X6_readsNumber_9 x2 x1 200 (0 : Int32) (w.1, w.2.1, w.2.2.1, w.2.2.2.1, w.2.2.2.2.1, w.2.2.2.2.2.1, w.2.2.2.2.2.2.1, (upd w.2.2.2.2.2.2.2.1 x1.toNatClampNeg (0 : Int32)), w.2.2.2.2.2.2.2.2.1, w.2.2.2.2.2.2.2.2.2.1, w.2.2.2.2.2.2.2.2.2.2.1, w.2.2.2.2.2.2.2.2.2.2.2.1, w.2.2.2.2.2.2.2.2.2.2.2.2.1, w.2.2.2.2.2.2.2.2.2.2.2.2.2)
    else none
abbrev rmX6_readsNumber : Room := { frames := 1, cells := 0, slots := 0, locals := 22 }
set_option maxRecDepth 100000 in
set_option maxHeartbeats 4000000 in
theorem c_X6_readsNumber (l : Launch) (G : EnT) (q : Nat → Nat) (w : MW) (x1 : Int32) (x2 : Int32) (o : Int32 × MW) (h : f_X6_readsNumber w x1 x2 = some o) : Mi l yX6_readsNumber rmX6_readsNumber cX6_readsNumber 4 (some .boolean) G false [.ref (q 0), .int x1, .int x2] (cMW G q w) o.1 (cMW G q o.2) := by
  refine Mi_of (by decide) (Nat.le_of_ble_eq_true rfl) ?_
  intro p e s m below meth c A0 F hr hW ls hl
  obtain ⟨hx, hb, hml, hown, hts, hK, hNW, hlocks, hA, hSX⟩ := id F
  have hl : lv_has ls 4 [(0, .ref (q 0)), (1, .int x1), (2, .int x2)] := hl
  have hW : Wd G A0 s (cMW G q w) s.heap [] := hW
  show W p l e rmX6_readsNumber s m ([.ref (q 0), .int x1, .int x2] : List Value).toArray below meth c s.heap [] 0 0 (Qi below G (cMW G q o.2) o.1 A0 ([.ref (q 0), .int x1, .int x2] : List Value).toArray s) (F0 m 0 ls [])
  refine lv_aload_n hx hb dX6_readsNumber_0 rfl (lv_at hl 0 rfl) ?_
  refine x_get F hW 0 rfl fa_X6_31 rfl dX6_readsNumber_1 ?_
  refine lv_iload_n hx hb dX6_readsNumber_4 rfl (lv_at hl 1 rfl) ?_
  refine lv_iconst (v := (0 : Int32)) hx hb dX6_readsNumber_5 (by decide) ?_
  obtain ⟨g_6, h⟩ := of_guard h
  refine x_iast F hW 8 rfl g_6 (ws' := cMW G q (w.1, w.2.1, w.2.2.1, w.2.2.2.1, w.2.2.2.2.1, w.2.2.2.2.2.1, w.2.2.2.2.2.2.1, (upd w.2.2.2.2.2.2.2.1 x1.toNatClampNeg (0 : Int32)), w.2.2.2.2.2.2.2.2.1, w.2.2.2.2.2.2.2.2.2.1, w.2.2.2.2.2.2.2.2.2.2.1, w.2.2.2.2.2.2.2.2.2.2.2.1, w.2.2.2.2.2.2.2.2.2.2.2.2.1, w.2.2.2.2.2.2.2.2.2.2.2.2.2)) rfl dX6_readsNumber_6 (fun H locs hW => ?_)
  refine lv_iconst (v := (0 : Int32)) hx hb dX6_readsNumber_7 (by decide) ?_
  refine lv_istore_n (lv' := [(3, .int (0 : Int32)), (0, .ref (q 0)), (1, .int x1), (2, .int x2)]) hx hb dX6_readsNumber_8 rfl hl (by decide) rfl (fun ls hl => ?_)
  have L0 : ∀ (n0 : Nat) (v3_9 : Int32) (w_9 : MW) (H : Heap) (locs : List Loc) (ls : Array Slot), f_X6_readsNumber_9 x2 x1 n0 v3_9 w_9 = some o → Wd G A0 s (cMW G q w_9) H locs → lv_has ls 4 [(3, .int v3_9), (0, .ref (q 0)), (1, .int x1), (2, .int x2)] → W p l e rmX6_readsNumber s m ([.ref (q 0), .int x1, .int x2] : List Value).toArray below meth c H locs 0 0 (Qi below G (cMW G q o.2) o.1 A0 ([.ref (q 0), .int x1, .int x2] : List Value).toArray s) (F0 m 9 ls []) := by
    intro n0
    induction n0 with
    | zero => intro v3_9 w_9 H locs ls h; cases (show (none : Option (Int32 × MW)) = some o from h)
    | succ n0 ih0 =>
      intro v3_9 w_9 H locs ls h hW hl
      refine lv_iload_n hx hb dX6_readsNumber_9 rfl (lv_at hl 0 rfl) ?_
      refine lv_iload_n hx hb dX6_readsNumber_10 rfl (lv_at hl 3 rfl) ?_
      obtain ⟨ht_11, hf_11⟩ := of_ite h
      refine lv_icmp_ge (tgt := 69) hx hb dX6_readsNumber_11 (by decide) (fun c_11 => ?_) (fun c_11 => ?_)
      · have h := ht_11 c_11
        refine lv_iconst (v := (1 : Int32)) hx hb dX6_readsNumber_69 (by decide) ?_
        obtain rfl := Option.some.inj h
        exact x_retz F hr hW (Or.inr rfl) rfl dX6_readsNumber_70
      · have h := hf_11 c_11
        refine lv_aload_n hx hb dX6_readsNumber_14 rfl (lv_at hl 1 rfl) ?_
        obtain ⟨p_15, hc_15, h⟩ := of_bind h
        refine x_Vi (av := [.ref (q 0)]) (As := []) F hW (c_X6_here l G q w_9 _ hc_15) [0, 1, 2, 3, 4, 5, 6, 7, 8, 9] rfl rfl (by intro q; cases q) cv_X6_100 rfl ⟨_, rfl, rfl⟩ rfl rfl rfl hl (Nat.le_of_ble_eq_true rfl) ⟨Nat.le_of_ble_eq_true rfl, Nat.le_of_ble_eq_true rfl⟩ ⟨rfl, rfl⟩ ⟨Nat.le_of_ble_eq_true rfl, Nat.le_of_ble_eq_true rfl⟩ dX6_readsNumber_15 rfl [some 0, some 1, some 2, some 3, some 4, some 5, some 6, some 7, some 8, some 9] rfl (ws' := cMW G q w_9) rfl (fun H locs hW => ?_)
        refine lv_bipush (v := (48 : Int32)) hx hb dX6_readsNumber_18 (by decide) ?_
        refine lv_bipush (v := (57 : Int32)) hx hb dX6_readsNumber_20 (by decide) ?_
        obtain ⟨p_22, hc_22, h⟩ := of_bind h
        refine x_Si (av := [.int p_15, .int (48 : Int32), .int (57 : Int32)]) F hW (c_X6_isIn l G p_15 (48 : Int32) (57 : Int32) _ hc_22) [] rfl rfl (by intro q; cases q) cs_X6_43 rfl rfl hl (Nat.le_of_ble_eq_true rfl) ⟨Nat.le_of_ble_eq_true rfl, Nat.le_of_ble_eq_true rfl⟩ ⟨rfl, rfl⟩ ⟨Nat.le_of_ble_eq_true rfl, Nat.le_of_ble_eq_true rfl⟩ dX6_readsNumber_22 rfl [none, none, none, none, none, none, none, none, none, none] rfl (ws' := cMW G q w_9) rfl (fun H locs hW => ?_)
        obtain ⟨ht_25, hf_25⟩ := of_ite h
        refine lv_if_ne (tgt := 30) hx hb dX6_readsNumber_25 (by decide) (fun c_25 => ?_) (fun c_25 => ?_)
        · have h := hf_25 c_25
          refine lv_aload_n hx hb dX6_readsNumber_30 rfl (lv_at hl 1 rfl) ?_
          refine x_get F hW 0 rfl fa_X6_31 rfl dX6_readsNumber_31 ?_
          refine lv_iload_n hx hb dX6_readsNumber_34 rfl (lv_at hl 2 rfl) ?_
          refine lv_bipush (v := (10 : Int32)) hx hb dX6_readsNumber_35 (by decide) ?_
          refine lv_aload_n hx hb dX6_readsNumber_37 rfl (lv_at hl 1 rfl) ?_
          refine x_get F hW 0 rfl fa_X6_31 rfl dX6_readsNumber_38 ?_
          refine lv_iload_n hx hb dX6_readsNumber_41 rfl (lv_at hl 2 rfl) ?_
          obtain ⟨g_42, h⟩ := of_guard h
          refine x_iald F hW 8 rfl g_42 dX6_readsNumber_42 ?_
          refine lv_imul hx hb dX6_readsNumber_43 ?_
          refine lv_aload_n hx hb dX6_readsNumber_44 rfl (lv_at hl 1 rfl) ?_
          obtain ⟨p_45, hc_45, h⟩ := of_bind h
          refine x_Vi (av := [.ref (q 0)]) (As := []) F hW (c_X6_here l G q w_9 _ hc_45) [0, 1, 2, 3, 4, 5, 6, 7, 8, 9] rfl rfl (by intro q; cases q) cv_X6_100 rfl ⟨_, rfl, rfl⟩ rfl rfl rfl hl (Nat.le_of_ble_eq_true rfl) ⟨Nat.le_of_ble_eq_true rfl, Nat.le_of_ble_eq_true rfl⟩ ⟨rfl, rfl⟩ ⟨Nat.le_of_ble_eq_true rfl, Nat.le_of_ble_eq_true rfl⟩ dX6_readsNumber_45 rfl [some 0, some 1, some 2, some 3, some 4, some 5, some 6, some 7, some 8, some 9] rfl (ws' := cMW G q w_9) rfl (fun H locs hW => ?_)
          refine lv_iadd hx hb dX6_readsNumber_48 ?_
          refine lv_bipush (v := (48 : Int32)) hx hb dX6_readsNumber_49 (by decide) ?_
          refine lv_isub hx hb dX6_readsNumber_51 ?_
          obtain ⟨g_52, h⟩ := of_guard h
          refine x_iast F hW 8 rfl g_52 (ws' := cMW G q (w_9.1, w_9.2.1, w_9.2.2.1, w_9.2.2.2.1, w_9.2.2.2.2.1, w_9.2.2.2.2.2.1, w_9.2.2.2.2.2.2.1, (upd w_9.2.2.2.2.2.2.2.1 x1.toNatClampNeg ((((10 : Int32) * (w_9.2.2.2.2.2.2.2.1 x1.toNatClampNeg)) + p_45) - (48 : Int32))), w_9.2.2.2.2.2.2.2.2.1, w_9.2.2.2.2.2.2.2.2.2.1, w_9.2.2.2.2.2.2.2.2.2.2.1, w_9.2.2.2.2.2.2.2.2.2.2.2.1, w_9.2.2.2.2.2.2.2.2.2.2.2.2.1, w_9.2.2.2.2.2.2.2.2.2.2.2.2.2)) rfl dX6_readsNumber_52 (fun H locs hW => ?_)
          refine lv_aload_n hx hb dX6_readsNumber_53 rfl (lv_at hl 1 rfl) ?_
          refine lv_dup hx hb dX6_readsNumber_54 rfl ?_
          refine x_get F hW 0 rfl fa_X6_97 rfl dX6_readsNumber_55 ?_
          refine lv_iconst (v := (1 : Int32)) hx hb dX6_readsNumber_58 (by decide) ?_
          refine lv_iadd hx hb dX6_readsNumber_59 ?_
          refine x_put F hW 0 rfl fp_X6_97 rfl rfl (Nat.le_of_ble_eq_true rfl) (ws' := cMW G q (w_9.1, w_9.2.1, w_9.2.2.1, w_9.2.2.2.1, w_9.2.2.2.2.1, w_9.2.2.2.2.2.1, w_9.2.2.2.2.2.2.1, (upd w_9.2.2.2.2.2.2.2.1 x1.toNatClampNeg ((((10 : Int32) * (w_9.2.2.2.2.2.2.2.1 x1.toNatClampNeg)) + p_45) - (48 : Int32))), w_9.2.2.2.2.2.2.2.2.1, w_9.2.2.2.2.2.2.2.2.2.1, w_9.2.2.2.2.2.2.2.2.2.2.1, w_9.2.2.2.2.2.2.2.2.2.2.2.1, (w_9.2.2.2.2.2.2.2.2.2.2.2.2.1 + (1 : Int32)), w_9.2.2.2.2.2.2.2.2.2.2.2.2.2)) rfl dX6_readsNumber_60 (fun H locs hW => ?_)
          refine lv_iinc (v := (v3_9 + (1 : Int32))) (lv' := [(3, .int (v3_9 + (1 : Int32))), (0, .ref (q 0)), (1, .int x1), (2, .int x2)]) hx hb dX6_readsNumber_63 hl (k := 0) rfl rfl (by decide) rfl (fun ls hl => ?_)
          refine lv_goto (tgt := 9) hx hb dX6_readsNumber_66 (by decide) ?_
          exact ih0 (v3_9 + (1 : Int32)) (w_9.1, w_9.2.1, w_9.2.2.1, w_9.2.2.2.1, w_9.2.2.2.2.1, w_9.2.2.2.2.2.1, w_9.2.2.2.2.2.2.1, (upd w_9.2.2.2.2.2.2.2.1 x1.toNatClampNeg ((((10 : Int32) * (w_9.2.2.2.2.2.2.2.1 x1.toNatClampNeg)) + p_45) - (48 : Int32))), w_9.2.2.2.2.2.2.2.2.1, w_9.2.2.2.2.2.2.2.2.2.1, w_9.2.2.2.2.2.2.2.2.2.2.1, w_9.2.2.2.2.2.2.2.2.2.2.2.1, (w_9.2.2.2.2.2.2.2.2.2.2.2.2.1 + (1 : Int32)), w_9.2.2.2.2.2.2.2.2.2.2.2.2.2) _ _ _ h hW (lv_sub hl [0, 1, 2, 3] rfl)
        · have h := ht_25 c_25
          refine lv_iconst (v := (0 : Int32)) hx hb dX6_readsNumber_28 (by decide) ?_
          obtain rfl := Option.some.inj h
          exact x_retz F hr hW (Or.inl rfl) rfl dX6_readsNumber_29
  exact L0 200 (0 : Int32) (w.1, w.2.1, w.2.2.1, w.2.2.2.1, w.2.2.2.2.1, w.2.2.2.2.2.1, w.2.2.2.2.2.2.1, (upd w.2.2.2.2.2.2.2.1 x1.toNatClampNeg (0 : Int32)), w.2.2.2.2.2.2.2.2.1, w.2.2.2.2.2.2.2.2.2.1, w.2.2.2.2.2.2.2.2.2.2.1, w.2.2.2.2.2.2.2.2.2.2.2.1, w.2.2.2.2.2.2.2.2.2.2.2.2.1, w.2.2.2.2.2.2.2.2.2.2.2.2.2) _ _ _ h hW (lv_sub hl [0, 1, 2, 3] rfl)
def f_X6_kindBy (x1 : Int32) : Option (Int32) :=
  if x1 = (99 : Int32) then
    some (0 : Int32)
    else
    if x1 = (100 : Int32) then
    some (-9 : Int32)
    else
    if x1 = (101 : Int32) then
    some (-9 : Int32)
    else
    if x1 = (102 : Int32) then
    some (-9 : Int32)
    else
    if x1 = (103 : Int32) then
    some (-9 : Int32)
    else
    if x1 = (104 : Int32) then
    some (-9 : Int32)
    else
    if x1 = (105 : Int32) then
    some (-9 : Int32)
    else
    if x1 = (106 : Int32) then
    some (-9 : Int32)
    else
    if x1 = (107 : Int32) then
    some (-9 : Int32)
    else
    if x1 = (108 : Int32) then
    some (3 : Int32)
    else
    if x1 = (109 : Int32) then
    some (4 : Int32)
    else
    if x1 = (110 : Int32) then
    some (-9 : Int32)
    else
    if x1 = (111 : Int32) then
    some (5 : Int32)
    else
    if x1 = (112 : Int32) then
    some (-9 : Int32)
    else
    if x1 = (113 : Int32) then
    some (-9 : Int32)
    else
    if x1 = (114 : Int32) then
    some (-9 : Int32)
    else
    if x1 = (115 : Int32) then
    some (2 : Int32)
    else
    if x1 = (116 : Int32) then
    some (1 : Int32)
    else
    some (-9 : Int32)
abbrev rmX6_kindBy : Room := { frames := 0, cells := 0, slots := 0, locals := 0 }
set_option maxRecDepth 100000 in
set_option maxHeartbeats 4000000 in
theorem c_X6_kindBy (l : Launch) (G : EnT) (x1 : Int32) (o : Int32) (h : f_X6_kindBy x1 = some o) : Mi l yX6_kindBy rmX6_kindBy cX6_kindBy 1 (some .int) G false [.int x1] ([]) o ([]) := by
  refine Mi_of (by decide) (Nat.le_of_ble_eq_true rfl) ?_
  intro p e s m below meth c A0 F hr hW ls hl
  obtain ⟨hx, hb, hml, hown, hts, hK, hNW, hlocks, hA, hSX⟩ := id F
  have hl : lv_has ls 1 [(0, .int x1)] := hl
  have hW : Wd G A0 s ([]) s.heap [] := hW
  show W p l e rmX6_kindBy s m ([.int x1] : List Value).toArray below meth c s.heap [] 0 0 (Qi below G ([]) o A0 ([.int x1] : List Value).toArray s) (F0 m 0 ls [])
  refine lv_iload_n hx hb dX6_kindBy_0 rfl (lv_at hl 0 rfl) ?_
  obtain ⟨ht_1_0, h⟩ := of_ite h
  by_cases c_1_0 : x1 = (99 : Int32)
  · have h := ht_1_0 c_1_0
    refine x_tableIn c_1_0 hx hb dX6_kindBy_1 (by decide) (by decide) (off := (87)) rfl (tgt := 88) (by decide) ?_
    refine lv_iconst (v := (0 : Int32)) hx hb dX6_kindBy_88 (by decide) ?_
    obtain rfl := Option.some.inj h
    exact x_reti F hr hW rfl dX6_kindBy_89
  have h := h c_1_0
  obtain ⟨ht_1_1, h⟩ := of_ite h
  by_cases c_1_1 : x1 = (100 : Int32)
  · have h := ht_1_1 c_1_1
    refine x_tableIn c_1_1 hx hb dX6_kindBy_1 (by decide) (by decide) (off := (99)) rfl (tgt := 100) (by decide) ?_
    refine lv_bipush (v := (-9 : Int32)) hx hb dX6_kindBy_100 (by decide) ?_
    obtain rfl := Option.some.inj h
    exact x_reti F hr hW rfl dX6_kindBy_102
  have h := h c_1_1
  obtain ⟨ht_1_2, h⟩ := of_ite h
  by_cases c_1_2 : x1 = (101 : Int32)
  · have h := ht_1_2 c_1_2
    refine x_tableIn c_1_2 hx hb dX6_kindBy_1 (by decide) (by decide) (off := (99)) rfl (tgt := 100) (by decide) ?_
    refine lv_bipush (v := (-9 : Int32)) hx hb dX6_kindBy_100 (by decide) ?_
    obtain rfl := Option.some.inj h
    exact x_reti F hr hW rfl dX6_kindBy_102
  have h := h c_1_2
  obtain ⟨ht_1_3, h⟩ := of_ite h
  by_cases c_1_3 : x1 = (102 : Int32)
  · have h := ht_1_3 c_1_3
    refine x_tableIn c_1_3 hx hb dX6_kindBy_1 (by decide) (by decide) (off := (99)) rfl (tgt := 100) (by decide) ?_
    refine lv_bipush (v := (-9 : Int32)) hx hb dX6_kindBy_100 (by decide) ?_
    obtain rfl := Option.some.inj h
    exact x_reti F hr hW rfl dX6_kindBy_102
  have h := h c_1_3
  obtain ⟨ht_1_4, h⟩ := of_ite h
  by_cases c_1_4 : x1 = (103 : Int32)
  · have h := ht_1_4 c_1_4
    refine x_tableIn c_1_4 hx hb dX6_kindBy_1 (by decide) (by decide) (off := (99)) rfl (tgt := 100) (by decide) ?_
    refine lv_bipush (v := (-9 : Int32)) hx hb dX6_kindBy_100 (by decide) ?_
    obtain rfl := Option.some.inj h
    exact x_reti F hr hW rfl dX6_kindBy_102
  have h := h c_1_4
  obtain ⟨ht_1_5, h⟩ := of_ite h
  by_cases c_1_5 : x1 = (104 : Int32)
  · have h := ht_1_5 c_1_5
    refine x_tableIn c_1_5 hx hb dX6_kindBy_1 (by decide) (by decide) (off := (99)) rfl (tgt := 100) (by decide) ?_
    refine lv_bipush (v := (-9 : Int32)) hx hb dX6_kindBy_100 (by decide) ?_
    obtain rfl := Option.some.inj h
    exact x_reti F hr hW rfl dX6_kindBy_102
  have h := h c_1_5
  obtain ⟨ht_1_6, h⟩ := of_ite h
  by_cases c_1_6 : x1 = (105 : Int32)
  · have h := ht_1_6 c_1_6
    refine x_tableIn c_1_6 hx hb dX6_kindBy_1 (by decide) (by decide) (off := (99)) rfl (tgt := 100) (by decide) ?_
    refine lv_bipush (v := (-9 : Int32)) hx hb dX6_kindBy_100 (by decide) ?_
    obtain rfl := Option.some.inj h
    exact x_reti F hr hW rfl dX6_kindBy_102
  have h := h c_1_6
  obtain ⟨ht_1_7, h⟩ := of_ite h
  by_cases c_1_7 : x1 = (106 : Int32)
  · have h := ht_1_7 c_1_7
    refine x_tableIn c_1_7 hx hb dX6_kindBy_1 (by decide) (by decide) (off := (99)) rfl (tgt := 100) (by decide) ?_
    refine lv_bipush (v := (-9 : Int32)) hx hb dX6_kindBy_100 (by decide) ?_
    obtain rfl := Option.some.inj h
    exact x_reti F hr hW rfl dX6_kindBy_102
  have h := h c_1_7
  obtain ⟨ht_1_8, h⟩ := of_ite h
  by_cases c_1_8 : x1 = (107 : Int32)
  · have h := ht_1_8 c_1_8
    refine x_tableIn c_1_8 hx hb dX6_kindBy_1 (by decide) (by decide) (off := (99)) rfl (tgt := 100) (by decide) ?_
    refine lv_bipush (v := (-9 : Int32)) hx hb dX6_kindBy_100 (by decide) ?_
    obtain rfl := Option.some.inj h
    exact x_reti F hr hW rfl dX6_kindBy_102
  have h := h c_1_8
  obtain ⟨ht_1_9, h⟩ := of_ite h
  by_cases c_1_9 : x1 = (108 : Int32)
  · have h := ht_1_9 c_1_9
    refine x_tableIn c_1_9 hx hb dX6_kindBy_1 (by decide) (by decide) (off := (93)) rfl (tgt := 94) (by decide) ?_
    refine lv_iconst (v := (3 : Int32)) hx hb dX6_kindBy_94 (by decide) ?_
    obtain rfl := Option.some.inj h
    exact x_reti F hr hW rfl dX6_kindBy_95
  have h := h c_1_9
  obtain ⟨ht_1_10, h⟩ := of_ite h
  by_cases c_1_10 : x1 = (109 : Int32)
  · have h := ht_1_10 c_1_10
    refine x_tableIn c_1_10 hx hb dX6_kindBy_1 (by decide) (by decide) (off := (95)) rfl (tgt := 96) (by decide) ?_
    refine lv_iconst (v := (4 : Int32)) hx hb dX6_kindBy_96 (by decide) ?_
    obtain rfl := Option.some.inj h
    exact x_reti F hr hW rfl dX6_kindBy_97
  have h := h c_1_10
  obtain ⟨ht_1_11, h⟩ := of_ite h
  by_cases c_1_11 : x1 = (110 : Int32)
  · have h := ht_1_11 c_1_11
    refine x_tableIn c_1_11 hx hb dX6_kindBy_1 (by decide) (by decide) (off := (99)) rfl (tgt := 100) (by decide) ?_
    refine lv_bipush (v := (-9 : Int32)) hx hb dX6_kindBy_100 (by decide) ?_
    obtain rfl := Option.some.inj h
    exact x_reti F hr hW rfl dX6_kindBy_102
  have h := h c_1_11
  obtain ⟨ht_1_12, h⟩ := of_ite h
  by_cases c_1_12 : x1 = (111 : Int32)
  · have h := ht_1_12 c_1_12
    refine x_tableIn c_1_12 hx hb dX6_kindBy_1 (by decide) (by decide) (off := (97)) rfl (tgt := 98) (by decide) ?_
    refine lv_iconst (v := (5 : Int32)) hx hb dX6_kindBy_98 (by decide) ?_
    obtain rfl := Option.some.inj h
    exact x_reti F hr hW rfl dX6_kindBy_99
  have h := h c_1_12
  obtain ⟨ht_1_13, h⟩ := of_ite h
  by_cases c_1_13 : x1 = (112 : Int32)
  · have h := ht_1_13 c_1_13
    refine x_tableIn c_1_13 hx hb dX6_kindBy_1 (by decide) (by decide) (off := (99)) rfl (tgt := 100) (by decide) ?_
    refine lv_bipush (v := (-9 : Int32)) hx hb dX6_kindBy_100 (by decide) ?_
    obtain rfl := Option.some.inj h
    exact x_reti F hr hW rfl dX6_kindBy_102
  have h := h c_1_13
  obtain ⟨ht_1_14, h⟩ := of_ite h
  by_cases c_1_14 : x1 = (113 : Int32)
  · have h := ht_1_14 c_1_14
    refine x_tableIn c_1_14 hx hb dX6_kindBy_1 (by decide) (by decide) (off := (99)) rfl (tgt := 100) (by decide) ?_
    refine lv_bipush (v := (-9 : Int32)) hx hb dX6_kindBy_100 (by decide) ?_
    obtain rfl := Option.some.inj h
    exact x_reti F hr hW rfl dX6_kindBy_102
  have h := h c_1_14
  obtain ⟨ht_1_15, h⟩ := of_ite h
  by_cases c_1_15 : x1 = (114 : Int32)
  · have h := ht_1_15 c_1_15
    refine x_tableIn c_1_15 hx hb dX6_kindBy_1 (by decide) (by decide) (off := (99)) rfl (tgt := 100) (by decide) ?_
    refine lv_bipush (v := (-9 : Int32)) hx hb dX6_kindBy_100 (by decide) ?_
    obtain rfl := Option.some.inj h
    exact x_reti F hr hW rfl dX6_kindBy_102
  have h := h c_1_15
  obtain ⟨ht_1_16, h⟩ := of_ite h
  by_cases c_1_16 : x1 = (115 : Int32)
  · have h := ht_1_16 c_1_16
    refine x_tableIn c_1_16 hx hb dX6_kindBy_1 (by decide) (by decide) (off := (91)) rfl (tgt := 92) (by decide) ?_
    refine lv_iconst (v := (2 : Int32)) hx hb dX6_kindBy_92 (by decide) ?_
    obtain rfl := Option.some.inj h
    exact x_reti F hr hW rfl dX6_kindBy_93
  have h := h c_1_16
  obtain ⟨ht_1_17, h⟩ := of_ite h
  by_cases c_1_17 : x1 = (116 : Int32)
  · have h := ht_1_17 c_1_17
    refine x_tableIn c_1_17 hx hb dX6_kindBy_1 (by decide) (by decide) (off := (89)) rfl (tgt := 90) (by decide) ?_
    refine lv_iconst (v := (1 : Int32)) hx hb dX6_kindBy_90 (by decide) ?_
    obtain rfl := Option.some.inj h
    exact x_reti F hr hW rfl dX6_kindBy_91
  have h := h c_1_17
  refine lv_tableOut hx hb dX6_kindBy_1 (by have z0 := x_ne c_1_0 (z := 99) (by decide); have z1 := x_ne c_1_1 (z := 100) (by decide); have z2 := x_ne c_1_2 (z := 101) (by decide); have z3 := x_ne c_1_3 (z := 102) (by decide); have z4 := x_ne c_1_4 (z := 103) (by decide); have z5 := x_ne c_1_5 (z := 104) (by decide); have z6 := x_ne c_1_6 (z := 105) (by decide); have z7 := x_ne c_1_7 (z := 106) (by decide); have z8 := x_ne c_1_8 (z := 107) (by decide); have z9 := x_ne c_1_9 (z := 108) (by decide); have z10 := x_ne c_1_10 (z := 109) (by decide); have z11 := x_ne c_1_11 (z := 110) (by decide); have z12 := x_ne c_1_12 (z := 111) (by decide); have z13 := x_ne c_1_13 (z := 112) (by decide); have z14 := x_ne c_1_14 (z := 113) (by decide); have z15 := x_ne c_1_15 (z := 114) (by decide); have z16 := x_ne c_1_16 (z := 115) (by decide); have z17 := x_ne c_1_17 (z := 116) (by decide); omega) (tgt := 100) (by decide) ?_
  refine lv_bipush (v := (-9 : Int32)) hx hb dX6_kindBy_100 (by decide) ?_
  obtain rfl := Option.some.inj h
  exact x_reti F hr hW rfl dX6_kindBy_102
def f_X6_readsKind (w : MW) : Option (Int32 × MW) :=
  Option.bind (f_X6_here w) fun p_6 =>
    Option.bind (f_X6_kindBy p_6) fun p_9 =>
    if inR (0 : Int32) 3 then
    if inR (0 : Int32) 3 then
    if 0 ≤ ((upd w.2.2.2.2.2.2.2.1 (0 : Int32).toNatClampNeg p_9) (0 : Int32).toNatClampNeg) then
    if inR (0 : Int32) 3 then
    if ((upd w.2.2.2.2.2.2.2.1 (0 : Int32).toNatClampNeg p_9) (0 : Int32).toNatClampNeg) < 0 then
    some ((0 : Int32), (w.1, w.2.1, w.2.2.1, w.2.2.2.1, w.2.2.2.2.1, w.2.2.2.2.2.1, w.2.2.2.2.2.2.1, (upd w.2.2.2.2.2.2.2.1 (0 : Int32).toNatClampNeg p_9), w.2.2.2.2.2.2.2.2.1, w.2.2.2.2.2.2.2.2.2.1, w.2.2.2.2.2.2.2.2.2.2.1, w.2.2.2.2.2.2.2.2.2.2.2.1, (w.2.2.2.2.2.2.2.2.2.2.2.2.1 + (1 : Int32)), w.2.2.2.2.2.2.2.2.2.2.2.2.2))
    else
    some ((1 : Int32), (w.1, w.2.1, w.2.2.1, w.2.2.2.1, w.2.2.2.2.1, w.2.2.2.2.2.1, w.2.2.2.2.2.2.1, (upd w.2.2.2.2.2.2.2.1 (0 : Int32).toNatClampNeg p_9), w.2.2.2.2.2.2.2.2.1, w.2.2.2.2.2.2.2.2.2.1, w.2.2.2.2.2.2.2.2.2.2.1, w.2.2.2.2.2.2.2.2.2.2.2.1, (w.2.2.2.2.2.2.2.2.2.2.2.2.1 + (1 : Int32)), w.2.2.2.2.2.2.2.2.2.2.2.2.2))
    else none
    else
    if inR (0 : Int32) 3 then
    if ((upd w.2.2.2.2.2.2.2.1 (0 : Int32).toNatClampNeg p_9) (0 : Int32).toNatClampNeg) < 0 then
    some ((0 : Int32), (w.1, w.2.1, w.2.2.1, w.2.2.2.1, w.2.2.2.2.1, w.2.2.2.2.2.1, w.2.2.2.2.2.2.1, (upd w.2.2.2.2.2.2.2.1 (0 : Int32).toNatClampNeg p_9), w.2.2.2.2.2.2.2.2.1, w.2.2.2.2.2.2.2.2.2.1, w.2.2.2.2.2.2.2.2.2.2.1, w.2.2.2.2.2.2.2.2.2.2.2.1, (w.2.2.2.2.2.2.2.2.2.2.2.2.1 + (0 : Int32)), w.2.2.2.2.2.2.2.2.2.2.2.2.2))
    else
    some ((1 : Int32), (w.1, w.2.1, w.2.2.1, w.2.2.2.1, w.2.2.2.2.1, w.2.2.2.2.2.1, w.2.2.2.2.2.2.1, (upd w.2.2.2.2.2.2.2.1 (0 : Int32).toNatClampNeg p_9), w.2.2.2.2.2.2.2.2.1, w.2.2.2.2.2.2.2.2.2.1, w.2.2.2.2.2.2.2.2.2.2.1, w.2.2.2.2.2.2.2.2.2.2.2.1, (w.2.2.2.2.2.2.2.2.2.2.2.2.1 + (0 : Int32)), w.2.2.2.2.2.2.2.2.2.2.2.2.2))
    else none
    else none
    else none
abbrev rmX6_readsKind : Room := { frames := 1, cells := 0, slots := 0, locals := 20 }
set_option maxRecDepth 100000 in
set_option maxHeartbeats 4000000 in
theorem c_X6_readsKind (l : Launch) (G : EnT) (q : Nat → Nat) (w : MW) (o : Int32 × MW) (h : f_X6_readsKind w = some o) : Mi l yX6_readsKind rmX6_readsKind cX6_readsKind 1 (some .boolean) G false [.ref (q 0)] (cMW G q w) o.1 (cMW G q o.2) := by
  refine Mi_of (by decide) (Nat.le_of_ble_eq_true rfl) ?_
  intro p e s m below meth c A0 F hr hW ls hl
  obtain ⟨hx, hb, hml, hown, hts, hK, hNW, hlocks, hA, hSX⟩ := id F
  have hl : lv_has ls 1 [(0, .ref (q 0))] := hl
  have hW : Wd G A0 s (cMW G q w) s.heap [] := hW
  show W p l e rmX6_readsKind s m ([.ref (q 0)] : List Value).toArray below meth c s.heap [] 0 0 (Qi below G (cMW G q o.2) o.1 A0 ([.ref (q 0)] : List Value).toArray s) (F0 m 0 ls [])
  refine lv_aload_n hx hb dX6_readsKind_0 rfl (lv_at hl 0 rfl) ?_
  refine x_get F hW 0 rfl fa_X6_31 rfl dX6_readsKind_1 ?_
  refine lv_iconst (v := (0 : Int32)) hx hb dX6_readsKind_4 (by decide) ?_
  refine lv_aload_n hx hb dX6_readsKind_5 rfl (lv_at hl 0 rfl) ?_
  obtain ⟨p_6, hc_6, h⟩ := of_bind h
  refine x_Vi (av := [.ref (q 0)]) (As := []) F hW (c_X6_here l G q w _ hc_6) [0, 1, 2, 3, 4, 5, 6, 7, 8, 9] rfl rfl (by intro q; cases q) cv_X6_100 rfl ⟨_, rfl, rfl⟩ rfl rfl rfl hl (Nat.le_of_ble_eq_true rfl) ⟨Nat.le_of_ble_eq_true rfl, Nat.le_of_ble_eq_true rfl⟩ ⟨rfl, rfl⟩ ⟨Nat.le_of_ble_eq_true rfl, Nat.le_of_ble_eq_true rfl⟩ dX6_readsKind_6 rfl [some 0, some 1, some 2, some 3, some 4, some 5, some 6, some 7, some 8, some 9] rfl (ws' := cMW G q w) rfl (fun H locs hW => ?_)
  obtain ⟨p_9, hc_9, h⟩ := of_bind h
  refine x_Si (av := [.int p_6]) F hW (c_X6_kindBy l G p_6 _ hc_9) [] rfl rfl (by intro q; cases q) cs_X6_104 rfl rfl hl (Nat.le_of_ble_eq_true rfl) ⟨Nat.le_of_ble_eq_true rfl, Nat.le_of_ble_eq_true rfl⟩ ⟨rfl, rfl⟩ ⟨Nat.le_of_ble_eq_true rfl, Nat.le_of_ble_eq_true rfl⟩ dX6_readsKind_9 rfl [none, none, none, none, none, none, none, none, none, none] rfl (ws' := cMW G q w) rfl (fun H locs hW => ?_)
  obtain ⟨g_12, h⟩ := of_guard h
  refine x_iast F hW 8 rfl g_12 (ws' := cMW G q (w.1, w.2.1, w.2.2.1, w.2.2.2.1, w.2.2.2.2.1, w.2.2.2.2.2.1, w.2.2.2.2.2.2.1, (upd w.2.2.2.2.2.2.2.1 (0 : Int32).toNatClampNeg p_9), w.2.2.2.2.2.2.2.2.1, w.2.2.2.2.2.2.2.2.2.1, w.2.2.2.2.2.2.2.2.2.2.1, w.2.2.2.2.2.2.2.2.2.2.2.1, w.2.2.2.2.2.2.2.2.2.2.2.2.1, w.2.2.2.2.2.2.2.2.2.2.2.2.2)) rfl dX6_readsKind_12 (fun H locs hW => ?_)
  refine lv_aload_n hx hb dX6_readsKind_13 rfl (lv_at hl 0 rfl) ?_
  refine lv_dup hx hb dX6_readsKind_14 rfl ?_
  refine x_get F hW 0 rfl fa_X6_97 rfl dX6_readsKind_15 ?_
  refine lv_aload_n hx hb dX6_readsKind_18 rfl (lv_at hl 0 rfl) ?_
  refine x_get F hW 0 rfl fa_X6_31 rfl dX6_readsKind_19 ?_
  refine lv_iconst (v := (0 : Int32)) hx hb dX6_readsKind_22 (by decide) ?_
  obtain ⟨g_23, h⟩ := of_guard h
  refine x_iald F hW 8 rfl g_23 dX6_readsKind_23 ?_
  obtain ⟨ht_24, hf_24⟩ := of_ite h
  refine lv_if_ge (tgt := 31) hx hb dX6_readsKind_24 (by decide) (fun c_24 => ?_) (fun c_24 => ?_)
  · have h := ht_24 c_24
    refine lv_iconst (v := (1 : Int32)) hx hb dX6_readsKind_31 (by decide) ?_
    refine lv_iadd hx hb dX6_readsKind_32 ?_
    refine x_put F hW 0 rfl fp_X6_97 rfl rfl (Nat.le_of_ble_eq_true rfl) (ws' := cMW G q (w.1, w.2.1, w.2.2.1, w.2.2.2.1, w.2.2.2.2.1, w.2.2.2.2.2.1, w.2.2.2.2.2.2.1, (upd w.2.2.2.2.2.2.2.1 (0 : Int32).toNatClampNeg p_9), w.2.2.2.2.2.2.2.2.1, w.2.2.2.2.2.2.2.2.2.1, w.2.2.2.2.2.2.2.2.2.2.1, w.2.2.2.2.2.2.2.2.2.2.2.1, (w.2.2.2.2.2.2.2.2.2.2.2.2.1 + (1 : Int32)), w.2.2.2.2.2.2.2.2.2.2.2.2.2)) rfl dX6_readsKind_33 (fun H locs hW => ?_)
    refine lv_aload_n hx hb dX6_readsKind_36 rfl (lv_at hl 0 rfl) ?_
    refine x_get F hW 0 rfl fa_X6_31 rfl dX6_readsKind_37 ?_
    refine lv_iconst (v := (0 : Int32)) hx hb dX6_readsKind_40 (by decide) ?_
    obtain ⟨g_41, h⟩ := of_guard h
    refine x_iald F hW 8 rfl g_41 dX6_readsKind_41 ?_
    obtain ⟨ht_42, hf_42⟩ := of_ite h
    refine lv_if_lt (tgt := 49) hx hb dX6_readsKind_42 (by decide) (fun c_42 => ?_) (fun c_42 => ?_)
    · have h := ht_42 c_42
      refine lv_iconst (v := (0 : Int32)) hx hb dX6_readsKind_49 (by decide) ?_
      obtain rfl := Option.some.inj h
      exact x_retz F hr hW (Or.inl rfl) rfl dX6_readsKind_50
    · have h := hf_42 c_42
      refine lv_iconst (v := (1 : Int32)) hx hb dX6_readsKind_45 (by decide) ?_
      refine lv_goto (tgt := 50) hx hb dX6_readsKind_46 (by decide) ?_
      obtain rfl := Option.some.inj h
      exact x_retz F hr hW (Or.inr rfl) rfl dX6_readsKind_50
  · have h := hf_24 c_24
    refine lv_iconst (v := (0 : Int32)) hx hb dX6_readsKind_27 (by decide) ?_
    refine lv_goto (tgt := 32) hx hb dX6_readsKind_28 (by decide) ?_
    refine lv_iadd hx hb dX6_readsKind_32 ?_
    refine x_put F hW 0 rfl fp_X6_97 rfl rfl (Nat.le_of_ble_eq_true rfl) (ws' := cMW G q (w.1, w.2.1, w.2.2.1, w.2.2.2.1, w.2.2.2.2.1, w.2.2.2.2.2.1, w.2.2.2.2.2.2.1, (upd w.2.2.2.2.2.2.2.1 (0 : Int32).toNatClampNeg p_9), w.2.2.2.2.2.2.2.2.1, w.2.2.2.2.2.2.2.2.2.1, w.2.2.2.2.2.2.2.2.2.2.1, w.2.2.2.2.2.2.2.2.2.2.2.1, (w.2.2.2.2.2.2.2.2.2.2.2.2.1 + (0 : Int32)), w.2.2.2.2.2.2.2.2.2.2.2.2.2)) rfl dX6_readsKind_33 (fun H locs hW => ?_)
    refine lv_aload_n hx hb dX6_readsKind_36 rfl (lv_at hl 0 rfl) ?_
    refine x_get F hW 0 rfl fa_X6_31 rfl dX6_readsKind_37 ?_
    refine lv_iconst (v := (0 : Int32)) hx hb dX6_readsKind_40 (by decide) ?_
    obtain ⟨g_41, h⟩ := of_guard h
    refine x_iald F hW 8 rfl g_41 dX6_readsKind_41 ?_
    obtain ⟨ht_42, hf_42⟩ := of_ite h
    refine lv_if_lt (tgt := 49) hx hb dX6_readsKind_42 (by decide) (fun c_42 => ?_) (fun c_42 => ?_)
    · have h := ht_42 c_42
      refine lv_iconst (v := (0 : Int32)) hx hb dX6_readsKind_49 (by decide) ?_
      obtain rfl := Option.some.inj h
      exact x_retz F hr hW (Or.inl rfl) rfl dX6_readsKind_50
    · have h := hf_42 c_42
      refine lv_iconst (v := (1 : Int32)) hx hb dX6_readsKind_45 (by decide) ?_
      refine lv_goto (tgt := 50) hx hb dX6_readsKind_46 (by decide) ?_
      obtain rfl := Option.some.inj h
      exact x_retz F hr hW (Or.inr rfl) rfl dX6_readsKind_50
