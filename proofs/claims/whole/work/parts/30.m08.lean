def f_X6_doesHangBy_45 (k0 : Int32 → MW → Option (Int32 × MW)) (x1 : Int32) (v4_45 : Int32) (t0_45 : Int32) (t1_45 : Int32) (w_45 : MW) : Option (Int32 × MW) :=
  if inR t1_45 71 then
    Option.bind (f_X6_hangIn (upd w_45.2.1 t1_45.toNatClampNeg t0_45)) fun p_50 =>
    Option.bind (f_X6_has p_50 x1) fun p_54 =>
    if p_54 = 0 then
    some ((0 : Int32), (w_45.1, (upd w_45.2.1 t1_45.toNatClampNeg t0_45), w_45.2.2.1, w_45.2.2.2.1, w_45.2.2.2.2.1, w_45.2.2.2.2.2.1, w_45.2.2.2.2.2.2.1, w_45.2.2.2.2.2.2.2.1, w_45.2.2.2.2.2.2.2.2.1, w_45.2.2.2.2.2.2.2.2.2.1, w_45.2.2.2.2.2.2.2.2.2.2.1, w_45.2.2.2.2.2.2.2.2.2.2.2.1, w_45.2.2.2.2.2.2.2.2.2.2.2.2.1, w_45.2.2.2.2.2.2.2.2.2.2.2.2.2))
    else
    Option.bind (f_X6_night (upd w_45.2.1 t1_45.toNatClampNeg t0_45)) fun p_66 =>
    nm p_66.1 fun x_69 =>
    k0 (v4_45 + (1 : Int32)) (w_45.1, p_66.2, w_45.2.2.1, w_45.2.2.2.1, w_45.2.2.2.2.1, w_45.2.2.2.2.2.1, w_45.2.2.2.2.2.2.1, w_45.2.2.2.2.2.2.2.1, w_45.2.2.2.2.2.2.2.2.1, w_45.2.2.2.2.2.2.2.2.2.1, w_45.2.2.2.2.2.2.2.2.2.2.1, w_45.2.2.2.2.2.2.2.2.2.2.2.1, w_45.2.2.2.2.2.2.2.2.2.2.2.2.1, w_45.2.2.2.2.2.2.2.2.2.2.2.2.2)
    else none
def f_X6_doesHangBy_14 (x2 : Int32) (x3 : Int32) (x1 : Int32) : Nat → Int32 → MW → Option (Int32 × MW)
  | 0, _, _ => none
  | n0 + 1, v4_14, w_14 =>
    if x2 ≤ v4_14 then
    some ((1 : Int32), w_14)
    else
    Option.bind (f_X6_has x3 v4_14) fun p_28 =>
    if p_28 = 0 then
    if inR (2 : Int32) 71 then
    f_X6_doesHangBy_45 (fun a0 a1 => f_X6_doesHangBy_14 x2 x3 x1 n0 a0 a1) x1 v4_14 (w_14.1 (2 : Int32).toNatClampNeg) (2 : Int32) w_14
    else none
    else
    f_X6_doesHangBy_45 (fun a0 a1 => f_X6_doesHangBy_14 x2 x3 x1 n0 a0 a1) x1 v4_14 (9 : Int32) (2 : Int32) w_14
def f_X6_doesHangBy (w : MW) (x1 : Int32) (x2 : Int32) (x3 : Int32) : Option (Int32 × MW) :=
  Option.bind (f_X6_copies w.1 w.2.1) fun p_8 =>
    f_X6_doesHangBy_14 x2 x3 x1 200 (0 : Int32) (w.1, p_8, w.2.2.1, w.2.2.2.1, w.2.2.2.2.1, w.2.2.2.2.2.1, w.2.2.2.2.2.2.1, w.2.2.2.2.2.2.2.1, w.2.2.2.2.2.2.2.2.1, w.2.2.2.2.2.2.2.2.2.1, w.2.2.2.2.2.2.2.2.2.2.1, w.2.2.2.2.2.2.2.2.2.2.2.1, w.2.2.2.2.2.2.2.2.2.2.2.2.1, w.2.2.2.2.2.2.2.2.2.2.2.2.2)
abbrev rmX6_doesHangBy : Room := { frames := 5, cells := 0, slots := 0, locals := 115 }
set_option maxRecDepth 100000 in
set_option maxHeartbeats 4000000 in
theorem c_X6_doesHangBy (l : Launch) (G : EnT) (q : Nat → Nat) (w : MW) (x1 : Int32) (x2 : Int32) (x3 : Int32) (o : Int32 × MW) (h : f_X6_doesHangBy w x1 x2 x3 = some o) : Mi l yX6_doesHangBy rmX6_doesHangBy cX6_doesHangBy 6 (some .boolean) G false [.ref (q 0), .int x1, .int x2, .int x3] (cMW G q w) o.1 (cMW G q o.2) := by
  refine Mi_of (by decide) (Nat.le_of_ble_eq_true rfl) ?_
  intro p e s m below meth c A0 F hr hW ls hl
  obtain ⟨hx, hb, hml, hown, hts, hK, hNW, hlocks, hA, hSX⟩ := id F
  have hl : lv_has ls 6 [(0, .ref (q 0)), (1, .int x1), (2, .int x2), (3, .int x3)] := hl
  have hW : Wd G A0 s (cMW G q w) s.heap [] := hW
  show W p l e rmX6_doesHangBy s m ([.ref (q 0), .int x1, .int x2, .int x3] : List Value).toArray below meth c s.heap [] 0 0 (Qi below G (cMW G q o.2) o.1 A0 ([.ref (q 0), .int x1, .int x2, .int x3] : List Value).toArray s) (F0 m 0 ls [])
  refine lv_aload_n hx hb dX6_doesHangBy_0 rfl (lv_at hl 0 rfl) ?_
  refine x_get F hW 0 rfl fa_X6_9 rfl dX6_doesHangBy_1 ?_
  refine lv_aload_n hx hb dX6_doesHangBy_4 rfl (lv_at hl 0 rfl) ?_
  refine x_get F hW 0 rfl fa_X6_13 rfl dX6_doesHangBy_5 ?_
  obtain ⟨p_8, hc_8, h⟩ := of_bind h
  refine x_Sv (av := [.ref (q 1), .ref (q 2)]) F hW (c_X6_copies l G (fun i => q (i + 1)) w.1 (fun i => q (i + 2)) w.2.1 _ hc_8) [1, 2] rfl rfl (by intro q; cases q) cs_X6_134 rfl rfl hl (Nat.le_of_ble_eq_true rfl) ⟨Nat.le_of_ble_eq_true rfl, Nat.le_of_ble_eq_true rfl⟩ ⟨rfl, rfl⟩ ⟨Nat.le_of_ble_eq_true rfl, Nat.le_of_ble_eq_true rfl⟩ dX6_doesHangBy_8 rfl [none, some 0, some 1, none, none, none, none, none, none, none] rfl (ws' := cMW G q (w.1, p_8, w.2.2.1, w.2.2.2.1, w.2.2.2.2.1, w.2.2.2.2.2.1, w.2.2.2.2.2.2.1, w.2.2.2.2.2.2.2.1, w.2.2.2.2.2.2.2.2.1, w.2.2.2.2.2.2.2.2.2.1, w.2.2.2.2.2.2.2.2.2.2.1, w.2.2.2.2.2.2.2.2.2.2.2.1, w.2.2.2.2.2.2.2.2.2.2.2.2.1, w.2.2.2.2.2.2.2.2.2.2.2.2.2)) rfl (fun H locs hW => ?_)
  refine lv_iconst (v := (0 : Int32)) hx hb dX6_doesHangBy_11 (by decide) ?_
  refine lv_istore (lv' := [(4, .int (0 : Int32)), (0, .ref (q 0)), (1, .int x1), (2, .int x2), (3, .int x3)]) hx hb dX6_doesHangBy_12 hl (by decide) rfl (fun ls hl => ?_)
  have L0 : ∀ (n0 : Nat) (v4_14 : Int32) (w_14 : MW) (H : Heap) (locs : List Loc) (ls : Array Slot), f_X6_doesHangBy_14 x2 x3 x1 n0 v4_14 w_14 = some o → Wd G A0 s (cMW G q w_14) H locs → lv_has ls 6 [(4, .int v4_14), (0, .ref (q 0)), (1, .int x1), (2, .int x2), (3, .int x3)] → W p l e rmX6_doesHangBy s m ([.ref (q 0), .int x1, .int x2, .int x3] : List Value).toArray below meth c H locs 0 0 (Qi below G (cMW G q o.2) o.1 A0 ([.ref (q 0), .int x1, .int x2, .int x3] : List Value).toArray s) (F0 m 14 ls []) := by
    intro n0
    induction n0 with
    | zero => intro v4_14 w_14 H locs ls h; cases (show (none : Option (Int32 × MW)) = some o from h)
    | succ n0 ih0 =>
      intro v4_14 w_14 H locs ls h hW hl
      have J1 : ∀ (v4_45 : Int32) (t0_45 : Int32) (t1_45 : Int32) (w_45 : MW) (H : Heap) (locs : List Loc) (ls : Array Slot), f_X6_doesHangBy_45 (fun a0 a1 => f_X6_doesHangBy_14 x2 x3 x1 n0 a0 a1) x1 v4_45 t0_45 t1_45 w_45 = some o → Wd G A0 s (cMW G q w_45) H locs → lv_has ls 6 [(4, .int v4_45), (0, .ref (q 0)), (1, .int x1), (2, .int x2), (3, .int x3)] → W p l e rmX6_doesHangBy s m ([.ref (q 0), .int x1, .int x2, .int x3] : List Value).toArray below meth c H locs 0 0 (Qi below G (cMW G q o.2) o.1 A0 ([.ref (q 0), .int x1, .int x2, .int x3] : List Value).toArray s) (F0 m 45 ls [.int t0_45, .int t1_45, .ref (q 2)]) := by
        intro v4_45 t0_45 t1_45 w_45 H locs ls h hW hl
        obtain ⟨g_45, h⟩ := of_guard h
        refine x_iast F hW 2 rfl g_45 (ws' := cMW G q (w_45.1, (upd w_45.2.1 t1_45.toNatClampNeg t0_45), w_45.2.2.1, w_45.2.2.2.1, w_45.2.2.2.2.1, w_45.2.2.2.2.2.1, w_45.2.2.2.2.2.2.1, w_45.2.2.2.2.2.2.2.1, w_45.2.2.2.2.2.2.2.2.1, w_45.2.2.2.2.2.2.2.2.2.1, w_45.2.2.2.2.2.2.2.2.2.2.1, w_45.2.2.2.2.2.2.2.2.2.2.2.1, w_45.2.2.2.2.2.2.2.2.2.2.2.2.1, w_45.2.2.2.2.2.2.2.2.2.2.2.2.2)) rfl dX6_doesHangBy_45 (fun H locs hW => ?_)
        refine lv_aload_n hx hb dX6_doesHangBy_46 rfl (lv_at hl 1 rfl) ?_
        refine x_get F hW 0 rfl fa_X6_13 rfl dX6_doesHangBy_47 ?_
        obtain ⟨p_50, hc_50, h⟩ := of_bind h
        refine x_Si (av := [.ref (q 2)]) F hW (c_X6_hangIn l G (fun i => q (i + 2)) (upd w_45.2.1 t1_45.toNatClampNeg t0_45) _ hc_50) [2] rfl rfl (by intro q; cases q) cs_X6_145 rfl rfl hl (Nat.le_of_ble_eq_true rfl) ⟨Nat.le_of_ble_eq_true rfl, Nat.le_of_ble_eq_true rfl⟩ ⟨rfl, rfl⟩ ⟨Nat.le_of_ble_eq_true rfl, Nat.le_of_ble_eq_true rfl⟩ dX6_doesHangBy_50 rfl [none, none, some 0, none, none, none, none, none, none, none] rfl (ws' := cMW G q (w_45.1, (upd w_45.2.1 t1_45.toNatClampNeg t0_45), w_45.2.2.1, w_45.2.2.2.1, w_45.2.2.2.2.1, w_45.2.2.2.2.2.1, w_45.2.2.2.2.2.2.1, w_45.2.2.2.2.2.2.2.1, w_45.2.2.2.2.2.2.2.2.1, w_45.2.2.2.2.2.2.2.2.2.1, w_45.2.2.2.2.2.2.2.2.2.2.1, w_45.2.2.2.2.2.2.2.2.2.2.2.1, w_45.2.2.2.2.2.2.2.2.2.2.2.2.1, w_45.2.2.2.2.2.2.2.2.2.2.2.2.2)) rfl (fun H locs hW => ?_)
        refine lv_iload_n hx hb dX6_doesHangBy_53 rfl (lv_at hl 2 rfl) ?_
        obtain ⟨p_54, hc_54, h⟩ := of_bind h
        refine x_Si (av := [.int p_50, .int x1]) F hW (c_X6_has l G p_50 x1 _ hc_54) [] rfl rfl (by intro q; cases q) cs_X6_75 rfl rfl hl (Nat.le_of_ble_eq_true rfl) ⟨Nat.le_of_ble_eq_true rfl, Nat.le_of_ble_eq_true rfl⟩ ⟨rfl, rfl⟩ ⟨Nat.le_of_ble_eq_true rfl, Nat.le_of_ble_eq_true rfl⟩ dX6_doesHangBy_54 rfl [none, none, none, none, none, none, none, none, none, none] rfl (ws' := cMW G q (w_45.1, (upd w_45.2.1 t1_45.toNatClampNeg t0_45), w_45.2.2.1, w_45.2.2.2.1, w_45.2.2.2.2.1, w_45.2.2.2.2.2.1, w_45.2.2.2.2.2.2.1, w_45.2.2.2.2.2.2.2.1, w_45.2.2.2.2.2.2.2.2.1, w_45.2.2.2.2.2.2.2.2.2.1, w_45.2.2.2.2.2.2.2.2.2.2.1, w_45.2.2.2.2.2.2.2.2.2.2.2.1, w_45.2.2.2.2.2.2.2.2.2.2.2.2.1, w_45.2.2.2.2.2.2.2.2.2.2.2.2.2)) rfl (fun H locs hW => ?_)
        obtain ⟨ht_57, hf_57⟩ := of_ite h
        refine lv_if_ne (tgt := 62) hx hb dX6_doesHangBy_57 (by decide) (fun c_57 => ?_) (fun c_57 => ?_)
        · have h := hf_57 c_57
          refine lv_aload_n hx hb dX6_doesHangBy_62 rfl (lv_at hl 1 rfl) ?_
          refine x_get F hW 0 rfl fa_X6_13 rfl dX6_doesHangBy_63 ?_
          obtain ⟨p_66, hc_66, h⟩ := of_bind h
          refine x_Si (av := [.ref (q 2)]) F hW (c_X6_night l G (fun i => q (i + 2)) (upd w_45.2.1 t1_45.toNatClampNeg t0_45) _ hc_66) [2] rfl rfl (by intro q; cases q) cs_X6_90 rfl rfl hl (Nat.le_of_ble_eq_true rfl) ⟨Nat.le_of_ble_eq_true rfl, Nat.le_of_ble_eq_true rfl⟩ ⟨rfl, rfl⟩ ⟨Nat.le_of_ble_eq_true rfl, Nat.le_of_ble_eq_true rfl⟩ dX6_doesHangBy_66 rfl [none, none, some 0, none, none, none, none, none, none, none] rfl (ws' := cMW G q (w_45.1, p_66.2, w_45.2.2.1, w_45.2.2.2.1, w_45.2.2.2.2.1, w_45.2.2.2.2.2.1, w_45.2.2.2.2.2.2.1, w_45.2.2.2.2.2.2.2.1, w_45.2.2.2.2.2.2.2.2.1, w_45.2.2.2.2.2.2.2.2.2.1, w_45.2.2.2.2.2.2.2.2.2.2.1, w_45.2.2.2.2.2.2.2.2.2.2.2.1, w_45.2.2.2.2.2.2.2.2.2.2.2.2.1, w_45.2.2.2.2.2.2.2.2.2.2.2.2.2)) rfl (fun H locs hW => ?_)
          obtain ⟨x_69, e_x_69, h⟩ := of_nm h
          refine x_topi e_x_69 ?_
          refine lv_istore (lv' := [(5, .int x_69), (4, .int v4_45), (0, .ref (q 0)), (1, .int x1), (2, .int x2), (3, .int x3)]) hx hb dX6_doesHangBy_69 hl (by decide) rfl (fun ls hl => ?_)
          refine lv_iinc (v := (v4_45 + (1 : Int32))) (lv' := [(4, .int (v4_45 + (1 : Int32))), (5, .int x_69), (0, .ref (q 0)), (1, .int x1), (2, .int x2), (3, .int x3)]) hx hb dX6_doesHangBy_71 hl (k := 1) rfl rfl (by decide) rfl (fun ls hl => ?_)
          refine lv_goto (tgt := 14) hx hb dX6_doesHangBy_74 (by decide) ?_
          exact ih0 (v4_45 + (1 : Int32)) (w_45.1, p_66.2, w_45.2.2.1, w_45.2.2.2.1, w_45.2.2.2.2.1, w_45.2.2.2.2.2.1, w_45.2.2.2.2.2.2.1, w_45.2.2.2.2.2.2.2.1, w_45.2.2.2.2.2.2.2.2.1, w_45.2.2.2.2.2.2.2.2.2.1, w_45.2.2.2.2.2.2.2.2.2.2.1, w_45.2.2.2.2.2.2.2.2.2.2.2.1, w_45.2.2.2.2.2.2.2.2.2.2.2.2.1, w_45.2.2.2.2.2.2.2.2.2.2.2.2.2) _ _ _ h hW (lv_sub hl [0, 2, 3, 4, 5] rfl)
        · have h := ht_57 c_57
          refine lv_iconst (v := (0 : Int32)) hx hb dX6_doesHangBy_60 (by decide) ?_
          obtain rfl := Option.some.inj h
          exact x_retz F hr hW (Or.inl rfl) rfl dX6_doesHangBy_61
      refine lv_iload hx hb dX6_doesHangBy_14 (lv_at hl 0 rfl) ?_
      refine lv_iload_n hx hb dX6_doesHangBy_16 rfl (lv_at hl 3 rfl) ?_
      obtain ⟨ht_17, hf_17⟩ := of_ite h
      refine lv_icmp_ge (tgt := 77) hx hb dX6_doesHangBy_17 (by decide) (fun c_17 => ?_) (fun c_17 => ?_)
      · have h := ht_17 c_17
        refine lv_iconst (v := (1 : Int32)) hx hb dX6_doesHangBy_77 (by decide) ?_
        obtain rfl := Option.some.inj h
        exact x_retz F hr hW (Or.inr rfl) rfl dX6_doesHangBy_78
      · have h := hf_17 c_17
        refine lv_aload_n hx hb dX6_doesHangBy_20 rfl (lv_at hl 1 rfl) ?_
        refine x_get F hW 0 rfl fa_X6_13 rfl dX6_doesHangBy_21 ?_
        refine lv_iconst (v := (2 : Int32)) hx hb dX6_doesHangBy_24 (by decide) ?_
        refine lv_iload_n hx hb dX6_doesHangBy_25 rfl (lv_at hl 4 rfl) ?_
        refine lv_iload hx hb dX6_doesHangBy_26 (lv_at hl 0 rfl) ?_
        obtain ⟨p_28, hc_28, h⟩ := of_bind h
        refine x_Si (av := [.int x3, .int v4_14]) F hW (c_X6_has l G x3 v4_14 _ hc_28) [] rfl rfl (by intro q; cases q) cs_X6_75 rfl rfl hl (Nat.le_of_ble_eq_true rfl) ⟨Nat.le_of_ble_eq_true rfl, Nat.le_of_ble_eq_true rfl⟩ ⟨rfl, rfl⟩ ⟨Nat.le_of_ble_eq_true rfl, Nat.le_of_ble_eq_true rfl⟩ dX6_doesHangBy_28 rfl [none, none, none, none, none, none, none, none, none, none] rfl (ws' := cMW G q w_14) rfl (fun H locs hW => ?_)
        obtain ⟨ht_31, hf_31⟩ := of_ite h
        refine lv_if_eq (tgt := 39) hx hb dX6_doesHangBy_31 (by decide) (fun c_31 => ?_) (fun c_31 => ?_)
        · have h := ht_31 c_31
          refine lv_aload_n hx hb dX6_doesHangBy_39 rfl (lv_at hl 1 rfl) ?_
          refine x_get F hW 0 rfl fa_X6_9 rfl dX6_doesHangBy_40 ?_
          refine lv_iconst (v := (2 : Int32)) hx hb dX6_doesHangBy_43 (by decide) ?_
          obtain ⟨g_44, h⟩ := of_guard h
          refine x_iald F hW 1 rfl g_44 dX6_doesHangBy_44 ?_
          exact J1 v4_14 (w_14.1 (2 : Int32).toNatClampNeg) (2 : Int32) w_14 _ _ _ h hW (lv_sub hl [0, 1, 2, 3, 4] rfl)
        · have h := hf_31 c_31
          refine lv_bipush (v := (9 : Int32)) hx hb dX6_doesHangBy_34 (by decide) ?_
          refine lv_goto (tgt := 45) hx hb dX6_doesHangBy_36 (by decide) ?_
          exact J1 v4_14 (9 : Int32) (2 : Int32) w_14 _ _ _ h hW (lv_sub hl [0, 1, 2, 3, 4] rfl)
  exact L0 200 (0 : Int32) (w.1, p_8, w.2.2.1, w.2.2.2.1, w.2.2.2.2.1, w.2.2.2.2.2.1, w.2.2.2.2.2.2.1, w.2.2.2.2.2.2.2.1, w.2.2.2.2.2.2.2.2.1, w.2.2.2.2.2.2.2.2.2.1, w.2.2.2.2.2.2.2.2.2.2.1, w.2.2.2.2.2.2.2.2.2.2.2.1, w.2.2.2.2.2.2.2.2.2.2.2.2.1, w.2.2.2.2.2.2.2.2.2.2.2.2.2) _ _ _ h hW (lv_sub hl [0, 1, 2, 3, 4] rfl)
def f_X6_mist_111 (k1 : Int32 → Int64 → MW → Option (Int64 × MW)) (x2 : Int32) (w_97 : MW) (x1 : Int32) (v9_97 : Int32) (v5_97 : Int64) (x3 : Int32) : Nat → Int32 → Int64 → Option (Int64 × MW)
  | 0, _, _ => none
  | n2 + 1, v12_111, v10_111 =>
    if x2 ≤ v12_111 then
    Option.bind (f_X6_doesHangBy w_97 x1 x2 v9_97) fun p_153 =>
    if p_153.1 = 0 then
    nm (v5_97 + (0 : Int64)) fun x_166 =>
    k1 (v9_97 + (1 : Int32)) x_166 p_153.2
    else
    nm (v5_97 + v10_111) fun x_166_2 =>
    k1 (v9_97 + (1 : Int32)) x_166_2 p_153.2
    else
    Option.bind (f_X6_has v9_97 v12_111) fun p_123 =>
    if p_123 = 0 then
    nm (v10_111 * ((x3 - (1 : Int32)).toInt64)) fun x_138 =>
    f_X6_mist_111 k1 x2 w_97 x1 v9_97 v5_97 x3 n2 (v12_111 + (1 : Int32)) x_138
    else
    nm (v10_111 * (1 : Int64)) fun x_138_2 =>
    f_X6_mist_111 k1 x2 w_97 x1 v9_97 v5_97 x3 n2 (v12_111 + (1 : Int32)) x_138_2
def f_X6_mist_97 (x2 : Int32) (v7_75 : Int64) (x4 : Int32) (x1 : Int32) (x3 : Int32) : Nat → Int32 → Int64 → MW → Option (Int64 × MW)
  | 0, _, _, _ => none
  | n1 + 1, v9_97, v5_97, w_97 =>
    if ((1 : Int32) <<< (x2 &&& 31)) ≤ v9_97 then
    Option.bind (f_X6_partOf v5_97 v7_75 x4) fun p_180 =>
    some (p_180, w_97)
    else
    f_X6_mist_111 (fun a0 a1 a2 => f_X6_mist_97 x2 v7_75 x4 x1 x3 n1 a0 a1 a2) x2 w_97 x1 v9_97 v5_97 x3 200 (0 : Int32) (1 : Int64)
def f_X6_mist_75 (x2 : Int32) (w : MW) (x3 : Int32) (x4 : Int32) (x1 : Int32) : Nat → Int32 → Int64 → Option (Int64 × MW)
  | 0, _, _ => none
  | n0 + 1, v9_75, v7_75 =>
    if x2 ≤ v9_75 then
    f_X6_mist_97 x2 v7_75 x4 x1 x3 200 (0 : Int32) (0 : Int64) w
    else
    nm (v7_75 * (x3.toInt64)) fun x_86 =>
    f_X6_mist_75 x2 w x3 x4 x1 n0 (v9_75 + (1 : Int32)) x_86
def f_X6_mist (w : MW) (x1 : Int32) (x2 : Int32) (x3 : Int32) (x4 : Int32) : Option (Int64 × MW) :=
  Option.bind (f_X6_isHouse w x1) fun p_2 =>
    if p_2 = 0 then
    Option.bind (f_X6_noWide w (-1 : Int32)) fun p_10 =>
    some (p_10.1, p_10.2)
    else
    if x2 < 0 then
    Option.bind (f_X6_noWide w (-4 : Int32)) fun p_26 =>
    some (p_26.1, p_26.2)
    else
    if (2 : Int32) ≤ x3 then
    if (7 : Int32) < x2 then
    Option.bind (f_X6_noWide w (-6 : Int32)) fun p_45 =>
    some (p_45.1, p_45.2)
    else
    if x3 ≤ (20 : Int32) then
    Option.bind (f_X6_isIn x4 (0 : Int32) (1 : Int32)) fun p_53 =>
    if p_53 = 0 then
    Option.bind (f_X6_noWide w (-2 : Int32)) fun p_62 =>
    some (p_62.1, p_62.2)
    else
    f_X6_mist_75 x2 w x3 x4 x1 200 (0 : Int32) (1 : Int64)
    else
    Option.bind (f_X6_noWide w (-6 : Int32)) fun p_45_2 =>
    some (p_45_2.1, p_45_2.2)
    else
    Option.bind (f_X6_noWide w (-4 : Int32)) fun p_26_2 =>
    some (p_26_2.1, p_26_2.2)
abbrev rmX6_mist : Room := { frames := 6, cells := 0, slots := 0, locals := 140 }
set_option maxRecDepth 100000 in
set_option maxHeartbeats 4000000 in
theorem c_X6_mist (l : Launch) (G : EnT) (q : Nat → Nat) (w : MW) (x1 : Int32) (x2 : Int32) (x3 : Int32) (x4 : Int32) (o : Int64 × MW) (h : f_X6_mist w x1 x2 x3 x4 = some o) : Ml l yX6_mist rmX6_mist cX6_mist 13 (some .long) G false [.ref (q 0), .int x1, .int x2, .int x3, .int x4] (cMW G q w) o.1 (cMW G q o.2) := by
  refine Ml_of (by decide) (Nat.le_of_ble_eq_true rfl) ?_
  intro p e s m below meth c A0 F hr hW ls hl
  obtain ⟨hx, hb, hml, hown, hts, hK, hNW, hlocks, hA, hSX⟩ := id F
  have hl : lv_has ls 13 [(0, .ref (q 0)), (1, .int x1), (2, .int x2), (3, .int x3), (4, .int x4)] := hl
  have hW : Wd G A0 s (cMW G q w) s.heap [] := hW
  show W p l e rmX6_mist s m ([.ref (q 0), .int x1, .int x2, .int x3, .int x4] : List Value).toArray below meth c s.heap [] 0 0 (Ql below G (cMW G q o.2) o.1 A0 ([.ref (q 0), .int x1, .int x2, .int x3, .int x4] : List Value).toArray s) (F0 m 0 ls [])
  refine lv_aload_n hx hb dX6_mist_0 rfl (lv_at hl 0 rfl) ?_
  refine lv_iload_n hx hb dX6_mist_1 rfl (lv_at hl 1 rfl) ?_
  obtain ⟨p_2, hc_2, h⟩ := of_bind h
  refine x_Vi (av := [.ref (q 0), .int x1]) (As := [.int x1]) F hW (c_X6_isHouse l G q w x1 _ hc_2) [0, 1, 2, 3, 4, 5, 6, 7, 8, 9] rfl rfl (by intro q; cases q) cv_X6_122 rfl ⟨_, rfl, rfl⟩ rfl rfl rfl hl (Nat.le_of_ble_eq_true rfl) ⟨Nat.le_of_ble_eq_true rfl, Nat.le_of_ble_eq_true rfl⟩ ⟨rfl, rfl⟩ ⟨Nat.le_of_ble_eq_true rfl, Nat.le_of_ble_eq_true rfl⟩ dX6_mist_2 rfl [some 0, some 1, some 2, some 3, some 4, some 5, some 6, some 7, some 8, some 9] rfl (ws' := cMW G q w) rfl (fun H locs hW => ?_)
  obtain ⟨ht_5, hf_5⟩ := of_ite h
  refine lv_if_ne (tgt := 14) hx hb dX6_mist_5 (by decide) (fun c_5 => ?_) (fun c_5 => ?_)
  · have h := hf_5 c_5
    refine lv_iload_n hx hb dX6_mist_14 rfl (lv_at hl 2 rfl) ?_
    obtain ⟨ht_15, hf_15⟩ := of_ite h
    refine lv_if_lt (tgt := 23) hx hb dX6_mist_15 (by decide) (fun c_15 => ?_) (fun c_15 => ?_)
    · have h := ht_15 c_15
      refine lv_aload_n hx hb dX6_mist_23 rfl (lv_at hl 0 rfl) ?_
      refine lv_bipush (v := (-4 : Int32)) hx hb dX6_mist_24 (by decide) ?_
      obtain ⟨p_26, hc_26, h⟩ := of_bind h
      refine x_Vl (av := [.ref (q 0), .int (-4 : Int32)]) (As := [.int (-4 : Int32)]) F hW (c_X6_noWide l G q w (-4 : Int32) _ hc_26) [0, 1, 2, 3, 4, 5, 6, 7, 8, 9] rfl rfl (by intro q; cases q) cv_X6_184 rfl ⟨_, rfl, rfl⟩ rfl rfl rfl hl (Nat.le_of_ble_eq_true rfl) ⟨Nat.le_of_ble_eq_true rfl, Nat.le_of_ble_eq_true rfl⟩ ⟨rfl, rfl⟩ ⟨Nat.le_of_ble_eq_true rfl, Nat.le_of_ble_eq_true rfl⟩ dX6_mist_26 rfl [some 0, some 1, some 2, some 3, some 4, some 5, some 6, some 7, some 8, some 9] rfl (ws' := cMW G q p_26.2) rfl (fun H locs hW => ?_)
      obtain rfl := Option.some.inj h
      exact x_retl F hr hW rfl dX6_mist_29
    · have h := hf_15 c_15
      refine lv_iload_n hx hb dX6_mist_18 rfl (lv_at hl 3 rfl) ?_
      refine lv_iconst (v := (2 : Int32)) hx hb dX6_mist_19 (by decide) ?_
      obtain ⟨ht_20, hf_20⟩ := of_ite h
      refine lv_icmp_ge (tgt := 30) hx hb dX6_mist_20 (by decide) (fun c_20 => ?_) (fun c_20 => ?_)
      · have h := ht_20 c_20
        refine lv_iload_n hx hb dX6_mist_30 rfl (lv_at hl 2 rfl) ?_
        refine lv_bipush (v := (7 : Int32)) hx hb dX6_mist_31 (by decide) ?_
        obtain ⟨ht_33, hf_33⟩ := of_ite h
        refine lv_icmp_gt (tgt := 42) hx hb dX6_mist_33 (by decide) (fun c_33 => ?_) (fun c_33 => ?_)
        · have h := ht_33 c_33
          refine lv_aload_n hx hb dX6_mist_42 rfl (lv_at hl 0 rfl) ?_
          refine lv_bipush (v := (-6 : Int32)) hx hb dX6_mist_43 (by decide) ?_
          obtain ⟨p_45, hc_45, h⟩ := of_bind h
          refine x_Vl (av := [.ref (q 0), .int (-6 : Int32)]) (As := [.int (-6 : Int32)]) F hW (c_X6_noWide l G q w (-6 : Int32) _ hc_45) [0, 1, 2, 3, 4, 5, 6, 7, 8, 9] rfl rfl (by intro q; cases q) cv_X6_184 rfl ⟨_, rfl, rfl⟩ rfl rfl rfl hl (Nat.le_of_ble_eq_true rfl) ⟨Nat.le_of_ble_eq_true rfl, Nat.le_of_ble_eq_true rfl⟩ ⟨rfl, rfl⟩ ⟨Nat.le_of_ble_eq_true rfl, Nat.le_of_ble_eq_true rfl⟩ dX6_mist_45 rfl [some 0, some 1, some 2, some 3, some 4, some 5, some 6, some 7, some 8, some 9] rfl (ws' := cMW G q p_45.2) rfl (fun H locs hW => ?_)
          obtain rfl := Option.some.inj h
          exact x_retl F hr hW rfl dX6_mist_48
        · have h := hf_33 c_33
          refine lv_iload_n hx hb dX6_mist_36 rfl (lv_at hl 3 rfl) ?_
          refine lv_bipush (v := (20 : Int32)) hx hb dX6_mist_37 (by decide) ?_
          obtain ⟨ht_39, hf_39⟩ := of_ite h
          refine lv_icmp_le (tgt := 49) hx hb dX6_mist_39 (by decide) (fun c_39 => ?_) (fun c_39 => ?_)
          · have h := ht_39 c_39
            refine lv_iload hx hb dX6_mist_49 (lv_at hl 4 rfl) ?_
            refine lv_iconst (v := (0 : Int32)) hx hb dX6_mist_51 (by decide) ?_
            refine lv_iconst (v := (1 : Int32)) hx hb dX6_mist_52 (by decide) ?_
            obtain ⟨p_53, hc_53, h⟩ := of_bind h
            refine x_Si (av := [.int x4, .int (0 : Int32), .int (1 : Int32)]) F hW (c_X6_isIn l G x4 (0 : Int32) (1 : Int32) _ hc_53) [] rfl rfl (by intro q; cases q) cs_X6_43 rfl rfl hl (Nat.le_of_ble_eq_true rfl) ⟨Nat.le_of_ble_eq_true rfl, Nat.le_of_ble_eq_true rfl⟩ ⟨rfl, rfl⟩ ⟨Nat.le_of_ble_eq_true rfl, Nat.le_of_ble_eq_true rfl⟩ dX6_mist_53 rfl [none, none, none, none, none, none, none, none, none, none] rfl (ws' := cMW G q w) rfl (fun H locs hW => ?_)
            obtain ⟨ht_56, hf_56⟩ := of_ite h
            refine lv_if_ne (tgt := 66) hx hb dX6_mist_56 (by decide) (fun c_56 => ?_) (fun c_56 => ?_)
            · have h := hf_56 c_56
              refine lv_lconst (v := (0 : Int64)) hx hb dX6_mist_66 (by decide) ?_
              refine lv_lstore (lv' := [(5, .long (0 : Int64)), (0, .ref (q 0)), (1, .int x1), (2, .int x2), (3, .int x3), (4, .int x4)]) hx hb dX6_mist_67 hl (by decide) rfl (fun ls hl => ?_)
              refine lv_lconst (v := (1 : Int64)) hx hb dX6_mist_69 (by decide) ?_
              refine lv_lstore (lv' := [(7, .long (1 : Int64)), (5, .long (0 : Int64)), (0, .ref (q 0)), (1, .int x1), (2, .int x2), (3, .int x3), (4, .int x4)]) hx hb dX6_mist_70 hl (by decide) rfl (fun ls hl => ?_)
              refine lv_iconst (v := (0 : Int32)) hx hb dX6_mist_72 (by decide) ?_
              refine lv_istore (lv' := [(9, .int (0 : Int32)), (7, .long (1 : Int64)), (5, .long (0 : Int64)), (0, .ref (q 0)), (1, .int x1), (2, .int x2), (3, .int x3), (4, .int x4)]) hx hb dX6_mist_73 hl (by decide) rfl (fun ls hl => ?_)
              have L0 : ∀ (n0 : Nat) (v9_75 : Int32) (v7_75 : Int64) (H : Heap) (locs : List Loc) (ls : Array Slot), f_X6_mist_75 x2 w x3 x4 x1 n0 v9_75 v7_75 = some o → Wd G A0 s (cMW G q w) H locs → lv_has ls 13 [(9, .int v9_75), (7, .long v7_75), (5, .long (0 : Int64)), (0, .ref (q 0)), (1, .int x1), (2, .int x2), (3, .int x3), (4, .int x4)] → W p l e rmX6_mist s m ([.ref (q 0), .int x1, .int x2, .int x3, .int x4] : List Value).toArray below meth c H locs 0 0 (Ql below G (cMW G q o.2) o.1 A0 ([.ref (q 0), .int x1, .int x2, .int x3, .int x4] : List Value).toArray s) (F0 m 75 ls []) := by
                intro n0
                induction n0 with
                | zero => intro v9_75 v7_75 H locs ls h; cases (show (none : Option (Int64 × MW)) = some o from h)
                | succ n0 ih0 =>
                  intro v9_75 v7_75 H locs ls h hW hl
                  refine lv_iload hx hb dX6_mist_75 (lv_at hl 0 rfl) ?_
                  refine lv_iload_n hx hb dX6_mist_77 rfl (lv_at hl 5 rfl) ?_
                  obtain ⟨ht_78, hf_78⟩ := of_ite h
                  refine lv_icmp_ge (tgt := 94) hx hb dX6_mist_78 (by decide) (fun c_78 => ?_) (fun c_78 => ?_)
                  · have h := ht_78 c_78
                    refine lv_iconst (v := (0 : Int32)) hx hb dX6_mist_94 (by decide) ?_
                    refine lv_istore (lv' := [(9, .int (0 : Int32)), (7, .long v7_75), (5, .long (0 : Int64)), (0, .ref (q 0)), (1, .int x1), (2, .int x2), (3, .int x3), (4, .int x4)]) hx hb dX6_mist_95 hl (by decide) rfl (fun ls hl => ?_)
                    have L1 : ∀ (n1 : Nat) (v9_97 : Int32) (v5_97 : Int64) (w_97 : MW) (H : Heap) (locs : List Loc) (ls : Array Slot), f_X6_mist_97 x2 v7_75 x4 x1 x3 n1 v9_97 v5_97 w_97 = some o → Wd G A0 s (cMW G q w_97) H locs → lv_has ls 13 [(9, .int v9_97), (7, .long v7_75), (5, .long v5_97), (0, .ref (q 0)), (1, .int x1), (2, .int x2), (3, .int x3), (4, .int x4)] → W p l e rmX6_mist s m ([.ref (q 0), .int x1, .int x2, .int x3, .int x4] : List Value).toArray below meth c H locs 0 0 (Ql below G (cMW G q o.2) o.1 A0 ([.ref (q 0), .int x1, .int x2, .int x3, .int x4] : List Value).toArray s) (F0 m 97 ls []) := by
                      intro n1
                      induction n1 with
                      | zero => intro v9_97 v5_97 w_97 H locs ls h; cases (show (none : Option (Int64 × MW)) = some o from h)
                      | succ n1 ih1 =>
                        intro v9_97 v5_97 w_97 H locs ls h hW hl
                        refine lv_iload hx hb dX6_mist_97 (lv_at hl 0 rfl) ?_
                        refine lv_iconst (v := (1 : Int32)) hx hb dX6_mist_99 (by decide) ?_
                        refine lv_iload_n hx hb dX6_mist_100 rfl (lv_at hl 5 rfl) ?_
                        refine lv_ishl hx hb dX6_mist_101 ?_
                        obtain ⟨ht_102, hf_102⟩ := of_ite h
                        refine lv_icmp_ge (tgt := 174) hx hb dX6_mist_102 (by decide) (fun c_102 => ?_) (fun c_102 => ?_)
                        · have h := ht_102 c_102
                          refine lv_lload hx hb dX6_mist_174 (lv_at hl 2 rfl) ?_
                          refine lv_lload hx hb dX6_mist_176 (lv_at hl 1 rfl) ?_
                          refine lv_iload hx hb dX6_mist_178 (lv_at hl 7 rfl) ?_
                          obtain ⟨p_180, hc_180, h⟩ := of_bind h
                          refine x_Sl (av := [.long v5_97, .long v7_75, .int x4]) F hW (c_X6_partOf l G v5_97 v7_75 x4 _ hc_180) [] rfl rfl (by intro q; cases q) cs_X6_191 rfl rfl hl (Nat.le_of_ble_eq_true rfl) ⟨Nat.le_of_ble_eq_true rfl, Nat.le_of_ble_eq_true rfl⟩ ⟨rfl, rfl⟩ ⟨Nat.le_of_ble_eq_true rfl, Nat.le_of_ble_eq_true rfl⟩ dX6_mist_180 rfl [none, none, none, none, none, none, none, none, none, none] rfl (ws' := cMW G q w_97) rfl (fun H locs hW => ?_)
                          obtain rfl := Option.some.inj h
                          exact x_retl F hr hW rfl dX6_mist_183
                        · have h := hf_102 c_102
                          refine lv_lconst (v := (1 : Int64)) hx hb dX6_mist_105 (by decide) ?_
                          refine lv_lstore (lv' := [(10, .long (1 : Int64)), (9, .int v9_97), (7, .long v7_75), (5, .long v5_97), (0, .ref (q 0)), (1, .int x1), (2, .int x2), (3, .int x3), (4, .int x4)]) hx hb dX6_mist_106 hl (by decide) rfl (fun ls hl => ?_)
                          refine lv_iconst (v := (0 : Int32)) hx hb dX6_mist_108 (by decide) ?_
                          refine lv_istore (lv' := [(12, .int (0 : Int32)), (10, .long (1 : Int64)), (9, .int v9_97), (7, .long v7_75), (5, .long v5_97), (0, .ref (q 0)), (1, .int x1), (2, .int x2), (3, .int x3), (4, .int x4)]) hx hb dX6_mist_109 hl (by decide) rfl (fun ls hl => ?_)
                          have L2 : ∀ (n2 : Nat) (v12_111 : Int32) (v10_111 : Int64) (H : Heap) (locs : List Loc) (ls : Array Slot), f_X6_mist_111 (fun a0 a1 a2 => f_X6_mist_97 x2 v7_75 x4 x1 x3 n1 a0 a1 a2) x2 w_97 x1 v9_97 v5_97 x3 n2 v12_111 v10_111 = some o → Wd G A0 s (cMW G q w_97) H locs → lv_has ls 13 [(12, .int v12_111), (10, .long v10_111), (9, .int v9_97), (7, .long v7_75), (5, .long v5_97), (0, .ref (q 0)), (1, .int x1), (2, .int x2), (3, .int x3), (4, .int x4)] → W p l e rmX6_mist s m ([.ref (q 0), .int x1, .int x2, .int x3, .int x4] : List Value).toArray below meth c H locs 0 0 (Ql below G (cMW G q o.2) o.1 A0 ([.ref (q 0), .int x1, .int x2, .int x3, .int x4] : List Value).toArray s) (F0 m 111 ls []) := by
                            intro n2
                            induction n2 with
                            | zero => intro v12_111 v10_111 H locs ls h; cases (show (none : Option (Int64 × MW)) = some o from h)
                            | succ n2 ih2 =>
                              intro v12_111 v10_111 H locs ls h hW hl
                              refine lv_iload hx hb dX6_mist_111 (lv_at hl 0 rfl) ?_
                              refine lv_iload_n hx hb dX6_mist_113 rfl (lv_at hl 7 rfl) ?_
                              obtain ⟨ht_114, hf_114⟩ := of_ite h
                              refine lv_icmp_ge (tgt := 146) hx hb dX6_mist_114 (by decide) (fun c_114 => ?_) (fun c_114 => ?_)
                              · have h := ht_114 c_114
                                refine lv_lload hx hb dX6_mist_146 (lv_at hl 4 rfl) ?_
                                refine lv_aload_n hx hb dX6_mist_148 rfl (lv_at hl 5 rfl) ?_
                                refine lv_iload_n hx hb dX6_mist_149 rfl (lv_at hl 6 rfl) ?_
                                refine lv_iload_n hx hb dX6_mist_150 rfl (lv_at hl 7 rfl) ?_
                                refine lv_iload hx hb dX6_mist_151 (lv_at hl 2 rfl) ?_
                                obtain ⟨p_153, hc_153, h⟩ := of_bind h
                                refine x_Vi (av := [.ref (q 0), .int x1, .int x2, .int v9_97]) (As := [.int x1, .int x2, .int v9_97]) F hW (c_X6_doesHangBy l G q w_97 x1 x2 v9_97 _ hc_153) [0, 1, 2, 3, 4, 5, 6, 7, 8, 9] rfl rfl (by intro q; cases q) cv_X6_188 rfl ⟨_, rfl, rfl⟩ rfl rfl rfl hl (Nat.le_of_ble_eq_true rfl) ⟨Nat.le_of_ble_eq_true rfl, Nat.le_of_ble_eq_true rfl⟩ ⟨rfl, rfl⟩ ⟨Nat.le_of_ble_eq_true rfl, Nat.le_of_ble_eq_true rfl⟩ dX6_mist_153 rfl [some 0, some 1, some 2, some 3, some 4, some 5, some 6, some 7, some 8, some 9] rfl (ws' := cMW G q p_153.2) rfl (fun H locs hW => ?_)
                                obtain ⟨ht_156, hf_156⟩ := of_ite h
                                refine lv_if_eq (tgt := 164) hx hb dX6_mist_156 (by decide) (fun c_156 => ?_) (fun c_156 => ?_)
                                · have h := ht_156 c_156
                                  refine lv_lconst (v := (0 : Int64)) hx hb dX6_mist_164 (by decide) ?_
                                  refine lv_ladd hx hb dX6_mist_165 ?_
                                  obtain ⟨x_166, e_x_166, h⟩ := of_nm h
                                  refine x_topl e_x_166 ?_
                                  refine lv_lstore (lv' := [(5, .long x_166), (12, .int v12_111), (10, .long v10_111), (9, .int v9_97), (7, .long v7_75), (0, .ref (q 0)), (1, .int x1), (2, .int x2), (3, .int x3), (4, .int x4)]) hx hb dX6_mist_166 hl (by decide) rfl (fun ls hl => ?_)
                                  refine lv_iinc (v := (v9_97 + (1 : Int32))) (lv' := [(9, .int (v9_97 + (1 : Int32))), (5, .long x_166), (12, .int v12_111), (10, .long v10_111), (7, .long v7_75), (0, .ref (q 0)), (1, .int x1), (2, .int x2), (3, .int x3), (4, .int x4)]) hx hb dX6_mist_168 hl (k := 3) rfl rfl (by decide) rfl (fun ls hl => ?_)
                                  refine lv_goto (tgt := 97) hx hb dX6_mist_171 (by decide) ?_
                                  exact ih1 (v9_97 + (1 : Int32)) x_166 p_153.2 _ _ _ h hW (lv_sub hl [0, 4, 1, 5, 6, 7, 8, 9] rfl)
                                · have h := hf_156 c_156
                                  refine lv_lload hx hb dX6_mist_159 (lv_at hl 1 rfl) ?_
                                  refine lv_goto (tgt := 165) hx hb dX6_mist_161 (by decide) ?_
                                  refine lv_ladd hx hb dX6_mist_165 ?_
                                  obtain ⟨x_166_2, e_x_166_2, h⟩ := of_nm h
                                  refine x_topl e_x_166_2 ?_
                                  refine lv_lstore (lv' := [(5, .long x_166_2), (12, .int v12_111), (10, .long v10_111), (9, .int v9_97), (7, .long v7_75), (0, .ref (q 0)), (1, .int x1), (2, .int x2), (3, .int x3), (4, .int x4)]) hx hb dX6_mist_166 hl (by decide) rfl (fun ls hl => ?_)
                                  refine lv_iinc (v := (v9_97 + (1 : Int32))) (lv' := [(9, .int (v9_97 + (1 : Int32))), (5, .long x_166_2), (12, .int v12_111), (10, .long v10_111), (7, .long v7_75), (0, .ref (q 0)), (1, .int x1), (2, .int x2), (3, .int x3), (4, .int x4)]) hx hb dX6_mist_168 hl (k := 3) rfl rfl (by decide) rfl (fun ls hl => ?_)
                                  refine lv_goto (tgt := 97) hx hb dX6_mist_171 (by decide) ?_
                                  exact ih1 (v9_97 + (1 : Int32)) x_166_2 p_153.2 _ _ _ h hW (lv_sub hl [0, 4, 1, 5, 6, 7, 8, 9] rfl)
                              · have h := hf_114 c_114
                                refine lv_lload hx hb dX6_mist_117 (lv_at hl 1 rfl) ?_
                                refine lv_iload hx hb dX6_mist_119 (lv_at hl 2 rfl) ?_
                                refine lv_iload hx hb dX6_mist_121 (lv_at hl 0 rfl) ?_
                                obtain ⟨p_123, hc_123, h⟩ := of_bind h
                                refine x_Si (av := [.int v9_97, .int v12_111]) F hW (c_X6_has l G v9_97 v12_111 _ hc_123) [] rfl rfl (by intro q; cases q) cs_X6_75 rfl rfl hl (Nat.le_of_ble_eq_true rfl) ⟨Nat.le_of_ble_eq_true rfl, Nat.le_of_ble_eq_true rfl⟩ ⟨rfl, rfl⟩ ⟨Nat.le_of_ble_eq_true rfl, Nat.le_of_ble_eq_true rfl⟩ dX6_mist_123 rfl [none, none, none, none, none, none, none, none, none, none] rfl (ws' := cMW G q w_97) rfl (fun H locs hW => ?_)
                                obtain ⟨ht_126, hf_126⟩ := of_ite h
                                refine lv_if_eq (tgt := 133) hx hb dX6_mist_126 (by decide) (fun c_126 => ?_) (fun c_126 => ?_)
                                · have h := ht_126 c_126
                                  refine lv_iload_n hx hb dX6_mist_133 rfl (lv_at hl 8 rfl) ?_
                                  refine lv_iconst (v := (1 : Int32)) hx hb dX6_mist_134 (by decide) ?_
                                  refine lv_isub hx hb dX6_mist_135 ?_
                                  refine lv_i2l (v := ((x3 - (1 : Int32)).toInt64)) hx hb dX6_mist_136 rfl ?_
                                  refine lv_lmul hx hb dX6_mist_137 ?_
                                  obtain ⟨x_138, e_x_138, h⟩ := of_nm h
                                  refine x_topl e_x_138 ?_
                                  refine lv_lstore (lv' := [(10, .long x_138), (12, .int v12_111), (9, .int v9_97), (7, .long v7_75), (5, .long v5_97), (0, .ref (q 0)), (1, .int x1), (2, .int x2), (3, .int x3), (4, .int x4)]) hx hb dX6_mist_138 hl (by decide) rfl (fun ls hl => ?_)
                                  refine lv_iinc (v := (v12_111 + (1 : Int32))) (lv' := [(12, .int (v12_111 + (1 : Int32))), (10, .long x_138), (9, .int v9_97), (7, .long v7_75), (5, .long v5_97), (0, .ref (q 0)), (1, .int x1), (2, .int x2), (3, .int x3), (4, .int x4)]) hx hb dX6_mist_140 hl (k := 1) rfl rfl (by decide) rfl (fun ls hl => ?_)
                                  refine lv_goto (tgt := 111) hx hb dX6_mist_143 (by decide) ?_
                                  exact ih2 (v12_111 + (1 : Int32)) x_138 _ _ _ h hW (lv_sub hl [0, 1, 2, 3, 4, 5, 6, 7, 8, 9] rfl)
                                · have h := hf_126 c_126
                                  refine lv_lconst (v := (1 : Int64)) hx hb dX6_mist_129 (by decide) ?_
                                  refine lv_goto (tgt := 137) hx hb dX6_mist_130 (by decide) ?_
                                  refine lv_lmul hx hb dX6_mist_137 ?_
                                  obtain ⟨x_138_2, e_x_138_2, h⟩ := of_nm h
                                  refine x_topl e_x_138_2 ?_
                                  refine lv_lstore (lv' := [(10, .long x_138_2), (12, .int v12_111), (9, .int v9_97), (7, .long v7_75), (5, .long v5_97), (0, .ref (q 0)), (1, .int x1), (2, .int x2), (3, .int x3), (4, .int x4)]) hx hb dX6_mist_138 hl (by decide) rfl (fun ls hl => ?_)
                                  refine lv_iinc (v := (v12_111 + (1 : Int32))) (lv' := [(12, .int (v12_111 + (1 : Int32))), (10, .long x_138_2), (9, .int v9_97), (7, .long v7_75), (5, .long v5_97), (0, .ref (q 0)), (1, .int x1), (2, .int x2), (3, .int x3), (4, .int x4)]) hx hb dX6_mist_140 hl (k := 1) rfl rfl (by decide) rfl (fun ls hl => ?_)
                                  refine lv_goto (tgt := 111) hx hb dX6_mist_143 (by decide) ?_
                                  exact ih2 (v12_111 + (1 : Int32)) x_138_2 _ _ _ h hW (lv_sub hl [0, 1, 2, 3, 4, 5, 6, 7, 8, 9] rfl)
                          exact L2 200 (0 : Int32) (1 : Int64) _ _ _ h hW (lv_sub hl [0, 1, 2, 3, 4, 5, 6, 7, 8, 9] rfl)
                    exact L1 200 (0 : Int32) (0 : Int64) w _ _ _ h hW (lv_sub hl [0, 1, 2, 3, 4, 5, 6, 7] rfl)
                  · have h := hf_78 c_78
                    refine lv_lload hx hb dX6_mist_81 (lv_at hl 1 rfl) ?_
                    refine lv_iload_n hx hb dX6_mist_83 rfl (lv_at hl 6 rfl) ?_
                    refine lv_i2l (v := (x3.toInt64)) hx hb dX6_mist_84 rfl ?_
                    refine lv_lmul hx hb dX6_mist_85 ?_
                    obtain ⟨x_86, e_x_86, h⟩ := of_nm h
                    refine x_topl e_x_86 ?_
                    refine lv_lstore (lv' := [(7, .long x_86), (9, .int v9_75), (5, .long (0 : Int64)), (0, .ref (q 0)), (1, .int x1), (2, .int x2), (3, .int x3), (4, .int x4)]) hx hb dX6_mist_86 hl (by decide) rfl (fun ls hl => ?_)
                    refine lv_iinc (v := (v9_75 + (1 : Int32))) (lv' := [(9, .int (v9_75 + (1 : Int32))), (7, .long x_86), (5, .long (0 : Int64)), (0, .ref (q 0)), (1, .int x1), (2, .int x2), (3, .int x3), (4, .int x4)]) hx hb dX6_mist_88 hl (k := 1) rfl rfl (by decide) rfl (fun ls hl => ?_)
                    refine lv_goto (tgt := 75) hx hb dX6_mist_91 (by decide) ?_
                    exact ih0 (v9_75 + (1 : Int32)) x_86 _ _ _ h hW (lv_sub hl [0, 1, 2, 3, 4, 5, 6, 7] rfl)
              exact L0 200 (0 : Int32) (1 : Int64) _ _ _ h hW (lv_sub hl [0, 1, 2, 3, 4, 5, 6, 7] rfl)
            · have h := ht_56 c_56
              refine lv_aload_n hx hb dX6_mist_59 rfl (lv_at hl 0 rfl) ?_
              refine lv_bipush (v := (-2 : Int32)) hx hb dX6_mist_60 (by decide) ?_
              obtain ⟨p_62, hc_62, h⟩ := of_bind h
              refine x_Vl (av := [.ref (q 0), .int (-2 : Int32)]) (As := [.int (-2 : Int32)]) F hW (c_X6_noWide l G q w (-2 : Int32) _ hc_62) [0, 1, 2, 3, 4, 5, 6, 7, 8, 9] rfl rfl (by intro q; cases q) cv_X6_184 rfl ⟨_, rfl, rfl⟩ rfl rfl rfl hl (Nat.le_of_ble_eq_true rfl) ⟨Nat.le_of_ble_eq_true rfl, Nat.le_of_ble_eq_true rfl⟩ ⟨rfl, rfl⟩ ⟨Nat.le_of_ble_eq_true rfl, Nat.le_of_ble_eq_true rfl⟩ dX6_mist_62 rfl [some 0, some 1, some 2, some 3, some 4, some 5, some 6, some 7, some 8, some 9] rfl (ws' := cMW G q p_62.2) rfl (fun H locs hW => ?_)
              obtain rfl := Option.some.inj h
              exact x_retl F hr hW rfl dX6_mist_65
          · have h := hf_39 c_39
            refine lv_aload_n hx hb dX6_mist_42 rfl (lv_at hl 0 rfl) ?_
            refine lv_bipush (v := (-6 : Int32)) hx hb dX6_mist_43 (by decide) ?_
            obtain ⟨p_45_2, hc_45, h⟩ := of_bind h
            refine x_Vl (av := [.ref (q 0), .int (-6 : Int32)]) (As := [.int (-6 : Int32)]) F hW (c_X6_noWide l G q w (-6 : Int32) _ hc_45) [0, 1, 2, 3, 4, 5, 6, 7, 8, 9] rfl rfl (by intro q; cases q) cv_X6_184 rfl ⟨_, rfl, rfl⟩ rfl rfl rfl hl (Nat.le_of_ble_eq_true rfl) ⟨Nat.le_of_ble_eq_true rfl, Nat.le_of_ble_eq_true rfl⟩ ⟨rfl, rfl⟩ ⟨Nat.le_of_ble_eq_true rfl, Nat.le_of_ble_eq_true rfl⟩ dX6_mist_45 rfl [some 0, some 1, some 2, some 3, some 4, some 5, some 6, some 7, some 8, some 9] rfl (ws' := cMW G q p_45_2.2) rfl (fun H locs hW => ?_)
            obtain rfl := Option.some.inj h
            exact x_retl F hr hW rfl dX6_mist_48
      · have h := hf_20 c_20
        refine lv_aload_n hx hb dX6_mist_23 rfl (lv_at hl 0 rfl) ?_
        refine lv_bipush (v := (-4 : Int32)) hx hb dX6_mist_24 (by decide) ?_
        obtain ⟨p_26_2, hc_26, h⟩ := of_bind h
        refine x_Vl (av := [.ref (q 0), .int (-4 : Int32)]) (As := [.int (-4 : Int32)]) F hW (c_X6_noWide l G q w (-4 : Int32) _ hc_26) [0, 1, 2, 3, 4, 5, 6, 7, 8, 9] rfl rfl (by intro q; cases q) cv_X6_184 rfl ⟨_, rfl, rfl⟩ rfl rfl rfl hl (Nat.le_of_ble_eq_true rfl) ⟨Nat.le_of_ble_eq_true rfl, Nat.le_of_ble_eq_true rfl⟩ ⟨rfl, rfl⟩ ⟨Nat.le_of_ble_eq_true rfl, Nat.le_of_ble_eq_true rfl⟩ dX6_mist_26 rfl [some 0, some 1, some 2, some 3, some 4, some 5, some 6, some 7, some 8, some 9] rfl (ws' := cMW G q p_26_2.2) rfl (fun H locs hW => ?_)
        obtain rfl := Option.some.inj h
        exact x_retl F hr hW rfl dX6_mist_29
  · have h := ht_5 c_5
    refine lv_aload_n hx hb dX6_mist_8 rfl (lv_at hl 0 rfl) ?_
    refine lv_iconst (v := (-1 : Int32)) hx hb dX6_mist_9 (by decide) ?_
    obtain ⟨p_10, hc_10, h⟩ := of_bind h
    refine x_Vl (av := [.ref (q 0), .int (-1 : Int32)]) (As := [.int (-1 : Int32)]) F hW (c_X6_noWide l G q w (-1 : Int32) _ hc_10) [0, 1, 2, 3, 4, 5, 6, 7, 8, 9] rfl rfl (by intro q; cases q) cv_X6_184 rfl ⟨_, rfl, rfl⟩ rfl rfl rfl hl (Nat.le_of_ble_eq_true rfl) ⟨Nat.le_of_ble_eq_true rfl, Nat.le_of_ble_eq_true rfl⟩ ⟨rfl, rfl⟩ ⟨Nat.le_of_ble_eq_true rfl, Nat.le_of_ble_eq_true rfl⟩ dX6_mist_10 rfl [some 0, some 1, some 2, some 3, some 4, some 5, some 6, some 7, some 8, some 9] rfl (ws' := cMW G q p_10.2) rfl (fun H locs hW => ?_)
    obtain rfl := Option.some.inj h
    exact x_retl F hr hW rfl dX6_mist_13
def f_X6_mean_21 (x1 : Int32) (w : MW) : Nat → Int32 → Int64 → Option (Int64 × MW)
  | 0, _, _ => none
  | n0 + 1, v4_21, v2_21 =>
    if (20 : Int32) ≤ v4_21 then
    Option.bind (f_X6_partOf v2_21 (20 : Int64) x1) fun p_52 =>
    some (p_52, w)
    else
    if inR ((3 : Int32) + v4_21) 71 then
    nm (v2_21 + ((w.1 ((3 : Int32) + v4_21).toNatClampNeg).toInt64)) fun x_40 =>
    f_X6_mean_21 x1 w n0 (v4_21 + (1 : Int32)) x_40
    else none
def f_X6_mean (w : MW) (x1 : Int32) : Option (Int64 × MW) :=
  Option.bind (f_X6_isIn x1 (0 : Int32) (1 : Int32)) fun p_3 =>
    if p_3 = 0 then
    Option.bind (f_X6_noWide w (-2 : Int32)) fun p_12 =>
    some (p_12.1, p_12.2)
    else
    f_X6_mean_21 x1 w 200 (0 : Int32) (0 : Int64)
abbrev rmX6_mean : Room := { frames := 2, cells := 0, slots := 0, locals := 53 }
set_option maxRecDepth 100000 in
set_option maxHeartbeats 4000000 in
theorem c_X6_mean (l : Launch) (G : EnT) (q : Nat → Nat) (w : MW) (x1 : Int32) (o : Int64 × MW) (h : f_X6_mean w x1 = some o) : Ml l yX6_mean rmX6_mean cX6_mean 5 (some .long) G false [.ref (q 0), .int x1] (cMW G q w) o.1 (cMW G q o.2) := by
  refine Ml_of (by decide) (Nat.le_of_ble_eq_true rfl) ?_
  intro p e s m below meth c A0 F hr hW ls hl
  obtain ⟨hx, hb, hml, hown, hts, hK, hNW, hlocks, hA, hSX⟩ := id F
  have hl : lv_has ls 5 [(0, .ref (q 0)), (1, .int x1)] := hl
  have hW : Wd G A0 s (cMW G q w) s.heap [] := hW
  show W p l e rmX6_mean s m ([.ref (q 0), .int x1] : List Value).toArray below meth c s.heap [] 0 0 (Ql below G (cMW G q o.2) o.1 A0 ([.ref (q 0), .int x1] : List Value).toArray s) (F0 m 0 ls [])
  refine lv_iload_n hx hb dX6_mean_0 rfl (lv_at hl 1 rfl) ?_
  refine lv_iconst (v := (0 : Int32)) hx hb dX6_mean_1 (by decide) ?_
  refine lv_iconst (v := (1 : Int32)) hx hb dX6_mean_2 (by decide) ?_
  obtain ⟨p_3, hc_3, h⟩ := of_bind h
  refine x_Si (av := [.int x1, .int (0 : Int32), .int (1 : Int32)]) F hW (c_X6_isIn l G x1 (0 : Int32) (1 : Int32) _ hc_3) [] rfl rfl (by intro q; cases q) cs_X6_43 rfl rfl hl (Nat.le_of_ble_eq_true rfl) ⟨Nat.le_of_ble_eq_true rfl, Nat.le_of_ble_eq_true rfl⟩ ⟨rfl, rfl⟩ ⟨Nat.le_of_ble_eq_true rfl, Nat.le_of_ble_eq_true rfl⟩ dX6_mean_3 rfl [none, none, none, none, none, none, none, none, none, none] rfl (ws' := cMW G q w) rfl (fun H locs hW => ?_)
  obtain ⟨ht_6, hf_6⟩ := of_ite h
  refine lv_if_ne (tgt := 16) hx hb dX6_mean_6 (by decide) (fun c_6 => ?_) (fun c_6 => ?_)
  · have h := hf_6 c_6
    refine lv_lconst (v := (0 : Int64)) hx hb dX6_mean_16 (by decide) ?_
    refine lv_lstore_n (lv' := [(2, .long (0 : Int64)), (0, .ref (q 0)), (1, .int x1)]) hx hb dX6_mean_17 rfl hl (by decide) rfl (fun ls hl => ?_)
    refine lv_iconst (v := (0 : Int32)) hx hb dX6_mean_18 (by decide) ?_
    refine lv_istore (lv' := [(4, .int (0 : Int32)), (2, .long (0 : Int64)), (0, .ref (q 0)), (1, .int x1)]) hx hb dX6_mean_19 hl (by decide) rfl (fun ls hl => ?_)
    have L0 : ∀ (n0 : Nat) (v4_21 : Int32) (v2_21 : Int64) (H : Heap) (locs : List Loc) (ls : Array Slot), f_X6_mean_21 x1 w n0 v4_21 v2_21 = some o → Wd G A0 s (cMW G q w) H locs → lv_has ls 5 [(4, .int v4_21), (2, .long v2_21), (0, .ref (q 0)), (1, .int x1)] → W p l e rmX6_mean s m ([.ref (q 0), .int x1] : List Value).toArray below meth c H locs 0 0 (Ql below G (cMW G q o.2) o.1 A0 ([.ref (q 0), .int x1] : List Value).toArray s) (F0 m 21 ls []) := by
      intro n0
      induction n0 with
      | zero => intro v4_21 v2_21 H locs ls h; cases (show (none : Option (Int64 × MW)) = some o from h)
      | succ n0 ih0 =>
        intro v4_21 v2_21 H locs ls h hW hl
        refine lv_iload hx hb dX6_mean_21 (lv_at hl 0 rfl) ?_
        refine lv_bipush (v := (20 : Int32)) hx hb dX6_mean_23 (by decide) ?_
        obtain ⟨ht_25, hf_25⟩ := of_ite h
        refine lv_icmp_ge (tgt := 47) hx hb dX6_mean_25 (by decide) (fun c_25 => ?_) (fun c_25 => ?_)
        · have h := ht_25 c_25
          refine lv_lload_n hx hb dX6_mean_47 rfl (lv_at hl 1 rfl) ?_
          refine lv_ldc2 (v := (20 : Int64)) hx hb hown (hts _ wd_1198) dX6_mean_48 ?_
          refine lv_iload_n hx hb dX6_mean_51 rfl (lv_at hl 3 rfl) ?_
          obtain ⟨p_52, hc_52, h⟩ := of_bind h
          refine x_Sl (av := [.long v2_21, .long (20 : Int64), .int x1]) F hW (c_X6_partOf l G v2_21 (20 : Int64) x1 _ hc_52) [] rfl rfl (by intro q; cases q) cs_X6_191 rfl rfl hl (Nat.le_of_ble_eq_true rfl) ⟨Nat.le_of_ble_eq_true rfl, Nat.le_of_ble_eq_true rfl⟩ ⟨rfl, rfl⟩ ⟨Nat.le_of_ble_eq_true rfl, Nat.le_of_ble_eq_true rfl⟩ dX6_mean_52 rfl [none, none, none, none, none, none, none, none, none, none] rfl (ws' := cMW G q w) rfl (fun H locs hW => ?_)
          obtain rfl := Option.some.inj h
          exact x_retl F hr hW rfl dX6_mean_55
        · have h := hf_25 c_25
          refine lv_lload_n hx hb dX6_mean_28 rfl (lv_at hl 1 rfl) ?_
          refine lv_aload_n hx hb dX6_mean_29 rfl (lv_at hl 2 rfl) ?_
          refine x_get F hW 0 rfl fa_X6_9 rfl dX6_mean_30 ?_
          refine lv_iconst (v := (3 : Int32)) hx hb dX6_mean_33 (by decide) ?_
          refine lv_iload hx hb dX6_mean_34 (lv_at hl 0 rfl) ?_
          refine lv_iadd hx hb dX6_mean_36 ?_
          obtain ⟨g_37, h⟩ := of_guard h
          refine x_iald F hW 1 rfl g_37 dX6_mean_37 ?_
          refine lv_i2l (v := ((w.1 ((3 : Int32) + v4_21).toNatClampNeg).toInt64)) hx hb dX6_mean_38 rfl ?_
          refine lv_ladd hx hb dX6_mean_39 ?_
          obtain ⟨x_40, e_x_40, h⟩ := of_nm h
          refine x_topl e_x_40 ?_
          refine lv_lstore_n (lv' := [(2, .long x_40), (4, .int v4_21), (0, .ref (q 0)), (1, .int x1)]) hx hb dX6_mean_40 rfl hl (by decide) rfl (fun ls hl => ?_)
          refine lv_iinc (v := (v4_21 + (1 : Int32))) (lv' := [(4, .int (v4_21 + (1 : Int32))), (2, .long x_40), (0, .ref (q 0)), (1, .int x1)]) hx hb dX6_mean_41 hl (k := 1) rfl rfl (by decide) rfl (fun ls hl => ?_)
          refine lv_goto (tgt := 21) hx hb dX6_mean_44 (by decide) ?_
          exact ih0 (v4_21 + (1 : Int32)) x_40 _ _ _ h hW (lv_sub hl [0, 1, 2, 3] rfl)
    exact L0 200 (0 : Int32) (0 : Int64) _ _ _ h hW (lv_sub hl [0, 1, 2, 3] rfl)
  · have h := ht_6 c_6
    refine lv_aload_n hx hb dX6_mean_9 rfl (lv_at hl 0 rfl) ?_
    refine lv_bipush (v := (-2 : Int32)) hx hb dX6_mean_10 (by decide) ?_
    obtain ⟨p_12, hc_12, h⟩ := of_bind h
    refine x_Vl (av := [.ref (q 0), .int (-2 : Int32)]) (As := [.int (-2 : Int32)]) F hW (c_X6_noWide l G q w (-2 : Int32) _ hc_12) [0, 1, 2, 3, 4, 5, 6, 7, 8, 9] rfl rfl (by intro q; cases q) cv_X6_184 rfl ⟨_, rfl, rfl⟩ rfl rfl rfl hl (Nat.le_of_ble_eq_true rfl) ⟨Nat.le_of_ble_eq_true rfl, Nat.le_of_ble_eq_true rfl⟩ ⟨rfl, rfl⟩ ⟨Nat.le_of_ble_eq_true rfl, Nat.le_of_ble_eq_true rfl⟩ dX6_mean_12 rfl [some 0, some 1, some 2, some 3, some 4, some 5, some 6, some 7, some 8, some 9] rfl (ws' := cMW G q p_12.2) rfl (fun H locs hW => ?_)
    obtain rfl := Option.some.inj h
    exact x_retl F hr hW rfl dX6_mean_15
def f_X6_isHangSo_4 : Nat → Int32 → Int32 → MW → Option (Int32 × MW)
  | 0, _, _, _ => none
  | n0 + 1, v2_4, v1_4, w_4 =>
    if w_4.2.2.2.2.2.2.2.2.2.2.2.1 ≤ v2_4 then
    if v1_4 = 0 ∨ v1_4 = 1 then some (v1_4, w_4) else none
    else
    Option.bind (f_X6_hangIn w_4.2.1) fun p_17 =>
    Option.bind (f_X6_bits p_17) fun p_20 =>
    if inR v2_4 16 then
    if p_20 = (w_4.2.2.2.2.2.1 v2_4.toNatClampNeg) then
    nm (v1_4 &&& (1 : Int32)) fun x_38_2 =>
    Option.bind (f_X6_night w_4.2.1) fun p_43_2 =>
    nm p_43_2.1 fun x_46_2 =>
    f_X6_isHangSo_4 n0 (v2_4 + (1 : Int32)) x_38_2 (w_4.1, p_43_2.2, w_4.2.2.1, w_4.2.2.2.1, w_4.2.2.2.2.1, w_4.2.2.2.2.2.1, w_4.2.2.2.2.2.2.1, w_4.2.2.2.2.2.2.2.1, w_4.2.2.2.2.2.2.2.2.1, w_4.2.2.2.2.2.2.2.2.2.1, w_4.2.2.2.2.2.2.2.2.2.2.1, w_4.2.2.2.2.2.2.2.2.2.2.2.1, w_4.2.2.2.2.2.2.2.2.2.2.2.2.1, w_4.2.2.2.2.2.2.2.2.2.2.2.2.2)
    else
    nm (v1_4 &&& (0 : Int32)) fun x_38 =>
    Option.bind (f_X6_night w_4.2.1) fun p_43 =>
    nm p_43.1 fun x_46 =>
    f_X6_isHangSo_4 n0 (v2_4 + (1 : Int32)) x_38 (w_4.1, p_43.2, w_4.2.2.1, w_4.2.2.2.1, w_4.2.2.2.2.1, w_4.2.2.2.2.2.1, w_4.2.2.2.2.2.2.1, w_4.2.2.2.2.2.2.2.1, w_4.2.2.2.2.2.2.2.2.1, w_4.2.2.2.2.2.2.2.2.2.1, w_4.2.2.2.2.2.2.2.2.2.2.1, w_4.2.2.2.2.2.2.2.2.2.2.2.1, w_4.2.2.2.2.2.2.2.2.2.2.2.2.1, w_4.2.2.2.2.2.2.2.2.2.2.2.2.2)
    else none
def f_X6_isHangSo (w : MW) : Option (Int32 × MW) :=
  f_X6_isHangSo_4 200 (0 : Int32) (1 : Int32) w
abbrev rmX6_isHangSo : Room := { frames := 5, cells := 0, slots := 0, locals := 115 }
set_option maxRecDepth 100000 in
set_option maxHeartbeats 4000000 in
theorem c_X6_isHangSo (l : Launch) (G : EnT) (q : Nat → Nat) (w : MW) (o : Int32 × MW) (h : f_X6_isHangSo w = some o) : Mi l yX6_isHangSo rmX6_isHangSo cX6_isHangSo 4 (some .boolean) G false [.ref (q 0)] (cMW G q w) o.1 (cMW G q o.2) := by
  refine Mi_of (by decide) (Nat.le_of_ble_eq_true rfl) ?_
  intro p e s m below meth c A0 F hr hW ls hl
  obtain ⟨hx, hb, hml, hown, hts, hK, hNW, hlocks, hA, hSX⟩ := id F
  have hl : lv_has ls 4 [(0, .ref (q 0))] := hl
  have hW : Wd G A0 s (cMW G q w) s.heap [] := hW
  show W p l e rmX6_isHangSo s m ([.ref (q 0)] : List Value).toArray below meth c s.heap [] 0 0 (Qi below G (cMW G q o.2) o.1 A0 ([.ref (q 0)] : List Value).toArray s) (F0 m 0 ls [])
  refine lv_iconst (v := (1 : Int32)) hx hb dX6_isHangSo_0 (by decide) ?_
  refine lv_istore_n (lv' := [(1, .int (1 : Int32)), (0, .ref (q 0))]) hx hb dX6_isHangSo_1 rfl hl (by decide) rfl (fun ls hl => ?_)
  refine lv_iconst (v := (0 : Int32)) hx hb dX6_isHangSo_2 (by decide) ?_
  refine lv_istore_n (lv' := [(2, .int (0 : Int32)), (1, .int (1 : Int32)), (0, .ref (q 0))]) hx hb dX6_isHangSo_3 rfl hl (by decide) rfl (fun ls hl => ?_)
  have L0 : ∀ (n0 : Nat) (v2_4 : Int32) (v1_4 : Int32) (w_4 : MW) (H : Heap) (locs : List Loc) (ls : Array Slot), f_X6_isHangSo_4 n0 v2_4 v1_4 w_4 = some o → Wd G A0 s (cMW G q w_4) H locs → lv_has ls 4 [(2, .int v2_4), (1, .int v1_4), (0, .ref (q 0))] → W p l e rmX6_isHangSo s m ([.ref (q 0)] : List Value).toArray below meth c H locs 0 0 (Qi below G (cMW G q o.2) o.1 A0 ([.ref (q 0)] : List Value).toArray s) (F0 m 4 ls []) := by
    intro n0
    induction n0 with
    | zero => intro v2_4 v1_4 w_4 H locs ls h; cases (show (none : Option (Int32 × MW)) = some o from h)
    | succ n0 ih0 =>
      intro v2_4 v1_4 w_4 H locs ls h hW hl
      refine lv_iload_n hx hb dX6_isHangSo_4 rfl (lv_at hl 0 rfl) ?_
      refine lv_aload_n hx hb dX6_isHangSo_5 rfl (lv_at hl 2 rfl) ?_
      refine x_get F hW 0 rfl fa_X6_197 rfl dX6_isHangSo_6 ?_
      obtain ⟨ht_9, hf_9⟩ := of_ite h
      refine lv_icmp_ge (tgt := 53) hx hb dX6_isHangSo_9 (by decide) (fun c_9 => ?_) (fun c_9 => ?_)
      · have h := ht_9 c_9
        refine lv_iload_n hx hb dX6_isHangSo_53 rfl (lv_at hl 1 rfl) ?_
        obtain ⟨g_54, h⟩ := of_guard h
        obtain rfl := Option.some.inj h
        exact x_retz F hr hW g_54 rfl dX6_isHangSo_54
      · have h := hf_9 c_9
        refine lv_iload_n hx hb dX6_isHangSo_12 rfl (lv_at hl 1 rfl) ?_
        refine lv_aload_n hx hb dX6_isHangSo_13 rfl (lv_at hl 2 rfl) ?_
        refine x_get F hW 0 rfl fa_X6_13 rfl dX6_isHangSo_14 ?_
        obtain ⟨p_17, hc_17, h⟩ := of_bind h
        refine x_Si (av := [.ref (q 2)]) F hW (c_X6_hangIn l G (fun i => q (i + 2)) w_4.2.1 _ hc_17) [2] rfl rfl (by intro q; cases q) cs_X6_145 rfl rfl hl (Nat.le_of_ble_eq_true rfl) ⟨Nat.le_of_ble_eq_true rfl, Nat.le_of_ble_eq_true rfl⟩ ⟨rfl, rfl⟩ ⟨Nat.le_of_ble_eq_true rfl, Nat.le_of_ble_eq_true rfl⟩ dX6_isHangSo_17 rfl [none, none, some 0, none, none, none, none, none, none, none] rfl (ws' := cMW G q w_4) rfl (fun H locs hW => ?_)
        obtain ⟨p_20, hc_20, h⟩ := of_bind h
        refine x_Si (av := [.int p_17]) F hW (c_X6_bits l G p_17 _ hc_20) [] rfl rfl (by intro q; cases q) cs_X6_148 rfl rfl hl (Nat.le_of_ble_eq_true rfl) ⟨Nat.le_of_ble_eq_true rfl, Nat.le_of_ble_eq_true rfl⟩ ⟨rfl, rfl⟩ ⟨Nat.le_of_ble_eq_true rfl, Nat.le_of_ble_eq_true rfl⟩ dX6_isHangSo_20 rfl [none, none, none, none, none, none, none, none, none, none] rfl (ws' := cMW G q w_4) rfl (fun H locs hW => ?_)
        refine lv_aload_n hx hb dX6_isHangSo_23 rfl (lv_at hl 2 rfl) ?_
        refine x_get F hW 0 rfl fa_X6_25 rfl dX6_isHangSo_24 ?_
        refine lv_iload_n hx hb dX6_isHangSo_27 rfl (lv_at hl 0 rfl) ?_
        obtain ⟨g_28, h⟩ := of_guard h
        refine x_iald F hW 6 rfl g_28 dX6_isHangSo_28 ?_
        obtain ⟨ht_29, hf_29⟩ := of_ite h
        refine lv_icmp_ne (tgt := 36) hx hb dX6_isHangSo_29 (by decide) (fun c_29 => ?_) (fun c_29 => ?_)
        · have h := hf_29 c_29
          refine lv_iconst (v := (0 : Int32)) hx hb dX6_isHangSo_36 (by decide) ?_
          refine lv_iand hx hb dX6_isHangSo_37 ?_
          obtain ⟨x_38, e_x_38, h⟩ := of_nm h
          refine x_topi e_x_38 ?_
          refine lv_istore_n (lv' := [(1, .int x_38), (2, .int v2_4), (0, .ref (q 0))]) hx hb dX6_isHangSo_38 rfl hl (by decide) rfl (fun ls hl => ?_)
          refine lv_aload_n hx hb dX6_isHangSo_39 rfl (lv_at hl 2 rfl) ?_
          refine x_get F hW 0 rfl fa_X6_13 rfl dX6_isHangSo_40 ?_
          obtain ⟨p_43, hc_43, h⟩ := of_bind h
          refine x_Si (av := [.ref (q 2)]) F hW (c_X6_night l G (fun i => q (i + 2)) w_4.2.1 _ hc_43) [2] rfl rfl (by intro q; cases q) cs_X6_90 rfl rfl hl (Nat.le_of_ble_eq_true rfl) ⟨Nat.le_of_ble_eq_true rfl, Nat.le_of_ble_eq_true rfl⟩ ⟨rfl, rfl⟩ ⟨Nat.le_of_ble_eq_true rfl, Nat.le_of_ble_eq_true rfl⟩ dX6_isHangSo_43 rfl [none, none, some 0, none, none, none, none, none, none, none] rfl (ws' := cMW G q (w_4.1, p_43.2, w_4.2.2.1, w_4.2.2.2.1, w_4.2.2.2.2.1, w_4.2.2.2.2.2.1, w_4.2.2.2.2.2.2.1, w_4.2.2.2.2.2.2.2.1, w_4.2.2.2.2.2.2.2.2.1, w_4.2.2.2.2.2.2.2.2.2.1, w_4.2.2.2.2.2.2.2.2.2.2.1, w_4.2.2.2.2.2.2.2.2.2.2.2.1, w_4.2.2.2.2.2.2.2.2.2.2.2.2.1, w_4.2.2.2.2.2.2.2.2.2.2.2.2.2)) rfl (fun H locs hW => ?_)
          obtain ⟨x_46, e_x_46, h⟩ := of_nm h
          refine x_topi e_x_46 ?_
          refine lv_istore_n (lv' := [(3, .int x_46), (1, .int x_38), (2, .int v2_4), (0, .ref (q 0))]) hx hb dX6_isHangSo_46 rfl hl (by decide) rfl (fun ls hl => ?_)
          refine lv_iinc (v := (v2_4 + (1 : Int32))) (lv' := [(2, .int (v2_4 + (1 : Int32))), (3, .int x_46), (1, .int x_38), (0, .ref (q 0))]) hx hb dX6_isHangSo_47 hl (k := 2) rfl rfl (by decide) rfl (fun ls hl => ?_)
          refine lv_goto (tgt := 4) hx hb dX6_isHangSo_50 (by decide) ?_
          exact ih0 (v2_4 + (1 : Int32)) x_38 (w_4.1, p_43.2, w_4.2.2.1, w_4.2.2.2.1, w_4.2.2.2.2.1, w_4.2.2.2.2.2.1, w_4.2.2.2.2.2.2.1, w_4.2.2.2.2.2.2.2.1, w_4.2.2.2.2.2.2.2.2.1, w_4.2.2.2.2.2.2.2.2.2.1, w_4.2.2.2.2.2.2.2.2.2.2.1, w_4.2.2.2.2.2.2.2.2.2.2.2.1, w_4.2.2.2.2.2.2.2.2.2.2.2.2.1, w_4.2.2.2.2.2.2.2.2.2.2.2.2.2) _ _ _ h hW (lv_sub hl [0, 2, 3] rfl)
        · have h := ht_29 c_29
          refine lv_iconst (v := (1 : Int32)) hx hb dX6_isHangSo_32 (by decide) ?_
          refine lv_goto (tgt := 37) hx hb dX6_isHangSo_33 (by decide) ?_
          refine lv_iand hx hb dX6_isHangSo_37 ?_
          obtain ⟨x_38_2, e_x_38_2, h⟩ := of_nm h
          refine x_topi e_x_38_2 ?_
          refine lv_istore_n (lv' := [(1, .int x_38_2), (2, .int v2_4), (0, .ref (q 0))]) hx hb dX6_isHangSo_38 rfl hl (by decide) rfl (fun ls hl => ?_)
          refine lv_aload_n hx hb dX6_isHangSo_39 rfl (lv_at hl 2 rfl) ?_
          refine x_get F hW 0 rfl fa_X6_13 rfl dX6_isHangSo_40 ?_
          obtain ⟨p_43_2, hc_43, h⟩ := of_bind h
          refine x_Si (av := [.ref (q 2)]) F hW (c_X6_night l G (fun i => q (i + 2)) w_4.2.1 _ hc_43) [2] rfl rfl (by intro q; cases q) cs_X6_90 rfl rfl hl (Nat.le_of_ble_eq_true rfl) ⟨Nat.le_of_ble_eq_true rfl, Nat.le_of_ble_eq_true rfl⟩ ⟨rfl, rfl⟩ ⟨Nat.le_of_ble_eq_true rfl, Nat.le_of_ble_eq_true rfl⟩ dX6_isHangSo_43 rfl [none, none, some 0, none, none, none, none, none, none, none] rfl (ws' := cMW G q (w_4.1, p_43_2.2, w_4.2.2.1, w_4.2.2.2.1, w_4.2.2.2.2.1, w_4.2.2.2.2.2.1, w_4.2.2.2.2.2.2.1, w_4.2.2.2.2.2.2.2.1, w_4.2.2.2.2.2.2.2.2.1, w_4.2.2.2.2.2.2.2.2.2.1, w_4.2.2.2.2.2.2.2.2.2.2.1, w_4.2.2.2.2.2.2.2.2.2.2.2.1, w_4.2.2.2.2.2.2.2.2.2.2.2.2.1, w_4.2.2.2.2.2.2.2.2.2.2.2.2.2)) rfl (fun H locs hW => ?_)
          obtain ⟨x_46_2, e_x_46_2, h⟩ := of_nm h
          refine x_topi e_x_46_2 ?_
          refine lv_istore_n (lv' := [(3, .int x_46_2), (1, .int x_38_2), (2, .int v2_4), (0, .ref (q 0))]) hx hb dX6_isHangSo_46 rfl hl (by decide) rfl (fun ls hl => ?_)
          refine lv_iinc (v := (v2_4 + (1 : Int32))) (lv' := [(2, .int (v2_4 + (1 : Int32))), (3, .int x_46_2), (1, .int x_38_2), (0, .ref (q 0))]) hx hb dX6_isHangSo_47 hl (k := 2) rfl rfl (by decide) rfl (fun ls hl => ?_)
          refine lv_goto (tgt := 4) hx hb dX6_isHangSo_50 (by decide) ?_
          exact ih0 (v2_4 + (1 : Int32)) x_38_2 (w_4.1, p_43_2.2, w_4.2.2.1, w_4.2.2.2.1, w_4.2.2.2.2.1, w_4.2.2.2.2.2.1, w_4.2.2.2.2.2.2.1, w_4.2.2.2.2.2.2.2.1, w_4.2.2.2.2.2.2.2.2.1, w_4.2.2.2.2.2.2.2.2.2.1, w_4.2.2.2.2.2.2.2.2.2.2.1, w_4.2.2.2.2.2.2.2.2.2.2.2.1, w_4.2.2.2.2.2.2.2.2.2.2.2.2.1, w_4.2.2.2.2.2.2.2.2.2.2.2.2.2) _ _ _ h hW (lv_sub hl [0, 2, 3] rfl)
  exact L0 200 (0 : Int32) (1 : Int32) w _ _ _ h hW (lv_sub hl [0, 1, 2] rfl)
def f_X6_whoSlept_4 : Nat → Int32 → Int32 → MW → Option (Int32 × MW)
  | 0, _, _, _ => none
  | n0 + 1, v2_4, v1_4, w_4 =>
    if inR (0 : Int32) 71 then
    if (w_4.1 (0 : Int32).toNatClampNeg) ≤ v2_4 then
    some (v1_4, w_4)
    else
    Option.bind (f_X6_copies w_4.1 w_4.2.1) fun p_22 =>
    Option.bind (f_X6_of v2_4 (3 : Int32)) fun p_31 =>
    if inR p_31 71 then
    Option.bind (f_X6_isHangSo (w_4.1, (upd p_22 p_31.toNatClampNeg (0 : Int32)), w_4.2.2.1, w_4.2.2.2.1, w_4.2.2.2.2.1, w_4.2.2.2.2.2.1, w_4.2.2.2.2.2.2.1, w_4.2.2.2.2.2.2.2.1, w_4.2.2.2.2.2.2.2.2.1, w_4.2.2.2.2.2.2.2.2.2.1, w_4.2.2.2.2.2.2.2.2.2.2.1, w_4.2.2.2.2.2.2.2.2.2.2.2.1, w_4.2.2.2.2.2.2.2.2.2.2.2.2.1, w_4.2.2.2.2.2.2.2.2.2.2.2.2.2)) fun p_38 =>
    if p_38.1 = 0 then
    nm (v1_4 ||| (0 : Int32)) fun x_52 =>
    f_X6_whoSlept_4 n0 (v2_4 + (1 : Int32)) x_52 p_38.2
    else
    nm (v1_4 ||| ((1 : Int32) <<< (v2_4 &&& 31))) fun x_52_2 =>
    f_X6_whoSlept_4 n0 (v2_4 + (1 : Int32)) x_52_2 p_38.2
    else none
    else none
def f_X6_whoSlept (w : MW) : Option (Int32 × MW) :=
  f_X6_whoSlept_4 200 (0 : Int32) (0 : Int32) w
abbrev rmX6_whoSlept : Room := { frames := 6, cells := 0, slots := 0, locals := 138 }
set_option maxRecDepth 100000 in
set_option maxHeartbeats 4000000 in
theorem c_X6_whoSlept (l : Launch) (G : EnT) (q : Nat → Nat) (w : MW) (o : Int32 × MW) (h : f_X6_whoSlept w = some o) : Mi l yX6_whoSlept rmX6_whoSlept cX6_whoSlept 3 (some .int) G false [.ref (q 0)] (cMW G q w) o.1 (cMW G q o.2) := by
  refine Mi_of (by decide) (Nat.le_of_ble_eq_true rfl) ?_
  intro p e s m below meth c A0 F hr hW ls hl
  obtain ⟨hx, hb, hml, hown, hts, hK, hNW, hlocks, hA, hSX⟩ := id F
  have hl : lv_has ls 3 [(0, .ref (q 0))] := hl
  have hW : Wd G A0 s (cMW G q w) s.heap [] := hW
  show W p l e rmX6_whoSlept s m ([.ref (q 0)] : List Value).toArray below meth c s.heap [] 0 0 (Qi below G (cMW G q o.2) o.1 A0 ([.ref (q 0)] : List Value).toArray s) (F0 m 0 ls [])
  refine lv_iconst (v := (0 : Int32)) hx hb dX6_whoSlept_0 (by decide) ?_
  refine lv_istore_n (lv' := [(1, .int (0 : Int32)), (0, .ref (q 0))]) hx hb dX6_whoSlept_1 rfl hl (by decide) rfl (fun ls hl => ?_)
  refine lv_iconst (v := (0 : Int32)) hx hb dX6_whoSlept_2 (by decide) ?_
  refine lv_istore_n (lv' := [(2, .int (0 : Int32)), (1, .int (0 : Int32)), (0, .ref (q 0))]) hx hb dX6_whoSlept_3 rfl hl (by decide) rfl (fun ls hl => ?_)
  have L0 : ∀ (n0 : Nat) (v2_4 : Int32) (v1_4 : Int32) (w_4 : MW) (H : Heap) (locs : List Loc) (ls : Array Slot), f_X6_whoSlept_4 n0 v2_4 v1_4 w_4 = some o → Wd G A0 s (cMW G q w_4) H locs → lv_has ls 3 [(2, .int v2_4), (1, .int v1_4), (0, .ref (q 0))] → W p l e rmX6_whoSlept s m ([.ref (q 0)] : List Value).toArray below meth c H locs 0 0 (Qi below G (cMW G q o.2) o.1 A0 ([.ref (q 0)] : List Value).toArray s) (F0 m 4 ls []) := by
    intro n0
    induction n0 with
    | zero => intro v2_4 v1_4 w_4 H locs ls h; cases (show (none : Option (Int32 × MW)) = some o from h)
    | succ n0 ih0 =>
      intro v2_4 v1_4 w_4 H locs ls h hW hl
      refine lv_iload_n hx hb dX6_whoSlept_4 rfl (lv_at hl 0 rfl) ?_
      refine lv_aload_n hx hb dX6_whoSlept_5 rfl (lv_at hl 2 rfl) ?_
      refine x_get F hW 0 rfl fa_X6_9 rfl dX6_whoSlept_6 ?_
      refine lv_iconst (v := (0 : Int32)) hx hb dX6_whoSlept_9 (by decide) ?_
      obtain ⟨g_10, h⟩ := of_guard h
      refine x_iald F hW 1 rfl g_10 dX6_whoSlept_10 ?_
      obtain ⟨ht_11, hf_11⟩ := of_ite h
      refine lv_icmp_ge (tgt := 59) hx hb dX6_whoSlept_11 (by decide) (fun c_11 => ?_) (fun c_11 => ?_)
      · have h := ht_11 c_11
        refine lv_iload_n hx hb dX6_whoSlept_59 rfl (lv_at hl 1 rfl) ?_
        obtain rfl := Option.some.inj h
        exact x_reti F hr hW rfl dX6_whoSlept_60
      · have h := hf_11 c_11
        refine lv_aload_n hx hb dX6_whoSlept_14 rfl (lv_at hl 2 rfl) ?_
        refine x_get F hW 0 rfl fa_X6_9 rfl dX6_whoSlept_15 ?_
        refine lv_aload_n hx hb dX6_whoSlept_18 rfl (lv_at hl 2 rfl) ?_
        refine x_get F hW 0 rfl fa_X6_13 rfl dX6_whoSlept_19 ?_
        obtain ⟨p_22, hc_22, h⟩ := of_bind h
        refine x_Sv (av := [.ref (q 1), .ref (q 2)]) F hW (c_X6_copies l G (fun i => q (i + 1)) w_4.1 (fun i => q (i + 2)) w_4.2.1 _ hc_22) [1, 2] rfl rfl (by intro q; cases q) cs_X6_134 rfl rfl hl (Nat.le_of_ble_eq_true rfl) ⟨Nat.le_of_ble_eq_true rfl, Nat.le_of_ble_eq_true rfl⟩ ⟨rfl, rfl⟩ ⟨Nat.le_of_ble_eq_true rfl, Nat.le_of_ble_eq_true rfl⟩ dX6_whoSlept_22 rfl [none, some 0, some 1, none, none, none, none, none, none, none] rfl (ws' := cMW G q (w_4.1, p_22, w_4.2.2.1, w_4.2.2.2.1, w_4.2.2.2.2.1, w_4.2.2.2.2.2.1, w_4.2.2.2.2.2.2.1, w_4.2.2.2.2.2.2.2.1, w_4.2.2.2.2.2.2.2.2.1, w_4.2.2.2.2.2.2.2.2.2.1, w_4.2.2.2.2.2.2.2.2.2.2.1, w_4.2.2.2.2.2.2.2.2.2.2.2.1, w_4.2.2.2.2.2.2.2.2.2.2.2.2.1, w_4.2.2.2.2.2.2.2.2.2.2.2.2.2)) rfl (fun H locs hW => ?_)
        refine lv_aload_n hx hb dX6_whoSlept_25 rfl (lv_at hl 2 rfl) ?_
        refine x_get F hW 0 rfl fa_X6_13 rfl dX6_whoSlept_26 ?_
        refine lv_iload_n hx hb dX6_whoSlept_29 rfl (lv_at hl 0 rfl) ?_
        refine lv_iconst (v := (3 : Int32)) hx hb dX6_whoSlept_30 (by decide) ?_
        obtain ⟨p_31, hc_31, h⟩ := of_bind h
        refine x_Si (av := [.int v2_4, .int (3 : Int32)]) F hW (c_X6_of l G v2_4 (3 : Int32) _ hc_31) [] rfl rfl (by intro q; cases q) cs_X6_47 rfl rfl hl (Nat.le_of_ble_eq_true rfl) ⟨Nat.le_of_ble_eq_true rfl, Nat.le_of_ble_eq_true rfl⟩ ⟨rfl, rfl⟩ ⟨Nat.le_of_ble_eq_true rfl, Nat.le_of_ble_eq_true rfl⟩ dX6_whoSlept_31 rfl [none, none, none, none, none, none, none, none, none, none] rfl (ws' := cMW G q (w_4.1, p_22, w_4.2.2.1, w_4.2.2.2.1, w_4.2.2.2.2.1, w_4.2.2.2.2.2.1, w_4.2.2.2.2.2.2.1, w_4.2.2.2.2.2.2.2.1, w_4.2.2.2.2.2.2.2.2.1, w_4.2.2.2.2.2.2.2.2.2.1, w_4.2.2.2.2.2.2.2.2.2.2.1, w_4.2.2.2.2.2.2.2.2.2.2.2.1, w_4.2.2.2.2.2.2.2.2.2.2.2.2.1, w_4.2.2.2.2.2.2.2.2.2.2.2.2.2)) rfl (fun H locs hW => ?_)
        refine lv_iconst (v := (0 : Int32)) hx hb dX6_whoSlept_34 (by decide) ?_
        obtain ⟨g_35, h⟩ := of_guard h
        refine x_iast F hW 2 rfl g_35 (ws' := cMW G q (w_4.1, (upd p_22 p_31.toNatClampNeg (0 : Int32)), w_4.2.2.1, w_4.2.2.2.1, w_4.2.2.2.2.1, w_4.2.2.2.2.2.1, w_4.2.2.2.2.2.2.1, w_4.2.2.2.2.2.2.2.1, w_4.2.2.2.2.2.2.2.2.1, w_4.2.2.2.2.2.2.2.2.2.1, w_4.2.2.2.2.2.2.2.2.2.2.1, w_4.2.2.2.2.2.2.2.2.2.2.2.1, w_4.2.2.2.2.2.2.2.2.2.2.2.2.1, w_4.2.2.2.2.2.2.2.2.2.2.2.2.2)) rfl dX6_whoSlept_35 (fun H locs hW => ?_)
        refine lv_iload_n hx hb dX6_whoSlept_36 rfl (lv_at hl 1 rfl) ?_
        refine lv_aload_n hx hb dX6_whoSlept_37 rfl (lv_at hl 2 rfl) ?_
        obtain ⟨p_38, hc_38, h⟩ := of_bind h
        refine x_Vi (av := [.ref (q 0)]) (As := []) F hW (c_X6_isHangSo l G q (w_4.1, (upd p_22 p_31.toNatClampNeg (0 : Int32)), w_4.2.2.1, w_4.2.2.2.1, w_4.2.2.2.2.1, w_4.2.2.2.2.2.1, w_4.2.2.2.2.2.2.1, w_4.2.2.2.2.2.2.2.1, w_4.2.2.2.2.2.2.2.2.1, w_4.2.2.2.2.2.2.2.2.2.1, w_4.2.2.2.2.2.2.2.2.2.2.1, w_4.2.2.2.2.2.2.2.2.2.2.2.1, w_4.2.2.2.2.2.2.2.2.2.2.2.2.1, w_4.2.2.2.2.2.2.2.2.2.2.2.2.2) _ hc_38) [0, 1, 2, 3, 4, 5, 6, 7, 8, 9] rfl rfl (by intro q; cases q) cv_X6_200 rfl ⟨_, rfl, rfl⟩ rfl rfl rfl hl (Nat.le_of_ble_eq_true rfl) ⟨Nat.le_of_ble_eq_true rfl, Nat.le_of_ble_eq_true rfl⟩ ⟨rfl, rfl⟩ ⟨Nat.le_of_ble_eq_true rfl, Nat.le_of_ble_eq_true rfl⟩ dX6_whoSlept_38 rfl [some 0, some 1, some 2, some 3, some 4, some 5, some 6, some 7, some 8, some 9] rfl (ws' := cMW G q p_38.2) rfl (fun H locs hW => ?_)
        obtain ⟨ht_41, hf_41⟩ := of_ite h
        refine lv_if_eq (tgt := 50) hx hb dX6_whoSlept_41 (by decide) (fun c_41 => ?_) (fun c_41 => ?_)
        · have h := ht_41 c_41
          refine lv_iconst (v := (0 : Int32)) hx hb dX6_whoSlept_50 (by decide) ?_
          refine lv_ior hx hb dX6_whoSlept_51 ?_
          obtain ⟨x_52, e_x_52, h⟩ := of_nm h
          refine x_topi e_x_52 ?_
          refine lv_istore_n (lv' := [(1, .int x_52), (2, .int v2_4), (0, .ref (q 0))]) hx hb dX6_whoSlept_52 rfl hl (by decide) rfl (fun ls hl => ?_)
          refine lv_iinc (v := (v2_4 + (1 : Int32))) (lv' := [(2, .int (v2_4 + (1 : Int32))), (1, .int x_52), (0, .ref (q 0))]) hx hb dX6_whoSlept_53 hl (k := 1) rfl rfl (by decide) rfl (fun ls hl => ?_)
          refine lv_goto (tgt := 4) hx hb dX6_whoSlept_56 (by decide) ?_
          exact ih0 (v2_4 + (1 : Int32)) x_52 p_38.2 _ _ _ h hW (lv_sub hl [0, 1, 2] rfl)
        · have h := hf_41 c_41
          refine lv_iconst (v := (1 : Int32)) hx hb dX6_whoSlept_44 (by decide) ?_
          refine lv_iload_n hx hb dX6_whoSlept_45 rfl (lv_at hl 0 rfl) ?_
          refine lv_ishl hx hb dX6_whoSlept_46 ?_
          refine lv_goto (tgt := 51) hx hb dX6_whoSlept_47 (by decide) ?_
          refine lv_ior hx hb dX6_whoSlept_51 ?_
          obtain ⟨x_52_2, e_x_52_2, h⟩ := of_nm h
          refine x_topi e_x_52_2 ?_
          refine lv_istore_n (lv' := [(1, .int x_52_2), (2, .int v2_4), (0, .ref (q 0))]) hx hb dX6_whoSlept_52 rfl hl (by decide) rfl (fun ls hl => ?_)
          refine lv_iinc (v := (v2_4 + (1 : Int32))) (lv' := [(2, .int (v2_4 + (1 : Int32))), (1, .int x_52_2), (0, .ref (q 0))]) hx hb dX6_whoSlept_53 hl (k := 1) rfl rfl (by decide) rfl (fun ls hl => ?_)
          refine lv_goto (tgt := 4) hx hb dX6_whoSlept_56 (by decide) ?_
          exact ih0 (v2_4 + (1 : Int32)) x_52_2 p_38.2 _ _ _ h hW (lv_sub hl [0, 1, 2] rfl)
  exact L0 200 (0 : Int32) (0 : Int32) w _ _ _ h hW (lv_sub hl [0, 1, 2] rfl)
def f_X6_whatIs_48 (k0 : Int32 → Int32 → MW → Option (Int32 × MW)) (x1 : Int32) (x2 : Int32) (v4_48 : Int32) (v3_48 : Int32) (t0_48 : Int32) (t1_48 : Int32) (w_48 : MW) : Option (Int32 × MW) :=
  if t0_48 ≤ t1_48 then
    some (v3_48, w_48)
    else
    Option.bind (f_X6_copies w_48.1 w_48.2.1) fun p_59 =>
    Option.bind (f_X6_of x1 x2) fun p_68 =>
    if inR p_68 71 then
    Option.bind (f_X6_isHangSo (w_48.1, (upd p_59 p_68.toNatClampNeg v4_48), w_48.2.2.1, w_48.2.2.2.1, w_48.2.2.2.2.1, w_48.2.2.2.2.2.1, w_48.2.2.2.2.2.2.1, w_48.2.2.2.2.2.2.2.1, w_48.2.2.2.2.2.2.2.2.1, w_48.2.2.2.2.2.2.2.2.2.1, w_48.2.2.2.2.2.2.2.2.2.2.1, w_48.2.2.2.2.2.2.2.2.2.2.2.1, w_48.2.2.2.2.2.2.2.2.2.2.2.2.1, w_48.2.2.2.2.2.2.2.2.2.2.2.2.2)) fun p_76 =>
    if p_76.1 = 0 then
    nm (v3_48 ||| (0 : Int32)) fun x_91 =>
    k0 (v4_48 + (1 : Int32)) x_91 p_76.2
    else
    nm (v3_48 ||| ((1 : Int32) <<< (v4_48 &&& 31))) fun x_91_2 =>
    k0 (v4_48 + (1 : Int32)) x_91_2 p_76.2
    else none
def f_X6_whatIs_35 (x2 : Int32) (x1 : Int32) : Nat → Int32 → Int32 → MW → Option (Int32 × MW)
  | 0, _, _, _ => none
  | n0 + 1, v4_35, v3_35, w_35 =>
    if x2 = 0 then
    f_X6_whatIs_48 (fun a0 a1 a2 => f_X6_whatIs_35 x2 x1 n0 a0 a1 a2) x1 x2 v4_35 v3_35 (6 : Int32) v4_35 w_35
    else
    f_X6_whatIs_48 (fun a0 a1 a2 => f_X6_whatIs_35 x2 x1 n0 a0 a1 a2) x1 x2 v4_35 v3_35 (10 : Int32) v4_35 w_35
def f_X6_whatIs (w : MW) (x1 : Int32) (x2 : Int32) : Option (Int32 × MW) :=
  Option.bind (f_X6_isHouse w x1) fun p_2 =>
    if p_2 = 0 then
    Option.bind (f_X6_no w (-1 : Int32)) fun p_10 =>
    some (p_10.1, p_10.2)
    else
    Option.bind (f_X6_isIn x2 (0 : Int32) (1 : Int32)) fun p_17 =>
    if p_17 = 0 then
    Option.bind (f_X6_no w (-2 : Int32)) fun p_26 =>
    some (p_26.1, p_26.2)
    else
    f_X6_whatIs_35 x2 x1 200 (0 : Int32) (0 : Int32) w
abbrev rmX6_whatIs : Room := { frames := 6, cells := 0, slots := 0, locals := 138 }
set_option maxRecDepth 100000 in
set_option maxHeartbeats 4000000 in
theorem c_X6_whatIs (l : Launch) (G : EnT) (q : Nat → Nat) (w : MW) (x1 : Int32) (x2 : Int32) (o : Int32 × MW) (h : f_X6_whatIs w x1 x2 = some o) : Mi l yX6_whatIs rmX6_whatIs cX6_whatIs 5 (some .int) G false [.ref (q 0), .int x1, .int x2] (cMW G q w) o.1 (cMW G q o.2) := by
  refine Mi_of (by decide) (Nat.le_of_ble_eq_true rfl) ?_
  intro p e s m below meth c A0 F hr hW ls hl
  obtain ⟨hx, hb, hml, hown, hts, hK, hNW, hlocks, hA, hSX⟩ := id F
  have hl : lv_has ls 5 [(0, .ref (q 0)), (1, .int x1), (2, .int x2)] := hl
  have hW : Wd G A0 s (cMW G q w) s.heap [] := hW
  show W p l e rmX6_whatIs s m ([.ref (q 0), .int x1, .int x2] : List Value).toArray below meth c s.heap [] 0 0 (Qi below G (cMW G q o.2) o.1 A0 ([.ref (q 0), .int x1, .int x2] : List Value).toArray s) (F0 m 0 ls [])
  refine lv_aload_n hx hb dX6_whatIs_0 rfl (lv_at hl 0 rfl) ?_
  refine lv_iload_n hx hb dX6_whatIs_1 rfl (lv_at hl 1 rfl) ?_
  obtain ⟨p_2, hc_2, h⟩ := of_bind h
  refine x_Vi (av := [.ref (q 0), .int x1]) (As := [.int x1]) F hW (c_X6_isHouse l G q w x1 _ hc_2) [0, 1, 2, 3, 4, 5, 6, 7, 8, 9] rfl rfl (by intro q; cases q) cv_X6_122 rfl ⟨_, rfl, rfl⟩ rfl rfl rfl hl (Nat.le_of_ble_eq_true rfl) ⟨Nat.le_of_ble_eq_true rfl, Nat.le_of_ble_eq_true rfl⟩ ⟨rfl, rfl⟩ ⟨Nat.le_of_ble_eq_true rfl, Nat.le_of_ble_eq_true rfl⟩ dX6_whatIs_2 rfl [some 0, some 1, some 2, some 3, some 4, some 5, some 6, some 7, some 8, some 9] rfl (ws' := cMW G q w) rfl (fun H locs hW => ?_)
  obtain ⟨ht_5, hf_5⟩ := of_ite h
  refine lv_if_ne (tgt := 14) hx hb dX6_whatIs_5 (by decide) (fun c_5 => ?_) (fun c_5 => ?_)
  · have h := hf_5 c_5
    refine lv_iload_n hx hb dX6_whatIs_14 rfl (lv_at hl 2 rfl) ?_
    refine lv_iconst (v := (0 : Int32)) hx hb dX6_whatIs_15 (by decide) ?_
    refine lv_iconst (v := (1 : Int32)) hx hb dX6_whatIs_16 (by decide) ?_
    obtain ⟨p_17, hc_17, h⟩ := of_bind h
    refine x_Si (av := [.int x2, .int (0 : Int32), .int (1 : Int32)]) F hW (c_X6_isIn l G x2 (0 : Int32) (1 : Int32) _ hc_17) [] rfl rfl (by intro q; cases q) cs_X6_43 rfl rfl hl (Nat.le_of_ble_eq_true rfl) ⟨Nat.le_of_ble_eq_true rfl, Nat.le_of_ble_eq_true rfl⟩ ⟨rfl, rfl⟩ ⟨Nat.le_of_ble_eq_true rfl, Nat.le_of_ble_eq_true rfl⟩ dX6_whatIs_17 rfl [none, none, none, none, none, none, none, none, none, none] rfl (ws' := cMW G q w) rfl (fun H locs hW => ?_)
    obtain ⟨ht_20, hf_20⟩ := of_ite h
    refine lv_if_ne (tgt := 30) hx hb dX6_whatIs_20 (by decide) (fun c_20 => ?_) (fun c_20 => ?_)
    · have h := hf_20 c_20
      refine lv_iconst (v := (0 : Int32)) hx hb dX6_whatIs_30 (by decide) ?_
      refine lv_istore_n (lv' := [(3, .int (0 : Int32)), (0, .ref (q 0)), (1, .int x1), (2, .int x2)]) hx hb dX6_whatIs_31 rfl hl (by decide) rfl (fun ls hl => ?_)
      refine lv_iconst (v := (0 : Int32)) hx hb dX6_whatIs_32 (by decide) ?_
      refine lv_istore (lv' := [(4, .int (0 : Int32)), (3, .int (0 : Int32)), (0, .ref (q 0)), (1, .int x1), (2, .int x2)]) hx hb dX6_whatIs_33 hl (by decide) rfl (fun ls hl => ?_)
      have L0 : ∀ (n0 : Nat) (v4_35 : Int32) (v3_35 : Int32) (w_35 : MW) (H : Heap) (locs : List Loc) (ls : Array Slot), f_X6_whatIs_35 x2 x1 n0 v4_35 v3_35 w_35 = some o → Wd G A0 s (cMW G q w_35) H locs → lv_has ls 5 [(4, .int v4_35), (3, .int v3_35), (0, .ref (q 0)), (1, .int x1), (2, .int x2)] → W p l e rmX6_whatIs s m ([.ref (q 0), .int x1, .int x2] : List Value).toArray below meth c H locs 0 0 (Qi below G (cMW G q o.2) o.1 A0 ([.ref (q 0), .int x1, .int x2] : List Value).toArray s) (F0 m 35 ls []) := by
        intro n0
        induction n0 with
        | zero => intro v4_35 v3_35 w_35 H locs ls h; cases (show (none : Option (Int32 × MW)) = some o from h)
        | succ n0 ih0 =>
          intro v4_35 v3_35 w_35 H locs ls h hW hl
          have J1 : ∀ (v4_48 : Int32) (v3_48 : Int32) (t0_48 : Int32) (t1_48 : Int32) (w_48 : MW) (H : Heap) (locs : List Loc) (ls : Array Slot), f_X6_whatIs_48 (fun a0 a1 a2 => f_X6_whatIs_35 x2 x1 n0 a0 a1 a2) x1 x2 v4_48 v3_48 t0_48 t1_48 w_48 = some o → Wd G A0 s (cMW G q w_48) H locs → lv_has ls 5 [(4, .int v4_48), (3, .int v3_48), (0, .ref (q 0)), (1, .int x1), (2, .int x2)] → W p l e rmX6_whatIs s m ([.ref (q 0), .int x1, .int x2] : List Value).toArray below meth c H locs 0 0 (Qi below G (cMW G q o.2) o.1 A0 ([.ref (q 0), .int x1, .int x2] : List Value).toArray s) (F0 m 48 ls [.int t0_48, .int t1_48]) := by
            intro v4_48 v3_48 t0_48 t1_48 w_48 H locs ls h hW hl
            obtain ⟨ht_48, hf_48⟩ := of_ite h
            refine lv_icmp_ge (tgt := 98) hx hb dX6_whatIs_48 (by decide) (fun c_48 => ?_) (fun c_48 => ?_)
            · have h := ht_48 c_48
              refine lv_iload_n hx hb dX6_whatIs_98 rfl (lv_at hl 1 rfl) ?_
              obtain rfl := Option.some.inj h
              exact x_reti F hr hW rfl dX6_whatIs_99
            · have h := hf_48 c_48
              refine lv_aload_n hx hb dX6_whatIs_51 rfl (lv_at hl 2 rfl) ?_
              refine x_get F hW 0 rfl fa_X6_9 rfl dX6_whatIs_52 ?_
              refine lv_aload_n hx hb dX6_whatIs_55 rfl (lv_at hl 2 rfl) ?_
              refine x_get F hW 0 rfl fa_X6_13 rfl dX6_whatIs_56 ?_
              obtain ⟨p_59, hc_59, h⟩ := of_bind h
              refine x_Sv (av := [.ref (q 1), .ref (q 2)]) F hW (c_X6_copies l G (fun i => q (i + 1)) w_48.1 (fun i => q (i + 2)) w_48.2.1 _ hc_59) [1, 2] rfl rfl (by intro q; cases q) cs_X6_134 rfl rfl hl (Nat.le_of_ble_eq_true rfl) ⟨Nat.le_of_ble_eq_true rfl, Nat.le_of_ble_eq_true rfl⟩ ⟨rfl, rfl⟩ ⟨Nat.le_of_ble_eq_true rfl, Nat.le_of_ble_eq_true rfl⟩ dX6_whatIs_59 rfl [none, some 0, some 1, none, none, none, none, none, none, none] rfl (ws' := cMW G q (w_48.1, p_59, w_48.2.2.1, w_48.2.2.2.1, w_48.2.2.2.2.1, w_48.2.2.2.2.2.1, w_48.2.2.2.2.2.2.1, w_48.2.2.2.2.2.2.2.1, w_48.2.2.2.2.2.2.2.2.1, w_48.2.2.2.2.2.2.2.2.2.1, w_48.2.2.2.2.2.2.2.2.2.2.1, w_48.2.2.2.2.2.2.2.2.2.2.2.1, w_48.2.2.2.2.2.2.2.2.2.2.2.2.1, w_48.2.2.2.2.2.2.2.2.2.2.2.2.2)) rfl (fun H locs hW => ?_)
              refine lv_aload_n hx hb dX6_whatIs_62 rfl (lv_at hl 2 rfl) ?_
              refine x_get F hW 0 rfl fa_X6_13 rfl dX6_whatIs_63 ?_
              refine lv_iload_n hx hb dX6_whatIs_66 rfl (lv_at hl 3 rfl) ?_
              refine lv_iload_n hx hb dX6_whatIs_67 rfl (lv_at hl 4 rfl) ?_
              obtain ⟨p_68, hc_68, h⟩ := of_bind h
              refine x_Si (av := [.int x1, .int x2]) F hW (c_X6_of l G x1 x2 _ hc_68) [] rfl rfl (by intro q; cases q) cs_X6_47 rfl rfl hl (Nat.le_of_ble_eq_true rfl) ⟨Nat.le_of_ble_eq_true rfl, Nat.le_of_ble_eq_true rfl⟩ ⟨rfl, rfl⟩ ⟨Nat.le_of_ble_eq_true rfl, Nat.le_of_ble_eq_true rfl⟩ dX6_whatIs_68 rfl [none, none, none, none, none, none, none, none, none, none] rfl (ws' := cMW G q (w_48.1, p_59, w_48.2.2.1, w_48.2.2.2.1, w_48.2.2.2.2.1, w_48.2.2.2.2.2.1, w_48.2.2.2.2.2.2.1, w_48.2.2.2.2.2.2.2.1, w_48.2.2.2.2.2.2.2.2.1, w_48.2.2.2.2.2.2.2.2.2.1, w_48.2.2.2.2.2.2.2.2.2.2.1, w_48.2.2.2.2.2.2.2.2.2.2.2.1, w_48.2.2.2.2.2.2.2.2.2.2.2.2.1, w_48.2.2.2.2.2.2.2.2.2.2.2.2.2)) rfl (fun H locs hW => ?_)
              refine lv_iload hx hb dX6_whatIs_71 (lv_at hl 0 rfl) ?_
              obtain ⟨g_73, h⟩ := of_guard h
              refine x_iast F hW 2 rfl g_73 (ws' := cMW G q (w_48.1, (upd p_59 p_68.toNatClampNeg v4_48), w_48.2.2.1, w_48.2.2.2.1, w_48.2.2.2.2.1, w_48.2.2.2.2.2.1, w_48.2.2.2.2.2.2.1, w_48.2.2.2.2.2.2.2.1, w_48.2.2.2.2.2.2.2.2.1, w_48.2.2.2.2.2.2.2.2.2.1, w_48.2.2.2.2.2.2.2.2.2.2.1, w_48.2.2.2.2.2.2.2.2.2.2.2.1, w_48.2.2.2.2.2.2.2.2.2.2.2.2.1, w_48.2.2.2.2.2.2.2.2.2.2.2.2.2)) rfl dX6_whatIs_73 (fun H locs hW => ?_)
              refine lv_iload_n hx hb dX6_whatIs_74 rfl (lv_at hl 1 rfl) ?_
              refine lv_aload_n hx hb dX6_whatIs_75 rfl (lv_at hl 2 rfl) ?_
              obtain ⟨p_76, hc_76, h⟩ := of_bind h
              refine x_Vi (av := [.ref (q 0)]) (As := []) F hW (c_X6_isHangSo l G q (w_48.1, (upd p_59 p_68.toNatClampNeg v4_48), w_48.2.2.1, w_48.2.2.2.1, w_48.2.2.2.2.1, w_48.2.2.2.2.2.1, w_48.2.2.2.2.2.2.1, w_48.2.2.2.2.2.2.2.1, w_48.2.2.2.2.2.2.2.2.1, w_48.2.2.2.2.2.2.2.2.2.1, w_48.2.2.2.2.2.2.2.2.2.2.1, w_48.2.2.2.2.2.2.2.2.2.2.2.1, w_48.2.2.2.2.2.2.2.2.2.2.2.2.1, w_48.2.2.2.2.2.2.2.2.2.2.2.2.2) _ hc_76) [0, 1, 2, 3, 4, 5, 6, 7, 8, 9] rfl rfl (by intro q; cases q) cv_X6_200 rfl ⟨_, rfl, rfl⟩ rfl rfl rfl hl (Nat.le_of_ble_eq_true rfl) ⟨Nat.le_of_ble_eq_true rfl, Nat.le_of_ble_eq_true rfl⟩ ⟨rfl, rfl⟩ ⟨Nat.le_of_ble_eq_true rfl, Nat.le_of_ble_eq_true rfl⟩ dX6_whatIs_76 rfl [some 0, some 1, some 2, some 3, some 4, some 5, some 6, some 7, some 8, some 9] rfl (ws' := cMW G q p_76.2) rfl (fun H locs hW => ?_)
              obtain ⟨ht_79, hf_79⟩ := of_ite h
              refine lv_if_eq (tgt := 89) hx hb dX6_whatIs_79 (by decide) (fun c_79 => ?_) (fun c_79 => ?_)
              · have h := ht_79 c_79
                refine lv_iconst (v := (0 : Int32)) hx hb dX6_whatIs_89 (by decide) ?_
                refine lv_ior hx hb dX6_whatIs_90 ?_
                obtain ⟨x_91, e_x_91, h⟩ := of_nm h
                refine x_topi e_x_91 ?_
                refine lv_istore_n (lv' := [(3, .int x_91), (4, .int v4_48), (0, .ref (q 0)), (1, .int x1), (2, .int x2)]) hx hb dX6_whatIs_91 rfl hl (by decide) rfl (fun ls hl => ?_)
                refine lv_iinc (v := (v4_48 + (1 : Int32))) (lv' := [(4, .int (v4_48 + (1 : Int32))), (3, .int x_91), (0, .ref (q 0)), (1, .int x1), (2, .int x2)]) hx hb dX6_whatIs_92 hl (k := 1) rfl rfl (by decide) rfl (fun ls hl => ?_)
                refine lv_goto (tgt := 35) hx hb dX6_whatIs_95 (by decide) ?_
                exact ih0 (v4_48 + (1 : Int32)) x_91 p_76.2 _ _ _ h hW (lv_sub hl [0, 1, 2, 3, 4] rfl)
              · have h := hf_79 c_79
                refine lv_iconst (v := (1 : Int32)) hx hb dX6_whatIs_82 (by decide) ?_
                refine lv_iload hx hb dX6_whatIs_83 (lv_at hl 0 rfl) ?_
                refine lv_ishl hx hb dX6_whatIs_85 ?_
                refine lv_goto (tgt := 90) hx hb dX6_whatIs_86 (by decide) ?_
                refine lv_ior hx hb dX6_whatIs_90 ?_
                obtain ⟨x_91_2, e_x_91_2, h⟩ := of_nm h
                refine x_topi e_x_91_2 ?_
                refine lv_istore_n (lv' := [(3, .int x_91_2), (4, .int v4_48), (0, .ref (q 0)), (1, .int x1), (2, .int x2)]) hx hb dX6_whatIs_91 rfl hl (by decide) rfl (fun ls hl => ?_)
                refine lv_iinc (v := (v4_48 + (1 : Int32))) (lv' := [(4, .int (v4_48 + (1 : Int32))), (3, .int x_91_2), (0, .ref (q 0)), (1, .int x1), (2, .int x2)]) hx hb dX6_whatIs_92 hl (k := 1) rfl rfl (by decide) rfl (fun ls hl => ?_)
                refine lv_goto (tgt := 35) hx hb dX6_whatIs_95 (by decide) ?_
                exact ih0 (v4_48 + (1 : Int32)) x_91_2 p_76.2 _ _ _ h hW (lv_sub hl [0, 1, 2, 3, 4] rfl)
          refine lv_iload hx hb dX6_whatIs_35 (lv_at hl 0 rfl) ?_
          refine lv_iload_n hx hb dX6_whatIs_37 rfl (lv_at hl 4 rfl) ?_
          obtain ⟨ht_38, hf_38⟩ := of_ite h
          refine lv_if_ne (tgt := 46) hx hb dX6_whatIs_38 (by decide) (fun c_38 => ?_) (fun c_38 => ?_)
          · have h := hf_38 c_38
            refine lv_bipush (v := (10 : Int32)) hx hb dX6_whatIs_46 (by decide) ?_
            exact J1 v4_35 v3_35 (10 : Int32) v4_35 w_35 _ _ _ h hW (lv_sub hl [0, 1, 2, 3, 4] rfl)
          · have h := ht_38 c_38
            refine lv_bipush (v := (6 : Int32)) hx hb dX6_whatIs_41 (by decide) ?_
            refine lv_goto (tgt := 48) hx hb dX6_whatIs_43 (by decide) ?_
            exact J1 v4_35 v3_35 (6 : Int32) v4_35 w_35 _ _ _ h hW (lv_sub hl [0, 1, 2, 3, 4] rfl)
      exact L0 200 (0 : Int32) (0 : Int32) w _ _ _ h hW (lv_sub hl [0, 1, 2, 3, 4] rfl)
    · have h := ht_20 c_20
      refine lv_aload_n hx hb dX6_whatIs_23 rfl (lv_at hl 0 rfl) ?_
      refine lv_bipush (v := (-2 : Int32)) hx hb dX6_whatIs_24 (by decide) ?_
      obtain ⟨p_26, hc_26, h⟩ := of_bind h
      refine x_Vi (av := [.ref (q 0), .int (-2 : Int32)]) (As := [.int (-2 : Int32)]) F hW (c_X6_no l G q w (-2 : Int32) _ hc_26) [0, 1, 2, 3, 4, 5, 6, 7, 8, 9] rfl rfl (by intro q; cases q) cv_X6_39 rfl ⟨_, rfl, rfl⟩ rfl rfl rfl hl (Nat.le_of_ble_eq_true rfl) ⟨Nat.le_of_ble_eq_true rfl, Nat.le_of_ble_eq_true rfl⟩ ⟨rfl, rfl⟩ ⟨Nat.le_of_ble_eq_true rfl, Nat.le_of_ble_eq_true rfl⟩ dX6_whatIs_26 rfl [some 0, some 1, some 2, some 3, some 4, some 5, some 6, some 7, some 8, some 9] rfl (ws' := cMW G q p_26.2) rfl (fun H locs hW => ?_)
      obtain rfl := Option.some.inj h
      exact x_reti F hr hW rfl dX6_whatIs_29
  · have h := ht_5 c_5
    refine lv_aload_n hx hb dX6_whatIs_8 rfl (lv_at hl 0 rfl) ?_
    refine lv_iconst (v := (-1 : Int32)) hx hb dX6_whatIs_9 (by decide) ?_
    obtain ⟨p_10, hc_10, h⟩ := of_bind h
    refine x_Vi (av := [.ref (q 0), .int (-1 : Int32)]) (As := [.int (-1 : Int32)]) F hW (c_X6_no l G q w (-1 : Int32) _ hc_10) [0, 1, 2, 3, 4, 5, 6, 7, 8, 9] rfl rfl (by intro q; cases q) cv_X6_39 rfl ⟨_, rfl, rfl⟩ rfl rfl rfl hl (Nat.le_of_ble_eq_true rfl) ⟨Nat.le_of_ble_eq_true rfl, Nat.le_of_ble_eq_true rfl⟩ ⟨rfl, rfl⟩ ⟨Nat.le_of_ble_eq_true rfl, Nat.le_of_ble_eq_true rfl⟩ dX6_whatIs_10 rfl [some 0, some 1, some 2, some 3, some 4, some 5, some 6, some 7, some 8, some 9] rfl (ws' := cMW G q p_10.2) rfl (fun H locs hW => ?_)
    obtain rfl := Option.some.inj h
    exact x_reti F hr hW rfl dX6_whatIs_13
def f_X6_row_24 (x1 : Int32) (v2_24 : Int32) (w_24 : MW) : Option (Int32 × MW) :=
  if v2_24 = 0 then
    if inR w_24.2.2.2.2.2.2.2.2.2.2.2.1 16 then
    some ((w_24.2.2.2.2.2.2.2.2.2.2.2.1 + (1 : Int32)), (w_24.1, w_24.2.1, w_24.2.2.1, w_24.2.2.2.1, w_24.2.2.2.2.1, (upd w_24.2.2.2.2.2.1 w_24.2.2.2.2.2.2.2.2.2.2.2.1.toNatClampNeg x1), w_24.2.2.2.2.2.2.1, w_24.2.2.2.2.2.2.2.1, w_24.2.2.2.2.2.2.2.2.1, w_24.2.2.2.2.2.2.2.2.2.1, w_24.2.2.2.2.2.2.2.2.2.2.1, (w_24.2.2.2.2.2.2.2.2.2.2.2.1 + (1 : Int32)), w_24.2.2.2.2.2.2.2.2.2.2.2.2.1, w_24.2.2.2.2.2.2.2.2.2.2.2.2.2))
    else none
    else
    Option.bind (f_X6_no w_24 v2_24) fun p_30 =>
    some (p_30.1, p_30.2)
def f_X6_row (w : MW) (x1 : Int32) : Option (Int32 × MW) :=
  Option.bind (f_X6_wrongBy x1 (0 : Int32) (99 : Int32)) fun p_4 =>
    if p_4 = 0 then
    if w.2.2.2.2.2.2.2.2.2.2.2.1 = (16 : Int32) then
    f_X6_row_24 x1 (-6 : Int32) w
    else
    f_X6_row_24 x1 p_4 w
    else
    f_X6_row_24 x1 p_4 w
abbrev rmX6_row : Room := { frames := 1, cells := 0, slots := 0, locals := 22 }
set_option maxRecDepth 100000 in
set_option maxHeartbeats 4000000 in
theorem c_X6_row (l : Launch) (G : EnT) (q : Nat → Nat) (w : MW) (x1 : Int32) (o : Int32 × MW) (h : f_X6_row w x1 = some o) : Mi l yX6_row rmX6_row cX6_row 3 (some .int) G false [.ref (q 0), .int x1] (cMW G q w) o.1 (cMW G q o.2) := by
  refine Mi_of (by decide) (Nat.le_of_ble_eq_true rfl) ?_
  intro p e s m below meth c A0 F hr hW ls hl
  obtain ⟨hx, hb, hml, hown, hts, hK, hNW, hlocks, hA, hSX⟩ := id F
  have hl : lv_has ls 3 [(0, .ref (q 0)), (1, .int x1)] := hl
  have hW : Wd G A0 s (cMW G q w) s.heap [] := hW
  show W p l e rmX6_row s m ([.ref (q 0), .int x1] : List Value).toArray below meth c s.heap [] 0 0 (Qi below G (cMW G q o.2) o.1 A0 ([.ref (q 0), .int x1] : List Value).toArray s) (F0 m 0 ls [])
  have J0 : ∀ (v2_24 : Int32) (w_24 : MW) (H : Heap) (locs : List Loc) (ls : Array Slot), f_X6_row_24 x1 v2_24 w_24 = some o → Wd G A0 s (cMW G q w_24) H locs → lv_has ls 3 [(2, .int v2_24), (0, .ref (q 0)), (1, .int x1)] → W p l e rmX6_row s m ([.ref (q 0), .int x1] : List Value).toArray below meth c H locs 0 0 (Qi below G (cMW G q o.2) o.1 A0 ([.ref (q 0), .int x1] : List Value).toArray s) (F0 m 24 ls []) := by
    intro v2_24 w_24 H locs ls h hW hl
    refine lv_iload_n hx hb dX6_row_24 rfl (lv_at hl 0 rfl) ?_
    obtain ⟨ht_25, hf_25⟩ := of_ite h
    refine lv_if_eq (tgt := 34) hx hb dX6_row_25 (by decide) (fun c_25 => ?_) (fun c_25 => ?_)
    · have h := ht_25 c_25
      refine lv_aload_n hx hb dX6_row_34 rfl (lv_at hl 1 rfl) ?_
      refine x_get F hW 0 rfl fa_X6_25 rfl dX6_row_35 ?_
      refine lv_aload_n hx hb dX6_row_38 rfl (lv_at hl 1 rfl) ?_
      refine x_get F hW 0 rfl fa_X6_197 rfl dX6_row_39 ?_
      refine lv_iload_n hx hb dX6_row_42 rfl (lv_at hl 2 rfl) ?_
      obtain ⟨g_43, h⟩ := of_guard h
      refine x_iast F hW 6 rfl g_43 (ws' := cMW G q (w_24.1, w_24.2.1, w_24.2.2.1, w_24.2.2.2.1, w_24.2.2.2.2.1, (upd w_24.2.2.2.2.2.1 w_24.2.2.2.2.2.2.2.2.2.2.2.1.toNatClampNeg x1), w_24.2.2.2.2.2.2.1, w_24.2.2.2.2.2.2.2.1, w_24.2.2.2.2.2.2.2.2.1, w_24.2.2.2.2.2.2.2.2.2.1, w_24.2.2.2.2.2.2.2.2.2.2.1, w_24.2.2.2.2.2.2.2.2.2.2.2.1, w_24.2.2.2.2.2.2.2.2.2.2.2.2.1, w_24.2.2.2.2.2.2.2.2.2.2.2.2.2)) rfl dX6_row_43 (fun H locs hW => ?_)
      refine lv_aload_n hx hb dX6_row_44 rfl (lv_at hl 1 rfl) ?_
      refine lv_dup hx hb dX6_row_45 rfl ?_
      refine x_get F hW 0 rfl fa_X6_197 rfl dX6_row_46 ?_
      refine lv_iconst (v := (1 : Int32)) hx hb dX6_row_49 (by decide) ?_
      refine lv_iadd hx hb dX6_row_50 ?_
      refine x_put F hW 0 rfl fp_X6_197 rfl rfl (Nat.le_of_ble_eq_true rfl) (ws' := cMW G q (w_24.1, w_24.2.1, w_24.2.2.1, w_24.2.2.2.1, w_24.2.2.2.2.1, (upd w_24.2.2.2.2.2.1 w_24.2.2.2.2.2.2.2.2.2.2.2.1.toNatClampNeg x1), w_24.2.2.2.2.2.2.1, w_24.2.2.2.2.2.2.2.1, w_24.2.2.2.2.2.2.2.2.1, w_24.2.2.2.2.2.2.2.2.2.1, w_24.2.2.2.2.2.2.2.2.2.2.1, (w_24.2.2.2.2.2.2.2.2.2.2.2.1 + (1 : Int32)), w_24.2.2.2.2.2.2.2.2.2.2.2.2.1, w_24.2.2.2.2.2.2.2.2.2.2.2.2.2)) rfl dX6_row_51 (fun H locs hW => ?_)
      refine lv_aload_n hx hb dX6_row_54 rfl (lv_at hl 1 rfl) ?_
      refine x_get F hW 0 rfl fa_X6_197 rfl dX6_row_55 ?_
      obtain rfl := Option.some.inj h
      exact x_reti F hr hW rfl dX6_row_58
    · have h := hf_25 c_25
      refine lv_aload_n hx hb dX6_row_28 rfl (lv_at hl 1 rfl) ?_
      refine lv_iload_n hx hb dX6_row_29 rfl (lv_at hl 0 rfl) ?_
      obtain ⟨p_30, hc_30, h⟩ := of_bind h
      refine x_Vi (av := [.ref (q 0), .int v2_24]) (As := [.int v2_24]) F hW (c_X6_no l G q w_24 v2_24 _ hc_30) [0, 1, 2, 3, 4, 5, 6, 7, 8, 9] rfl rfl (by intro q; cases q) cv_X6_39 rfl ⟨_, rfl, rfl⟩ rfl rfl rfl hl (Nat.le_of_ble_eq_true rfl) ⟨Nat.le_of_ble_eq_true rfl, Nat.le_of_ble_eq_true rfl⟩ ⟨rfl, rfl⟩ ⟨Nat.le_of_ble_eq_true rfl, Nat.le_of_ble_eq_true rfl⟩ dX6_row_30 rfl [some 0, some 1, some 2, some 3, some 4, some 5, some 6, some 7, some 8, some 9] rfl (ws' := cMW G q p_30.2) rfl (fun H locs hW => ?_)
      obtain rfl := Option.some.inj h
      exact x_reti F hr hW rfl dX6_row_33
  refine lv_iload_n hx hb dX6_row_0 rfl (lv_at hl 1 rfl) ?_
  refine lv_iconst (v := (0 : Int32)) hx hb dX6_row_1 (by decide) ?_
  refine lv_bipush (v := (99 : Int32)) hx hb dX6_row_2 (by decide) ?_
  obtain ⟨p_4, hc_4, h⟩ := of_bind h
  refine x_Si (av := [.int x1, .int (0 : Int32), .int (99 : Int32)]) F hW (c_X6_wrongBy l G x1 (0 : Int32) (99 : Int32) _ hc_4) [] rfl rfl (by intro q; cases q) cs_X6_141 rfl rfl hl (Nat.le_of_ble_eq_true rfl) ⟨Nat.le_of_ble_eq_true rfl, Nat.le_of_ble_eq_true rfl⟩ ⟨rfl, rfl⟩ ⟨Nat.le_of_ble_eq_true rfl, Nat.le_of_ble_eq_true rfl⟩ dX6_row_4 rfl [none, none, none, none, none, none, none, none, none, none] rfl (ws' := cMW G q w) rfl (fun H locs hW => ?_)
  refine lv_istore_n (lv' := [(2, .int p_4), (0, .ref (q 0)), (1, .int x1)]) hx hb dX6_row_7 rfl hl (by decide) rfl (fun ls hl => ?_)
  refine lv_iload_n hx hb dX6_row_8 rfl (lv_at hl 0 rfl) ?_
  obtain ⟨ht_9, hf_9⟩ := of_ite h
  refine lv_if_ne (tgt := 24) hx hb dX6_row_9 (by decide) (fun c_9 => ?_) (fun c_9 => ?_)
  · have h := hf_9 c_9
    exact J0 p_4 w _ _ _ h hW (lv_sub hl [0, 1, 2] rfl)
  · have h := ht_9 c_9
    refine lv_aload_n hx hb dX6_row_12 rfl (lv_at hl 1 rfl) ?_
    refine x_get F hW 0 rfl fa_X6_197 rfl dX6_row_13 ?_
    refine lv_bipush (v := (16 : Int32)) hx hb dX6_row_16 (by decide) ?_
    obtain ⟨ht_18, hf_18⟩ := of_ite h
    refine lv_icmp_ne (tgt := 24) hx hb dX6_row_18 (by decide) (fun c_18 => ?_) (fun c_18 => ?_)
    · have h := hf_18 c_18
      exact J0 p_4 w _ _ _ h hW (lv_sub hl [0, 1, 2] rfl)
    · have h := ht_18 c_18
      refine lv_bipush (v := (-6 : Int32)) hx hb dX6_row_21 (by decide) ?_
      refine lv_istore_n (lv' := [(2, .int (-6 : Int32)), (0, .ref (q 0)), (1, .int x1)]) hx hb dX6_row_23 rfl hl (by decide) rfl (fun ls hl => ?_)
      exact J0 (-6 : Int32) w _ _ _ h hW (lv_sub hl [0, 1, 2] rfl)
def f_X6_judge_12 (x_4 : Int32) : Nat → Int32 → MW → Option (Int32 × MW)
  | 0, _, _ => none
  | n0 + 1, v2_12, w_12 =>
    if x_4 ≤ v2_12 then
    some ((-9 : Int32), w_12)
    else
    if inR ((3 : Int32) + v2_12) 71 then
    if inR v2_12 16 then
    if (w_12.1 ((3 : Int32) + v2_12).toNatClampNeg) = (w_12.2.2.2.2.2.1 v2_12.toNatClampNeg) then
    f_X6_judge_12 x_4 n0 (v2_12 + (1 : Int32)) w_12
    else
    some (v2_12, w_12)
    else none
    else none
def f_X6_judge (w : MW) : Option (Int32 × MW) :=
  nm w.2.2.2.2.2.2.2.2.2.2.2.1 fun x_4 =>
    f_X6_judge_12 x_4 200 (0 : Int32) (w.1, w.2.1, w.2.2.1, w.2.2.2.1, w.2.2.2.2.1, w.2.2.2.2.2.1, w.2.2.2.2.2.2.1, w.2.2.2.2.2.2.2.1, w.2.2.2.2.2.2.2.2.1, w.2.2.2.2.2.2.2.2.2.1, w.2.2.2.2.2.2.2.2.2.2.1, (0 : Int32), w.2.2.2.2.2.2.2.2.2.2.2.2.1, w.2.2.2.2.2.2.2.2.2.2.2.2.2)
abbrev rmX6_judge : Room := { frames := 0, cells := 0, slots := 0, locals := 0 }
set_option maxRecDepth 100000 in
set_option maxHeartbeats 4000000 in
theorem c_X6_judge (l : Launch) (G : EnT) (q : Nat → Nat) (w : MW) (o : Int32 × MW) (h : f_X6_judge w = some o) : Mi l yX6_judge rmX6_judge cX6_judge 3 (some .int) G false [.ref (q 0)] (cMW G q w) o.1 (cMW G q o.2) := by
  refine Mi_of (by decide) (Nat.le_of_ble_eq_true rfl) ?_
  intro p e s m below meth c A0 F hr hW ls hl
  obtain ⟨hx, hb, hml, hown, hts, hK, hNW, hlocks, hA, hSX⟩ := id F
  have hl : lv_has ls 3 [(0, .ref (q 0))] := hl
  have hW : Wd G A0 s (cMW G q w) s.heap [] := hW
  show W p l e rmX6_judge s m ([.ref (q 0)] : List Value).toArray below meth c s.heap [] 0 0 (Qi below G (cMW G q o.2) o.1 A0 ([.ref (q 0)] : List Value).toArray s) (F0 m 0 ls [])
  refine lv_aload_n hx hb dX6_judge_0 rfl (lv_at hl 0 rfl) ?_
  refine x_get F hW 0 rfl fa_X6_197 rfl dX6_judge_1 ?_
  obtain ⟨x_4, e_x_4, h⟩ := of_nm h
  refine x_topi e_x_4 ?_
  refine lv_istore_n (lv' := [(1, .int x_4), (0, .ref (q 0))]) hx hb dX6_judge_4 rfl hl (by decide) rfl (fun ls hl => ?_)
  refine lv_aload_n hx hb dX6_judge_5 rfl (lv_at hl 1 rfl) ?_
  refine lv_iconst (v := (0 : Int32)) hx hb dX6_judge_6 (by decide) ?_
  refine x_put F hW 0 rfl fp_X6_197 rfl rfl (Nat.le_of_ble_eq_true rfl) (ws' := cMW G q (w.1, w.2.1, w.2.2.1, w.2.2.2.1, w.2.2.2.2.1, w.2.2.2.2.2.1, w.2.2.2.2.2.2.1, w.2.2.2.2.2.2.2.1, w.2.2.2.2.2.2.2.2.1, w.2.2.2.2.2.2.2.2.2.1, w.2.2.2.2.2.2.2.2.2.2.1, (0 : Int32), w.2.2.2.2.2.2.2.2.2.2.2.2.1, w.2.2.2.2.2.2.2.2.2.2.2.2.2)) rfl dX6_judge_7 (fun H locs hW => ?_)
  refine lv_iconst (v := (0 : Int32)) hx hb dX6_judge_10 (by decide) ?_
  refine lv_istore_n (lv' := [(2, .int (0 : Int32)), (1, .int x_4), (0, .ref (q 0))]) hx hb dX6_judge_11 rfl hl (by decide) rfl (fun ls hl => ?_)
  have L0 : ∀ (n0 : Nat) (v2_12 : Int32) (w_12 : MW) (H : Heap) (locs : List Loc) (ls : Array Slot), f_X6_judge_12 x_4 n0 v2_12 w_12 = some o → Wd G A0 s (cMW G q w_12) H locs → lv_has ls 3 [(2, .int v2_12), (1, .int x_4), (0, .ref (q 0))] → W p l e rmX6_judge s m ([.ref (q 0)] : List Value).toArray below meth c H locs 0 0 (Qi below G (cMW G q o.2) o.1 A0 ([.ref (q 0)] : List Value).toArray s) (F0 m 12 ls []) := by
    intro n0
    induction n0 with
    | zero => intro v2_12 w_12 H locs ls h; cases (show (none : Option (Int32 × MW)) = some o from h)
    | succ n0 ih0 =>
      intro v2_12 w_12 H locs ls h hW hl
      refine lv_iload_n hx hb dX6_judge_12 rfl (lv_at hl 0 rfl) ?_
      refine lv_iload_n hx hb dX6_judge_13 rfl (lv_at hl 1 rfl) ?_
      obtain ⟨ht_14, hf_14⟩ := of_ite h
      refine lv_icmp_ge (tgt := 42) hx hb dX6_judge_14 (by decide) (fun c_14 => ?_) (fun c_14 => ?_)
      · have h := ht_14 c_14
        refine lv_bipush (v := (-9 : Int32)) hx hb dX6_judge_42 (by decide) ?_
        obtain rfl := Option.some.inj h
        exact x_reti F hr hW rfl dX6_judge_44
      · have h := hf_14 c_14
        refine lv_aload_n hx hb dX6_judge_17 rfl (lv_at hl 2 rfl) ?_
        refine x_get F hW 0 rfl fa_X6_9 rfl dX6_judge_18 ?_
        refine lv_iconst (v := (3 : Int32)) hx hb dX6_judge_21 (by decide) ?_
        refine lv_iload_n hx hb dX6_judge_22 rfl (lv_at hl 0 rfl) ?_
        refine lv_iadd hx hb dX6_judge_23 ?_
        obtain ⟨g_24, h⟩ := of_guard h
        refine x_iald F hW 1 rfl g_24 dX6_judge_24 ?_
        refine lv_aload_n hx hb dX6_judge_25 rfl (lv_at hl 2 rfl) ?_
        refine x_get F hW 0 rfl fa_X6_25 rfl dX6_judge_26 ?_
        refine lv_iload_n hx hb dX6_judge_29 rfl (lv_at hl 0 rfl) ?_
        obtain ⟨g_30, h⟩ := of_guard h
        refine x_iald F hW 6 rfl g_30 dX6_judge_30 ?_
        obtain ⟨ht_31, hf_31⟩ := of_ite h
        refine lv_icmp_eq (tgt := 36) hx hb dX6_judge_31 (by decide) (fun c_31 => ?_) (fun c_31 => ?_)
        · have h := ht_31 c_31
          refine lv_iinc (v := (v2_12 + (1 : Int32))) (lv' := [(2, .int (v2_12 + (1 : Int32))), (1, .int x_4), (0, .ref (q 0))]) hx hb dX6_judge_36 hl (k := 0) rfl rfl (by decide) rfl (fun ls hl => ?_)
          refine lv_goto (tgt := 12) hx hb dX6_judge_39 (by decide) ?_
          exact ih0 (v2_12 + (1 : Int32)) w_12 _ _ _ h hW (lv_sub hl [0, 1, 2] rfl)
        · have h := hf_31 c_31
          refine lv_iload_n hx hb dX6_judge_34 rfl (lv_at hl 0 rfl) ?_
          obtain rfl := Option.some.inj h
          exact x_reti F hr hW rfl dX6_judge_35
  exact L0 200 (0 : Int32) (w.1, w.2.1, w.2.2.1, w.2.2.2.1, w.2.2.2.2.1, w.2.2.2.2.2.1, w.2.2.2.2.2.2.1, w.2.2.2.2.2.2.2.1, w.2.2.2.2.2.2.2.2.1, w.2.2.2.2.2.2.2.2.2.1, w.2.2.2.2.2.2.2.2.2.2.1, (0 : Int32), w.2.2.2.2.2.2.2.2.2.2.2.2.1, w.2.2.2.2.2.2.2.2.2.2.2.2.2) _ _ _ h hW (lv_sub hl [0, 1, 2] rfl)
def f_X6_clear (w : MW) : Option (Int32 × MW) :=
  nm w.2.2.2.2.2.2.2.2.2.2.2.1 fun x_4 =>
    some (x_4, (w.1, w.2.1, w.2.2.1, w.2.2.2.1, w.2.2.2.2.1, w.2.2.2.2.2.1, w.2.2.2.2.2.2.1, w.2.2.2.2.2.2.2.1, w.2.2.2.2.2.2.2.2.1, w.2.2.2.2.2.2.2.2.2.1, w.2.2.2.2.2.2.2.2.2.2.1, (0 : Int32), w.2.2.2.2.2.2.2.2.2.2.2.2.1, w.2.2.2.2.2.2.2.2.2.2.2.2.2))
abbrev rmX6_clear : Room := { frames := 0, cells := 0, slots := 0, locals := 0 }
set_option maxRecDepth 100000 in
set_option maxHeartbeats 4000000 in
theorem c_X6_clear (l : Launch) (G : EnT) (q : Nat → Nat) (w : MW) (o : Int32 × MW) (h : f_X6_clear w = some o) : Mi l yX6_clear rmX6_clear cX6_clear 2 (some .int) G false [.ref (q 0)] (cMW G q w) o.1 (cMW G q o.2) := by
  refine Mi_of (by decide) (Nat.le_of_ble_eq_true rfl) ?_
  intro p e s m below meth c A0 F hr hW ls hl
  obtain ⟨hx, hb, hml, hown, hts, hK, hNW, hlocks, hA, hSX⟩ := id F
  have hl : lv_has ls 2 [(0, .ref (q 0))] := hl
  have hW : Wd G A0 s (cMW G q w) s.heap [] := hW
  show W p l e rmX6_clear s m ([.ref (q 0)] : List Value).toArray below meth c s.heap [] 0 0 (Qi below G (cMW G q o.2) o.1 A0 ([.ref (q 0)] : List Value).toArray s) (F0 m 0 ls [])
  refine lv_aload_n hx hb dX6_clear_0 rfl (lv_at hl 0 rfl) ?_
  refine x_get F hW 0 rfl fa_X6_197 rfl dX6_clear_1 ?_
  obtain ⟨x_4, e_x_4, h⟩ := of_nm h
  refine x_topi e_x_4 ?_
  refine lv_istore_n (lv' := [(1, .int x_4), (0, .ref (q 0))]) hx hb dX6_clear_4 rfl hl (by decide) rfl (fun ls hl => ?_)
  refine lv_aload_n hx hb dX6_clear_5 rfl (lv_at hl 1 rfl) ?_
  refine lv_iconst (v := (0 : Int32)) hx hb dX6_clear_6 (by decide) ?_
  refine x_put F hW 0 rfl fp_X6_197 rfl rfl (Nat.le_of_ble_eq_true rfl) (ws' := cMW G q (w.1, w.2.1, w.2.2.1, w.2.2.2.1, w.2.2.2.2.1, w.2.2.2.2.2.1, w.2.2.2.2.2.2.1, w.2.2.2.2.2.2.2.1, w.2.2.2.2.2.2.2.2.1, w.2.2.2.2.2.2.2.2.2.1, w.2.2.2.2.2.2.2.2.2.2.1, (0 : Int32), w.2.2.2.2.2.2.2.2.2.2.2.2.1, w.2.2.2.2.2.2.2.2.2.2.2.2.2)) rfl dX6_clear_7 (fun H locs hW => ?_)
  refine lv_iload_n hx hb dX6_clear_10 rfl (lv_at hl 0 rfl) ?_
  obtain rfl := Option.some.inj h
  exact x_reti F hr hW rfl dX6_clear_11
def f_X6_drawn (w : MW) (x1 : Int32) : Option (Int32 × MW) :=
  nm ((w.2.2.2.2.2.2.2.2.2.2.2.2.2 * (1664525 : Int32)) + (1013904223 : Int32)) fun x_11 =>
    if x1 = 0 then none else
    some ((remI ((x_11 &&& (2147483647 : Int32)) / (256 : Int32)) x1), (w.1, w.2.1, w.2.2.1, w.2.2.2.1, w.2.2.2.2.1, w.2.2.2.2.2.1, w.2.2.2.2.2.2.1, w.2.2.2.2.2.2.2.1, w.2.2.2.2.2.2.2.2.1, w.2.2.2.2.2.2.2.2.2.1, w.2.2.2.2.2.2.2.2.2.2.1, w.2.2.2.2.2.2.2.2.2.2.2.1, w.2.2.2.2.2.2.2.2.2.2.2.2.1, x_11))
abbrev rmX6_drawn : Room := { frames := 0, cells := 0, slots := 0, locals := 0 }
set_option maxRecDepth 100000 in
set_option maxHeartbeats 4000000 in
theorem c_X6_drawn (l : Launch) (G : EnT) (q : Nat → Nat) (w : MW) (x1 : Int32) (o : Int32 × MW) (h : f_X6_drawn w x1 = some o) : Mi l yX6_drawn rmX6_drawn cX6_drawn 2 (some .int) G false [.ref (q 0), .int x1] (cMW G q w) o.1 (cMW G q o.2) := by
  refine Mi_of (by decide) (Nat.le_of_ble_eq_true rfl) ?_
  intro p e s m below meth c A0 F hr hW ls hl
  obtain ⟨hx, hb, hml, hown, hts, hK, hNW, hlocks, hA, hSX⟩ := id F
  have hl : lv_has ls 2 [(0, .ref (q 0)), (1, .int x1)] := hl
  have hW : Wd G A0 s (cMW G q w) s.heap [] := hW
  show W p l e rmX6_drawn s m ([.ref (q 0), .int x1] : List Value).toArray below meth c s.heap [] 0 0 (Qi below G (cMW G q o.2) o.1 A0 ([.ref (q 0), .int x1] : List Value).toArray s) (F0 m 0 ls [])
  refine lv_aload_n hx hb dX6_drawn_0 rfl (lv_at hl 0 rfl) ?_
  refine lv_aload_n hx hb dX6_drawn_1 rfl (lv_at hl 0 rfl) ?_
  refine x_get F hW 0 rfl fa_X6_203 rfl dX6_drawn_2 ?_
  refine lv_ldc (v := (1664525 : Int32)) hx hb hown (hts _ wd_1231) dX6_drawn_5 ?_
  refine lv_imul hx hb dX6_drawn_7 ?_
  refine lv_ldc (v := (1013904223 : Int32)) hx hb hown (hts _ wd_1232) dX6_drawn_8 ?_
  refine lv_iadd hx hb dX6_drawn_10 ?_
  obtain ⟨x_11, e_x_11, h⟩ := of_nm h
  refine x_topi e_x_11 ?_
  refine x_put F hW 0 rfl fp_X6_203 rfl rfl (Nat.le_of_ble_eq_true rfl) (ws' := cMW G q (w.1, w.2.1, w.2.2.1, w.2.2.2.1, w.2.2.2.2.1, w.2.2.2.2.2.1, w.2.2.2.2.2.2.1, w.2.2.2.2.2.2.2.1, w.2.2.2.2.2.2.2.2.1, w.2.2.2.2.2.2.2.2.2.1, w.2.2.2.2.2.2.2.2.2.2.1, w.2.2.2.2.2.2.2.2.2.2.2.1, w.2.2.2.2.2.2.2.2.2.2.2.2.1, x_11)) rfl dX6_drawn_11 (fun H locs hW => ?_)
  refine lv_aload_n hx hb dX6_drawn_14 rfl (lv_at hl 0 rfl) ?_
  refine x_get F hW 0 rfl fa_X6_203 rfl dX6_drawn_15 ?_
  refine lv_ldc (v := (2147483647 : Int32)) hx hb hown (hts _ wd_1233) dX6_drawn_18 ?_
  refine lv_iand hx hb dX6_drawn_20 ?_
  refine lv_sipush (v := (256 : Int32)) hx hb dX6_drawn_21 (by decide) ?_
  refine lv_idiv hx hb dX6_drawn_24 (by decide) ?_
  refine lv_iload_n hx hb dX6_drawn_25 rfl (lv_at hl 1 rfl) ?_
  obtain ⟨g_26, h⟩ := of_nguard h
  refine lv_irem hx hb dX6_drawn_26 g_26 ?_
  obtain rfl := Option.some.inj h
  exact x_reti F hr hW rfl dX6_drawn_27
