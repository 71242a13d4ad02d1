def f_X4_weighPair_110 (k1 : Int32 → TW → Option (TW)) (x1 : Int32) (x3 : Int32) (v4_56 : Int32) (v5_56 : Int32) (v7_110 : Int32) (v6_110 : Int32) (t0_110 : Int32) (t1_110 : Int32) (t2_110 : Int32) (w_110 : TW) : Option (TW) :=
  if inR t2_110 4 then
    if inR x1 4 then
    Option.bind (f_X5_has v7_110 x3) fun p_125 =>
    if p_125 = 0 then
    if inR x1 4 then
    Option.bind (f_X1_passNight w_110.2.1) fun p_145 =>
    k1 (v6_110 + (1 : Int32)) (w_110.1, p_145, w_110.2.2.1, w_110.2.2.2.1, w_110.2.2.2.2.1, (upd w_110.2.2.2.2.2.1 t2_110.toNatClampNeg (t1_110 + (t0_110 - v4_56))), (upd w_110.2.2.2.2.2.2 x1.toNatClampNeg ((w_110.2.2.2.2.2.2 x1.toNatClampNeg) + ((0 : Int32) - v5_56))))
    else none
    else
    if inR x1 4 then
    Option.bind (f_X1_passNight w_110.2.1) fun p_145_2 =>
    k1 (v6_110 + (1 : Int32)) (w_110.1, p_145_2, w_110.2.2.1, w_110.2.2.2.1, w_110.2.2.2.2.1, (upd w_110.2.2.2.2.2.1 t2_110.toNatClampNeg (t1_110 + (t0_110 - v4_56))), (upd w_110.2.2.2.2.2.2 x1.toNatClampNeg ((w_110.2.2.2.2.2.2 x1.toNatClampNeg) + ((2 : Int32) - v5_56))))
    else none
    else none
    else none
def f_X4_weighPair_76 (x1 : Int32) (x2 : Int32) (x3 : Int32) (v4_56 : Int32) (v5_56 : Int32) : Nat → Int32 → TW → Option (TW)
  | 0, _, _ => none
  | n1 + 1, v6_76, w_76 =>
    if (6 : Int32) ≤ v6_76 then
    some w_76
    else
    Option.bind (f_X4_hangers w_76) fun p_84 =>
    if inR x1 4 then
    Option.bind (f_X5_has p_84 x2) fun p_99 =>
    if p_99 = 0 then
    f_X4_weighPair_110 (fun a0 a1 => f_X4_weighPair_76 x1 x2 x3 v4_56 v5_56 n1 a0 a1) x1 x3 v4_56 v5_56 p_84 v6_76 (0 : Int32) (w_76.2.2.2.2.2.1 x1.toNatClampNeg) x1 w_76
    else
    f_X4_weighPair_110 (fun a0 a1 => f_X4_weighPair_76 x1 x2 x3 v4_56 v5_56 n1 a0 a1) x1 x3 v4_56 v5_56 p_84 v6_76 (2 : Int32) (w_76.2.2.2.2.2.1 x1.toNatClampNeg) x1 w_76
    else none
def f_X4_weighPair_56 (x1 : Int32) (x2 : Int32) (x3 : Int32) (v5_56 : Int32) (v4_56 : Int32) (t0_56 : Int32) (t1_56 : Int32) (w_56 : TW) : Option (TW) :=
  Option.bind (f_X1_putCalled w_56.2.1 t1_56 t0_56) fun p_56 =>
    if inR x1 4 then
    if inR x1 4 then
    f_X4_weighPair_76 x1 x2 x3 v4_56 v5_56 200 (0 : Int32) (w_56.1, p_56, w_56.2.2.1, w_56.2.2.2.1, w_56.2.2.2.2.1, (upd w_56.2.2.2.2.2.1 x1.toNatClampNeg (0 : Int32)), (upd w_56.2.2.2.2.2.2 x1.toNatClampNeg (0 : Int32)))
    else none
    else none
def f_X4_weighPair_37 (x3 : Int32) (x1 : Int32) (x2 : Int32) (v5_37 : Int32) (v4_37 : Int32) (t0_37 : Int32) (t1_37 : Int32) (w_37 : TW) : Option (TW) :=
  Option.bind (f_X1_putCalled w_37.2.1 t1_37 t0_37) fun p_37 =>
    if v5_37 = (1 : Int32) then
    f_X4_weighPair_56 x1 x2 x3 v5_37 v4_37 (1 : Int32) x3 (w_37.1, p_37, w_37.2.2.1, w_37.2.2.2.1, w_37.2.2.2.2.1, w_37.2.2.2.2.2.1, w_37.2.2.2.2.2.2)
    else
    f_X4_weighPair_56 x1 x2 x3 v5_37 v4_37 (0 : Int32) x3 (w_37.1, p_37, w_37.2.2.1, w_37.2.2.2.1, w_37.2.2.2.2.1, w_37.2.2.2.2.2.1, w_37.2.2.2.2.2.2)
def f_X4_weighPair (w : TW) (x1 : Int32) (x2 : Int32) (x3 : Int32) : Option (TW) :=
  nm (x1 / (2 : Int32)) fun x_3 =>
    nm (remI x1 (2 : Int32)) fun x_8 =>
    Option.bind (f_X1_become w.2.1 w.1) fun p_18 =>
    if x_3 = (1 : Int32) then
    f_X4_weighPair_37 x3 x1 x2 x_8 x_3 (1 : Int32) x2 (w.1, p_18, w.2.2.1, w.2.2.2.1, w.2.2.2.2.1, w.2.2.2.2.2.1, w.2.2.2.2.2.2)
    else
    f_X4_weighPair_37 x3 x1 x2 x_8 x_3 (0 : Int32) x2 (w.1, p_18, w.2.2.1, w.2.2.2.1, w.2.2.2.2.1, w.2.2.2.2.2.1, w.2.2.2.2.2.2)
abbrev rmX4_weighPair : Room := { frames := 4, cells := 0, slots := 0, locals := 89 }
set_option maxRecDepth 100000 in
set_option maxHeartbeats 4000000 in
theorem c_X4_weighPair (l : Launch) (G : EnT) (q : Nat → Nat) (w : TW) (x1 : Int32) (x2 : Int32) (x3 : Int32) (o : TW) (h : f_X4_weighPair w x1 x2 x3 = some o) : Mv l yX4_weighPair rmX4_weighPair cX4_weighPair 8 none G false [.ref (q 0), .int x1, .int x2, .int x3] (cTW G q w) (cTW G q o) := by
  refine Mv_of (by decide) (Nat.le_of_ble_eq_true rfl) ?_
  intro p e s m below meth c A0 F hr hW ls hl
  obtain ⟨hx, hb, hml, hown, hts, hK, hNW, hlocks, hA, hSX⟩ := id F
  have hl : lv_has ls 8 [(0, .ref (q 0)), (1, .int x1), (2, .int x2), (3, .int x3)] := hl
  have hW : Wd G A0 s (cTW G q w) s.heap [] := hW
  show W p l e rmX4_weighPair s m ([.ref (q 0), .int x1, .int x2, .int x3] : List Value).toArray below meth c s.heap [] 0 0 (Qv below G (cTW G q o) A0 ([.ref (q 0), .int x1, .int x2, .int x3] : List Value).toArray s) (F0 m 0 ls [])
  have J0 : ∀ (v5_56 : Int32) (v4_56 : Int32) (t0_56 : Int32) (t1_56 : Int32) (w_56 : TW) (H : Heap) (locs : List Loc) (ls : Array Slot), f_X4_weighPair_56 x1 x2 x3 v5_56 v4_56 t0_56 t1_56 w_56 = some o → Wd G A0 s (cTW G q w_56) H locs → lv_has ls 8 [(5, .int v5_56), (4, .int v4_56), (0, .ref (q 0)), (1, .int x1), (2, .int x2), (3, .int x3)] → W p l e rmX4_weighPair s m ([.ref (q 0), .int x1, .int x2, .int x3] : List Value).toArray below meth c H locs 0 0 (Qv below G (cTW G q o) A0 ([.ref (q 0), .int x1, .int x2, .int x3] : List Value).toArray s) (F0 m 56 ls [.int t0_56, .int t1_56, .ref (q 7)]) := by
    intro v5_56 v4_56 t0_56 t1_56 w_56 H locs ls h hW hl
    obtain ⟨p_56, hc_56, h⟩ := of_bind h
    refine x_Vv (av := [.ref (q 7), .int t1_56, .int t0_56]) (As := [.int t1_56, .int t0_56]) F hW (c_X1_putCalled l G (fun i => q (i + 7)) w_56.2.1 t1_56 t0_56 _ hc_56) [7, 8, 9, 10, 11, 12] rfl rfl (by intro q; cases q) cv_X4_176 rfl ⟨_, rfl, rfl⟩ rfl rfl rfl hl (Nat.le_of_ble_eq_true rfl) ⟨Nat.le_of_ble_eq_true rfl, Nat.le_of_ble_eq_true rfl⟩ ⟨rfl, rfl⟩ ⟨Nat.le_of_ble_eq_true rfl, Nat.le_of_ble_eq_true rfl⟩ dX4_weighPair_56 rfl [none, none, none, none, none, none, none, some 0, some 1, some 2, some 3, some 4, some 5, none, none, none, none, none, none, none, none, none] rfl (ws' := cTW G q (w_56.1, p_56, w_56.2.2.1, w_56.2.2.2.1, w_56.2.2.2.2.1, w_56.2.2.2.2.2.1, w_56.2.2.2.2.2.2)) rfl (fun H locs hW => ?_)
    refine lv_aload_n hx hb dX4_weighPair_59 rfl (lv_at hl 2 rfl) ?_
    refine x_get F hW 0 rfl fa_X4_35 rfl dX4_weighPair_60 ?_
    refine lv_iload_n hx hb dX4_weighPair_63 rfl (lv_at hl 3 rfl) ?_
    refine lv_iconst (v := (0 : Int32)) hx hb dX4_weighPair_64 (by decide) ?_
    obtain ⟨g_65, h⟩ := of_guard h
    refine x_iast F hW 20 rfl g_65 (ws' := cTW G q (w_56.1, p_56, w_56.2.2.1, w_56.2.2.2.1, w_56.2.2.2.2.1, (upd w_56.2.2.2.2.2.1 x1.toNatClampNeg (0 : Int32)), w_56.2.2.2.2.2.2)) rfl dX4_weighPair_65 (fun H locs hW => ?_)
    refine lv_aload_n hx hb dX4_weighPair_66 rfl (lv_at hl 2 rfl) ?_
    refine x_get F hW 0 rfl fa_X4_38 rfl dX4_weighPair_67 ?_
    refine lv_iload_n hx hb dX4_weighPair_70 rfl (lv_at hl 3 rfl) ?_
    refine lv_iconst (v := (0 : Int32)) hx hb dX4_weighPair_71 (by decide) ?_
    obtain ⟨g_72, h⟩ := of_guard h
    refine x_iast F hW 21 rfl g_72 (ws' := cTW G q (w_56.1, p_56, w_56.2.2.1, w_56.2.2.2.1, w_56.2.2.2.2.1, (upd w_56.2.2.2.2.2.1 x1.toNatClampNeg (0 : Int32)), (upd w_56.2.2.2.2.2.2 x1.toNatClampNeg (0 : Int32)))) rfl dX4_weighPair_72 (fun H locs hW => ?_)
    refine lv_iconst (v := (0 : Int32)) hx hb dX4_weighPair_73 (by decide) ?_
    refine lv_istore (lv' := [(6, .int (0 : Int32)), (5, .int v5_56), (4, .int v4_56), (0, .ref (q 0)), (1, .int x1), (2, .int x2), (3, .int x3)]) hx hb dX4_weighPair_74 hl (by decide) rfl (fun ls hl => ?_)
    have L1 : ∀ (n1 : Nat) (v6_76 : Int32) (w_76 : TW) (H : Heap) (locs : List Loc) (ls : Array Slot), f_X4_weighPair_76 x1 x2 x3 v4_56 v5_56 n1 v6_76 w_76 = some o → Wd G A0 s (cTW G q w_76) H locs → lv_has ls 8 [(6, .int v6_76), (5, .int v5_56), (4, .int v4_56), (0, .ref (q 0)), (1, .int x1), (2, .int x2), (3, .int x3)] → W p l e rmX4_weighPair s m ([.ref (q 0), .int x1, .int x2, .int x3] : List Value).toArray below meth c H locs 0 0 (Qv below G (cTW G q o) A0 ([.ref (q 0), .int x1, .int x2, .int x3] : List Value).toArray s) (F0 m 76 ls []) := by
      intro n1
      induction n1 with
      | zero => intro v6_76 w_76 H locs ls h; cases (show (none : Option (TW)) = some o from h)
      | succ n1 ih1 =>
        intro v6_76 w_76 H locs ls h hW hl
        have J2 : ∀ (v7_110 : Int32) (v6_110 : Int32) (t0_110 : Int32) (t1_110 : Int32) (t2_110 : Int32) (w_110 : TW) (H : Heap) (locs : List Loc) (ls : Array Slot), f_X4_weighPair_110 (fun a0 a1 => f_X4_weighPair_76 x1 x2 x3 v4_56 v5_56 n1 a0 a1) x1 x3 v4_56 v5_56 v7_110 v6_110 t0_110 t1_110 t2_110 w_110 = some o → Wd G A0 s (cTW G q w_110) H locs → lv_has ls 8 [(7, .int v7_110), (6, .int v6_110), (5, .int v5_56), (4, .int v4_56), (0, .ref (q 0)), (1, .int x1), (2, .int x2), (3, .int x3)] → W p l e rmX4_weighPair s m ([.ref (q 0), .int x1, .int x2, .int x3] : List Value).toArray below meth c H locs 0 0 (Qv below G (cTW G q o) A0 ([.ref (q 0), .int x1, .int x2, .int x3] : List Value).toArray s) (F0 m 110 ls [.int t0_110, .int t1_110, .int t2_110, .ref (q 20)]) := by
          intro v7_110 v6_110 t0_110 t1_110 t2_110 w_110 H locs ls h hW hl
          refine lv_iload hx hb dX4_weighPair_110 (lv_at hl 3 rfl) ?_
          refine lv_isub hx hb dX4_weighPair_112 ?_
          refine lv_iadd hx hb dX4_weighPair_113 ?_
          obtain ⟨g_114, h⟩ := of_guard h
          refine x_iast F hW 20 rfl g_114 (ws' := cTW G q (w_110.1, w_110.2.1, w_110.2.2.1, w_110.2.2.2.1, w_110.2.2.2.2.1, (upd w_110.2.2.2.2.2.1 t2_110.toNatClampNeg (t1_110 + (t0_110 - v4_56))), w_110.2.2.2.2.2.2)) rfl dX4_weighPair_114 (fun H locs hW => ?_)
          refine lv_aload_n hx hb dX4_weighPair_115 rfl (lv_at hl 4 rfl) ?_
          refine x_get F hW 0 rfl fa_X4_38 rfl dX4_weighPair_116 ?_
          refine lv_iload_n hx hb dX4_weighPair_119 rfl (lv_at hl 5 rfl) ?_
          refine lv_dup2_11 hx hb dX4_weighPair_120 rfl rfl ?_
          obtain ⟨g_121, h⟩ := of_guard h
          refine x_iald F hW 21 rfl g_121 dX4_weighPair_121 ?_
          refine lv_iload hx hb dX4_weighPair_122 (lv_at hl 0 rfl) ?_
          refine lv_iload_n hx hb dX4_weighPair_124 rfl (lv_at hl 7 rfl) ?_
          obtain ⟨p_125, hc_125, h⟩ := of_bind h
          refine x_Ni (av := [.int v7_110, .int x3]) F hW (c_X5_has l G v7_110 x3 _ hc_125) [] rfl rfl (by intro q; cases q) cn_X4_80 rfl rfl hl (Nat.le_of_ble_eq_true rfl) ⟨Nat.le_of_ble_eq_true rfl, Nat.le_of_ble_eq_true rfl⟩ ⟨rfl, rfl⟩ ⟨Nat.le_of_ble_eq_true rfl, Nat.le_of_ble_eq_true rfl⟩ dX4_weighPair_125 rfl [none, none, none, none, none, none, none, none, none, none, none, none, none, none, none, none, none, none, none, none, none, none] rfl (ws' := cTW G q (w_110.1, w_110.2.1, w_110.2.2.1, w_110.2.2.2.1, w_110.2.2.2.2.1, (upd w_110.2.2.2.2.2.1 t2_110.toNatClampNeg (t1_110 + (t0_110 - v4_56))), w_110.2.2.2.2.2.2)) rfl (fun H locs hW => ?_)
          obtain ⟨ht_128, hf_128⟩ := of_ite h
          refine lv_if_eq (tgt := 135) hx hb dX4_weighPair_128 (by decide) (fun c_128 => ?_) (fun c_128 => ?_)
          · have h := ht_128 c_128
            refine lv_iconst (v := (0 : Int32)) hx hb dX4_weighPair_135 (by decide) ?_
            refine lv_iload hx hb dX4_weighPair_136 (lv_at hl 2 rfl) ?_
            refine lv_isub hx hb dX4_weighPair_138 ?_
            refine lv_iadd hx hb dX4_weighPair_139 ?_
            obtain ⟨g_140, h⟩ := of_guard h
            refine x_iast F hW 21 rfl g_140 (ws' := cTW G q (w_110.1, w_110.2.1, w_110.2.2.1, w_110.2.2.2.1, w_110.2.2.2.2.1, (upd w_110.2.2.2.2.2.1 t2_110.toNatClampNeg (t1_110 + (t0_110 - v4_56))), (upd w_110.2.2.2.2.2.2 x1.toNatClampNeg ((w_110.2.2.2.2.2.2 x1.toNatClampNeg) + ((0 : Int32) - v5_56))))) rfl dX4_weighPair_140 (fun H locs hW => ?_)
            refine lv_aload_n hx hb dX4_weighPair_141 rfl (lv_at hl 4 rfl) ?_
            refine x_get F hW 0 rfl fa_X4_18 rfl dX4_weighPair_142 ?_
            obtain ⟨p_145, hc_145, h⟩ := of_bind h
            refine x_Vv (av := [.ref (q 7)]) (As := []) F hW (c_X1_passNight l G (fun i => q (i + 7)) w_110.2.1 _ hc_145) [7, 8, 9, 10, 11, 12] rfl rfl (by intro q; cases q) cv_X4_64 rfl ⟨_, rfl, rfl⟩ rfl rfl rfl hl (Nat.le_of_ble_eq_true rfl) ⟨Nat.le_of_ble_eq_true rfl, Nat.le_of_ble_eq_true rfl⟩ ⟨rfl, rfl⟩ ⟨Nat.le_of_ble_eq_true rfl, Nat.le_of_ble_eq_true rfl⟩ dX4_weighPair_145 rfl [none, none, none, none, none, none, none, some 0, some 1, some 2, some 3, some 4, some 5, none, none, none, none, none, none, none, none, none] rfl (ws' := cTW G q (w_110.1, p_145, w_110.2.2.1, w_110.2.2.2.1, w_110.2.2.2.2.1, (upd w_110.2.2.2.2.2.1 t2_110.toNatClampNeg (t1_110 + (t0_110 - v4_56))), (upd w_110.2.2.2.2.2.2 x1.toNatClampNeg ((w_110.2.2.2.2.2.2 x1.toNatClampNeg) + ((0 : Int32) - v5_56))))) rfl (fun H locs hW => ?_)
            refine lv_iinc (v := (v6_110 + (1 : Int32))) (lv' := [(6, .int (v6_110 + (1 : Int32))), (7, .int v7_110), (5, .int v5_56), (4, .int v4_56), (0, .ref (q 0)), (1, .int x1), (2, .int x2), (3, .int x3)]) hx hb dX4_weighPair_148 hl (k := 1) rfl rfl (by decide) rfl (fun ls hl => ?_)
            refine lv_goto (tgt := 76) hx hb dX4_weighPair_151 (by decide) ?_
            exact ih1 (v6_110 + (1 : Int32)) (w_110.1, p_145, w_110.2.2.1, w_110.2.2.2.1, w_110.2.2.2.2.1, (upd w_110.2.2.2.2.2.1 t2_110.toNatClampNeg (t1_110 + (t0_110 - v4_56))), (upd w_110.2.2.2.2.2.2 x1.toNatClampNeg ((w_110.2.2.2.2.2.2 x1.toNatClampNeg) + ((0 : Int32) - v5_56)))) _ _ _ h hW (lv_sub hl [0, 2, 3, 4, 5, 6, 7] rfl)
          · have h := hf_128 c_128
            refine lv_iconst (v := (2 : Int32)) hx hb dX4_weighPair_131 (by decide) ?_
            refine lv_goto (tgt := 136) hx hb dX4_weighPair_132 (by decide) ?_
            refine lv_iload hx hb dX4_weighPair_136 (lv_at hl 2 rfl) ?_
            refine lv_isub hx hb dX4_weighPair_138 ?_
            refine lv_iadd hx hb dX4_weighPair_139 ?_
            obtain ⟨g_140, h⟩ := of_guard h
            refine x_iast F hW 21 rfl g_140 (ws' := cTW G q (w_110.1, w_110.2.1, w_110.2.2.1, w_110.2.2.2.1, w_110.2.2.2.2.1, (upd w_110.2.2.2.2.2.1 t2_110.toNatClampNeg (t1_110 + (t0_110 - v4_56))), (upd w_110.2.2.2.2.2.2 x1.toNatClampNeg ((w_110.2.2.2.2.2.2 x1.toNatClampNeg) + ((2 : Int32) - v5_56))))) rfl dX4_weighPair_140 (fun H locs hW => ?_)
            refine lv_aload_n hx hb dX4_weighPair_141 rfl (lv_at hl 4 rfl) ?_
            refine x_get F hW 0 rfl fa_X4_18 rfl dX4_weighPair_142 ?_
            obtain ⟨p_145_2, hc_145, h⟩ := of_bind h
            refine x_Vv (av := [.ref (q 7)]) (As := []) F hW (c_X1_passNight l G (fun i => q (i + 7)) w_110.2.1 _ hc_145) [7, 8, 9, 10, 11, 12] rfl rfl (by intro q; cases q) cv_X4_64 rfl ⟨_, rfl, rfl⟩ rfl rfl rfl hl (Nat.le_of_ble_eq_true rfl) ⟨Nat.le_of_ble_eq_true rfl, Nat.le_of_ble_eq_true rfl⟩ ⟨rfl, rfl⟩ ⟨Nat.le_of_ble_eq_true rfl, Nat.le_of_ble_eq_true rfl⟩ dX4_weighPair_145 rfl [none, none, none, none, none, none, none, some 0, some 1, some 2, some 3, some 4, some 5, none, none, none, none, none, none, none, none, none] rfl (ws' := cTW G q (w_110.1, p_145_2, w_110.2.2.1, w_110.2.2.2.1, w_110.2.2.2.2.1, (upd w_110.2.2.2.2.2.1 t2_110.toNatClampNeg (t1_110 + (t0_110 - v4_56))), (upd w_110.2.2.2.2.2.2 x1.toNatClampNeg ((w_110.2.2.2.2.2.2 x1.toNatClampNeg) + ((2 : Int32) - v5_56))))) rfl (fun H locs hW => ?_)
            refine lv_iinc (v := (v6_110 + (1 : Int32))) (lv' := [(6, .int (v6_110 + (1 : Int32))), (7, .int v7_110), (5, .int v5_56), (4, .int v4_56), (0, .ref (q 0)), (1, .int x1), (2, .int x2), (3, .int x3)]) hx hb dX4_weighPair_148 hl (k := 1) rfl rfl (by decide) rfl (fun ls hl => ?_)
            refine lv_goto (tgt := 76) hx hb dX4_weighPair_151 (by decide) ?_
            exact ih1 (v6_110 + (1 : Int32)) (w_110.1, p_145_2, w_110.2.2.1, w_110.2.2.2.1, w_110.2.2.2.2.1, (upd w_110.2.2.2.2.2.1 t2_110.toNatClampNeg (t1_110 + (t0_110 - v4_56))), (upd w_110.2.2.2.2.2.2 x1.toNatClampNeg ((w_110.2.2.2.2.2.2 x1.toNatClampNeg) + ((2 : Int32) - v5_56)))) _ _ _ h hW (lv_sub hl [0, 2, 3, 4, 5, 6, 7] rfl)
        refine lv_iload hx hb dX4_weighPair_76 (lv_at hl 0 rfl) ?_
        refine lv_bipush (v := (6 : Int32)) hx hb dX4_weighPair_78 (by decide) ?_
        obtain ⟨ht_80, hf_80⟩ := of_ite h
        refine lv_icmp_ge (tgt := 154) hx hb dX4_weighPair_80 (by decide) (fun c_80 => ?_) (fun c_80 => ?_)
        · have h := ht_80 c_80
          obtain rfl := Option.some.inj h
          exact x_retv F hr hW dX4_weighPair_154
        · have h := hf_80 c_80
          refine lv_aload_n hx hb dX4_weighPair_83 rfl (lv_at hl 3 rfl) ?_
          obtain ⟨p_84, hc_84, h⟩ := of_bind h
          refine x_Vi (av := [.ref (q 0)]) (As := []) F hW (c_X4_hangers l G q w_76 _ hc_84) [0, 1, 2, 3, 4, 5, 6, 7, 8, 9, 10, 11, 12, 13, 14, 15, 16, 17, 18, 19, 20, 21] rfl rfl (by intro q; cases q) cv_X4_74 rfl ⟨_, rfl, rfl⟩ rfl rfl rfl hl (Nat.le_of_ble_eq_true rfl) ⟨Nat.le_of_ble_eq_true rfl, Nat.le_of_ble_eq_true rfl⟩ ⟨rfl, rfl⟩ ⟨Nat.le_of_ble_eq_true rfl, Nat.le_of_ble_eq_true rfl⟩ dX4_weighPair_84 rfl [some 0, some 1, some 2, some 3, some 4, some 5, some 6, some 7, some 8, some 9, some 10, some 11, some 12, some 13, some 14, some 15, some 16, some 17, some 18, some 19, some 20, some 21] rfl (ws' := cTW G q w_76) rfl (fun H locs hW => ?_)
          refine lv_istore (lv' := [(7, .int p_84), (6, .int v6_76), (5, .int v5_56), (4, .int v4_56), (0, .ref (q 0)), (1, .int x1), (2, .int x2), (3, .int x3)]) hx hb dX4_weighPair_87 hl (by decide) rfl (fun ls hl => ?_)
          refine lv_aload_n hx hb dX4_weighPair_89 rfl (lv_at hl 4 rfl) ?_
          refine x_get F hW 0 rfl fa_X4_35 rfl dX4_weighPair_90 ?_
          refine lv_iload_n hx hb dX4_weighPair_93 rfl (lv_at hl 5 rfl) ?_
          refine lv_dup2_11 hx hb dX4_weighPair_94 rfl rfl ?_
          obtain ⟨g_95, h⟩ := of_guard h
          refine x_iald F hW 20 rfl g_95 dX4_weighPair_95 ?_
          refine lv_iload hx hb dX4_weighPair_96 (lv_at hl 0 rfl) ?_
          refine lv_iload_n hx hb dX4_weighPair_98 rfl (lv_at hl 6 rfl) ?_
          obtain ⟨p_99, hc_99, h⟩ := of_bind h
          refine x_Ni (av := [.int p_84, .int x2]) F hW (c_X5_has l G p_84 x2 _ hc_99) [] rfl rfl (by intro q; cases q) cn_X4_80 rfl rfl hl (Nat.le_of_ble_eq_true rfl) ⟨Nat.le_of_ble_eq_true rfl, Nat.le_of_ble_eq_true rfl⟩ ⟨rfl, rfl⟩ ⟨Nat.le_of_ble_eq_true rfl, Nat.le_of_ble_eq_true rfl⟩ dX4_weighPair_99 rfl [none, none, none, none, none, none, none, none, none, none, none, none, none, none, none, none, none, none, none, none, none, none] rfl (ws' := cTW G q w_76) rfl (fun H locs hW => ?_)
          obtain ⟨ht_102, hf_102⟩ := of_ite h
          refine lv_if_eq (tgt := 109) hx hb dX4_weighPair_102 (by decide) (fun c_102 => ?_) (fun c_102 => ?_)
          · have h := ht_102 c_102
            refine lv_iconst (v := (0 : Int32)) hx hb dX4_weighPair_109 (by decide) ?_
            exact J2 p_84 v6_76 (0 : Int32) (w_76.2.2.2.2.2.1 x1.toNatClampNeg) x1 w_76 _ _ _ h hW (lv_sub hl [0, 1, 2, 3, 4, 5, 6, 7] rfl)
          · have h := hf_102 c_102
            refine lv_iconst (v := (2 : Int32)) hx hb dX4_weighPair_105 (by decide) ?_
            refine lv_goto (tgt := 110) hx hb dX4_weighPair_106 (by decide) ?_
            exact J2 p_84 v6_76 (2 : Int32) (w_76.2.2.2.2.2.1 x1.toNatClampNeg) x1 w_76 _ _ _ h hW (lv_sub hl [0, 1, 2, 3, 4, 5, 6, 7] rfl)
    exact L1 200 (0 : Int32) (w_56.1, p_56, w_56.2.2.1, w_56.2.2.2.1, w_56.2.2.2.2.1, (upd w_56.2.2.2.2.2.1 x1.toNatClampNeg (0 : Int32)), (upd w_56.2.2.2.2.2.2 x1.toNatClampNeg (0 : Int32))) _ _ _ h hW (lv_sub hl [0, 1, 2, 3, 4, 5, 6] rfl)
  have J3 : ∀ (v5_37 : Int32) (v4_37 : Int32) (t0_37 : Int32) (t1_37 : Int32) (w_37 : TW) (H : Heap) (locs : List Loc) (ls : Array Slot), f_X4_weighPair_37 x3 x1 x2 v5_37 v4_37 t0_37 t1_37 w_37 = some o → Wd G A0 s (cTW G q w_37) H locs → lv_has ls 8 [(5, .int v5_37), (4, .int v4_37), (0, .ref (q 0)), (1, .int x1), (2, .int x2), (3, .int x3)] → W p l e rmX4_weighPair s m ([.ref (q 0), .int x1, .int x2, .int x3] : List Value).toArray below meth c H locs 0 0 (Qv below G (cTW G q o) A0 ([.ref (q 0), .int x1, .int x2, .int x3] : List Value).toArray s) (F0 m 37 ls [.int t0_37, .int t1_37, .ref (q 7)]) := by
    intro v5_37 v4_37 t0_37 t1_37 w_37 H locs ls h hW hl
    obtain ⟨p_37, hc_37, h⟩ := of_bind h
    refine x_Vv (av := [.ref (q 7), .int t1_37, .int t0_37]) (As := [.int t1_37, .int t0_37]) F hW (c_X1_putCalled l G (fun i => q (i + 7)) w_37.2.1 t1_37 t0_37 _ hc_37) [7, 8, 9, 10, 11, 12] rfl rfl (by intro q; cases q) cv_X4_176 rfl ⟨_, rfl, rfl⟩ rfl rfl rfl hl (Nat.le_of_ble_eq_true rfl) ⟨Nat.le_of_ble_eq_true rfl, Nat.le_of_ble_eq_true rfl⟩ ⟨rfl, rfl⟩ ⟨Nat.le_of_ble_eq_true rfl, Nat.le_of_ble_eq_true rfl⟩ dX4_weighPair_37 rfl [none, none, none, none, none, none, none, some 0, some 1, some 2, some 3, some 4, some 5, none, none, none, none, none, none, none, none, none] rfl (ws' := cTW G q (w_37.1, p_37, w_37.2.2.1, w_37.2.2.2.1, w_37.2.2.2.2.1, w_37.2.2.2.2.2.1, w_37.2.2.2.2.2.2)) rfl (fun H locs hW => ?_)
    refine lv_aload_n hx hb dX4_weighPair_40 rfl (lv_at hl 2 rfl) ?_
    refine x_get F hW 0 rfl fa_X4_18 rfl dX4_weighPair_41 ?_
    refine lv_iload_n hx hb dX4_weighPair_44 rfl (lv_at hl 5 rfl) ?_
    refine lv_iload hx hb dX4_weighPair_45 (lv_at hl 0 rfl) ?_
    refine lv_iconst (v := (1 : Int32)) hx hb dX4_weighPair_47 (by decide) ?_
    obtain ⟨ht_48, hf_48⟩ := of_ite h
    refine lv_icmp_ne (tgt := 55) hx hb dX4_weighPair_48 (by decide) (fun c_48 => ?_) (fun c_48 => ?_)
    · have h := hf_48 c_48
      refine lv_iconst (v := (0 : Int32)) hx hb dX4_weighPair_55 (by decide) ?_
      exact J0 v5_37 v4_37 (0 : Int32) x3 (w_37.1, p_37, w_37.2.2.1, w_37.2.2.2.1, w_37.2.2.2.2.1, w_37.2.2.2.2.2.1, w_37.2.2.2.2.2.2) _ _ _ h hW (lv_sub hl [0, 1, 2, 3, 4, 5] rfl)
    · have h := ht_48 c_48
      refine lv_iconst (v := (1 : Int32)) hx hb dX4_weighPair_51 (by decide) ?_
      refine lv_goto (tgt := 56) hx hb dX4_weighPair_52 (by decide) ?_
      exact J0 v5_37 v4_37 (1 : Int32) x3 (w_37.1, p_37, w_37.2.2.1, w_37.2.2.2.1, w_37.2.2.2.2.1, w_37.2.2.2.2.2.1, w_37.2.2.2.2.2.2) _ _ _ h hW (lv_sub hl [0, 1, 2, 3, 4, 5] rfl)
  refine lv_iload_n hx hb dX4_weighPair_0 rfl (lv_at hl 1 rfl) ?_
  refine lv_iconst (v := (2 : Int32)) hx hb dX4_weighPair_1 (by decide) ?_
  refine lv_idiv hx hb dX4_weighPair_2 (by decide) ?_
  obtain ⟨x_3, e_x_3, h⟩ := of_nm h
  refine x_topi e_x_3 ?_
  refine lv_istore (lv' := [(4, .int x_3), (0, .ref (q 0)), (1, .int x1), (2, .int x2), (3, .int x3)]) hx hb dX4_weighPair_3 hl (by decide) rfl (fun ls hl => ?_)
  refine lv_iload_n hx hb dX4_weighPair_5 rfl (lv_at hl 2 rfl) ?_
  refine lv_iconst (v := (2 : Int32)) hx hb dX4_weighPair_6 (by decide) ?_
  refine lv_irem hx hb dX4_weighPair_7 (by decide) ?_
  obtain ⟨x_8, e_x_8, h⟩ := of_nm h
  refine x_topi e_x_8 ?_
  refine lv_istore (lv' := [(5, .int x_8), (4, .int x_3), (0, .ref (q 0)), (1, .int x1), (2, .int x2), (3, .int x3)]) hx hb dX4_weighPair_8 hl (by decide) rfl (fun ls hl => ?_)
  refine lv_aload_n hx hb dX4_weighPair_10 rfl (lv_at hl 2 rfl) ?_
  refine x_get F hW 0 rfl fa_X4_18 rfl dX4_weighPair_11 ?_
  refine lv_aload_n hx hb dX4_weighPair_14 rfl (lv_at hl 2 rfl) ?_
  refine x_get F hW 0 rfl fa_X4_12 rfl dX4_weighPair_15 ?_
  obtain ⟨p_18, hc_18, h⟩ := of_bind h
  refine x_Vv (av := [.ref (q 7), .ref (q 1)]) (As := [.ref (q 1)]) F hW (c_X1_become l G (fun i => q (i + 7)) w.2.1 (fun i => q (i + 1)) w.1 _ hc_18) [7, 8, 9, 10, 11, 12, 1, 2, 3, 4, 5, 6] rfl rfl (by intro q; cases q) cv_X4_41 rfl ⟨_, rfl, rfl⟩ rfl rfl rfl hl (Nat.le_of_ble_eq_true rfl) ⟨Nat.le_of_ble_eq_true rfl, Nat.le_of_ble_eq_true rfl⟩ ⟨rfl, rfl⟩ ⟨Nat.le_of_ble_eq_true rfl, Nat.le_of_ble_eq_true rfl⟩ dX4_weighPair_18 rfl [none, some 6, some 7, some 8, some 9, some 10, some 11, some 0, some 1, some 2, some 3, some 4, some 5, none, none, none, none, none, none, none, none, none] rfl (ws' := cTW G q (w.1, p_18, w.2.2.1, w.2.2.2.1, w.2.2.2.2.1, w.2.2.2.2.2.1, w.2.2.2.2.2.2)) rfl (fun H locs hW => ?_)
  refine lv_aload_n hx hb dX4_weighPair_21 rfl (lv_at hl 2 rfl) ?_
  refine x_get F hW 0 rfl fa_X4_18 rfl dX4_weighPair_22 ?_
  refine lv_iload_n hx hb dX4_weighPair_25 rfl (lv_at hl 4 rfl) ?_
  refine lv_iload hx hb dX4_weighPair_26 (lv_at hl 1 rfl) ?_
  refine lv_iconst (v := (1 : Int32)) hx hb dX4_weighPair_28 (by decide) ?_
  obtain ⟨ht_29, hf_29⟩ := of_ite h
  refine lv_icmp_ne (tgt := 36) hx hb dX4_weighPair_29 (by decide) (fun c_29 => ?_) (fun c_29 => ?_)
  · have h := hf_29 c_29
    refine lv_iconst (v := (0 : Int32)) hx hb dX4_weighPair_36 (by decide) ?_
    exact J3 x_8 x_3 (0 : Int32) x2 (w.1, p_18, w.2.2.1, w.2.2.2.1, w.2.2.2.2.1, w.2.2.2.2.2.1, w.2.2.2.2.2.2) _ _ _ h hW (lv_sub hl [0, 1, 2, 3, 4, 5] rfl)
  · have h := ht_29 c_29
    refine lv_iconst (v := (1 : Int32)) hx hb dX4_weighPair_32 (by decide) ?_
    refine lv_goto (tgt := 37) hx hb dX4_weighPair_33 (by decide) ?_
    exact J3 x_8 x_3 (1 : Int32) x2 (w.1, p_18, w.2.2.1, w.2.2.2.1, w.2.2.2.2.1, w.2.2.2.2.2.1, w.2.2.2.2.2.2) _ _ _ h hW (lv_sub hl [0, 1, 2, 3, 4, 5] rfl)
def f_X4_pairAtRest_26 (w_6 : TW) : Nat → Int32 → Option (Int32 × TW)
  | 0, _ => none
  | n1 + 1, v3_26 =>
    if (4 : Int32) ≤ v3_26 then
    some ((-9 : Int32), w_6)
    else
    if inR v3_26 4 then
    if inR (v3_26 ^^^ (2 : Int32)) 4 then
    if (w_6.2.2.2.2.2.1 v3_26.toNatClampNeg) < (w_6.2.2.2.2.2.1 (v3_26 ^^^ (2 : Int32)).toNatClampNeg) then
    f_X4_pairAtRest_26 w_6 n1 (v3_26 + (1 : Int32))
    else
    if inR v3_26 4 then
    if inR (v3_26 ^^^ (1 : Int32)) 4 then
    if (w_6.2.2.2.2.2.2 v3_26.toNatClampNeg) < (w_6.2.2.2.2.2.2 (v3_26 ^^^ (1 : Int32)).toNatClampNeg) then
    f_X4_pairAtRest_26 w_6 n1 (v3_26 + (1 : Int32))
    else
    some ((((10 : Int32) * (v3_26 / (2 : Int32))) + (remI v3_26 (2 : Int32))), w_6)
    else none
    else none
    else none
    else none
def f_X4_pairAtRest_6 (x1 : Int32) (x2 : Int32) : Nat → Int32 → TW → Option (Int32 × TW)
  | 0, _, _ => none
  | n0 + 1, v3_6, w_6 =>
    if (4 : Int32) ≤ v3_6 then
    f_X4_pairAtRest_26 w_6 200 (0 : Int32)
    else
    Option.bind (f_X4_weighPair w_6 v3_6 x1 x2) fun p_15 =>
    f_X4_pairAtRest_6 x1 x2 n0 (v3_6 + (1 : Int32)) p_15
def f_X4_pairAtRest (w : TW) (x1 : Int32) (x2 : Int32) : Option (Int32 × TW) :=
  Option.bind (f_X4_begin w) fun p_1 =>
    f_X4_pairAtRest_6 x1 x2 200 (0 : Int32) p_1
abbrev rmX4_pairAtRest : Room := { frames := 5, cells := 0, slots := 0, locals := 116 }
set_option maxRecDepth 100000 in
set_option maxHeartbeats 4000000 in
theorem c_X4_pairAtRest (l : Launch) (G : EnT) (q : Nat → Nat) (w : TW) (x1 : Int32) (x2 : Int32) (o : Int32 × TW) (h : f_X4_pairAtRest w x1 x2 = some o) : Mi l yX4_pairAtRest rmX4_pairAtRest cX4_pairAtRest 4 (some .int) G false [.ref (q 0), .int x1, .int x2] (cTW G q w) o.1 (cTW G q o.2) := by
  refine Mi_of (by decide) (Nat.le_of_ble_eq_true rfl) ?_
  intro p e s m below meth c A0 F hr hW ls hl
  obtain ⟨hx, hb, hml, hown, hts, hK, hNW, hlocks, hA, hSX⟩ := id F
  have hl : lv_has ls 4 [(0, .ref (q 0)), (1, .int x1), (2, .int x2)] := hl
  have hW : Wd G A0 s (cTW G q w) s.heap [] := hW
  show W p l e rmX4_pairAtRest s m ([.ref (q 0), .int x1, .int x2] : List Value).toArray below meth c s.heap [] 0 0 (Qi below G (cTW G q o.2) o.1 A0 ([.ref (q 0), .int x1, .int x2] : List Value).toArray s) (F0 m 0 ls [])
  refine lv_aload_n hx hb dX4_pairAtRest_0 rfl (lv_at hl 0 rfl) ?_
  obtain ⟨p_1, hc_1, h⟩ := of_bind h
  refine x_Vv (av := [.ref (q 0)]) (As := []) F hW (c_X4_begin l G q w _ hc_1) [0, 1, 2, 3, 4, 5, 6, 7, 8, 9, 10, 11, 12, 13, 14, 15, 16, 17, 18, 19, 20, 21] rfl rfl (by intro q; cases q) cv_X4_71 rfl ⟨_, rfl, rfl⟩ rfl rfl rfl hl (Nat.le_of_ble_eq_true rfl) ⟨Nat.le_of_ble_eq_true rfl, Nat.le_of_ble_eq_true rfl⟩ ⟨rfl, rfl⟩ ⟨Nat.le_of_ble_eq_true rfl, Nat.le_of_ble_eq_true rfl⟩ dX4_pairAtRest_1 rfl [some 0, some 1, some 2, some 3, some 4, some 5, some 6, some 7, some 8, some 9, some 10, some 11, some 12, some 13, some 14, some 15, some 16, some 17, some 18, some 19, some 20, some 21] rfl (ws' := cTW G q p_1) rfl (fun H locs hW => ?_)
  refine lv_iconst (v := (0 : Int32)) hx hb dX4_pairAtRest_4 (by decide) ?_
  refine lv_istore_n (lv' := [(3, .int (0 : Int32)), (0, .ref (q 0)), (1, .int x1), (2, .int x2)]) hx hb dX4_pairAtRest_5 rfl hl (by decide) rfl (fun ls hl => ?_)
  have L0 : ∀ (n0 : Nat) (v3_6 : Int32) (w_6 : TW) (H : Heap) (locs : List Loc) (ls : Array Slot), f_X4_pairAtRest_6 x1 x2 n0 v3_6 w_6 = some o → Wd G A0 s (cTW G q w_6) H locs → lv_has ls 4 [(3, .int v3_6), (0, .ref (q 0)), (1, .int x1), (2, .int x2)] → W p l e rmX4_pairAtRest s m ([.ref (q 0), .int x1, .int x2] : List Value).toArray below meth c H locs 0 0 (Qi below G (cTW G q o.2) o.1 A0 ([.ref (q 0), .int x1, .int x2] : List Value).toArray s) (F0 m 6 ls []) := by
    intro n0
    induction n0 with
    | zero => intro v3_6 w_6 H locs ls h; cases (show (none : Option (Int32 × TW)) = some o from h)
    | succ n0 ih0 =>
      intro v3_6 w_6 H locs ls h hW hl
      refine lv_iload_n hx hb dX4_pairAtRest_6 rfl (lv_at hl 0 rfl) ?_
      refine lv_iconst (v := (4 : Int32)) hx hb dX4_pairAtRest_7 (by decide) ?_
      obtain ⟨ht_8, hf_8⟩ := of_ite h
      refine lv_icmp_ge (tgt := 24) hx hb dX4_pairAtRest_8 (by decide) (fun c_8 => ?_) (fun c_8 => ?_)
      · have h := ht_8 c_8
        refine lv_iconst (v := (0 : Int32)) hx hb dX4_pairAtRest_24 (by decide) ?_
        refine lv_istore_n (lv' := [(3, .int (0 : Int32)), (0, .ref (q 0)), (1, .int x1), (2, .int x2)]) hx hb dX4_pairAtRest_25 rfl hl (by decide) rfl (fun ls hl => ?_)
        have L1 : ∀ (n1 : Nat) (v3_26 : Int32) (H : Heap) (locs : List Loc) (ls : Array Slot), f_X4_pairAtRest_26 w_6 n1 v3_26 = some o → Wd G A0 s (cTW G q w_6) H locs → lv_has ls 4 [(3, .int v3_26), (0, .ref (q 0))] → W p l e rmX4_pairAtRest s m ([.ref (q 0), .int x1, .int x2] : List Value).toArray below meth c H locs 0 0 (Qi below G (cTW G q o.2) o.1 A0 ([.ref (q 0), .int x1, .int x2] : List Value).toArray s) (F0 m 26 ls []) := by
          intro n1
          induction n1 with
          | zero => intro v3_26 H locs ls h; cases (show (none : Option (Int32 × TW)) = some o from h)
          | succ n1 ih1 =>
            intro v3_26 H locs ls h hW hl
            refine lv_iload_n hx hb dX4_pairAtRest_26 rfl (lv_at hl 0 rfl) ?_
            refine lv_iconst (v := (4 : Int32)) hx hb dX4_pairAtRest_27 (by decide) ?_
            obtain ⟨ht_28, hf_28⟩ := of_ite h
            refine lv_icmp_ge (tgt := 82) hx hb dX4_pairAtRest_28 (by decide) (fun c_28 => ?_) (fun c_28 => ?_)
            · have h := ht_28 c_28
              refine lv_bipush (v := (-9 : Int32)) hx hb dX4_pairAtRest_82 (by decide) ?_
              obtain rfl := Option.some.inj h
              exact x_reti F hr hW rfl dX4_pairAtRest_84
            · have h := hf_28 c_28
              refine lv_aload_n hx hb dX4_pairAtRest_31 rfl (lv_at hl 1 rfl) ?_
              refine x_get F hW 0 rfl fa_X4_35 rfl dX4_pairAtRest_32 ?_
              refine lv_iload_n hx hb dX4_pairAtRest_35 rfl (lv_at hl 0 rfl) ?_
              obtain ⟨g_36, h⟩ := of_guard h
              refine x_iald F hW 20 rfl g_36 dX4_pairAtRest_36 ?_
              refine lv_aload_n hx hb dX4_pairAtRest_37 rfl (lv_at hl 1 rfl) ?_
              refine x_get F hW 0 rfl fa_X4_35 rfl dX4_pairAtRest_38 ?_
              refine lv_iload_n hx hb dX4_pairAtRest_41 rfl (lv_at hl 0 rfl) ?_
              refine lv_iconst (v := (2 : Int32)) hx hb dX4_pairAtRest_42 (by decide) ?_
              refine lv_ixor hx hb dX4_pairAtRest_43 ?_
              obtain ⟨g_44, h⟩ := of_guard h
              refine x_iald F hW 20 rfl g_44 dX4_pairAtRest_44 ?_
              obtain ⟨ht_45, hf_45⟩ := of_ite h
              refine lv_icmp_lt (tgt := 76) hx hb dX4_pairAtRest_45 (by decide) (fun c_45 => ?_) (fun c_45 => ?_)
              · have h := ht_45 c_45
                refine lv_iinc (v := (v3_26 + (1 : Int32))) (lv' := [(3, .int (v3_26 + (1 : Int32))), (0, .ref (q 0))]) hx hb dX4_pairAtRest_76 hl (k := 0) rfl rfl (by decide) rfl (fun ls hl => ?_)
                refine lv_goto (tgt := 26) hx hb dX4_pairAtRest_79 (by decide) ?_
                exact ih1 (v3_26 + (1 : Int32)) _ _ _ h hW (lv_sub hl [0, 1] rfl)
              · have h := hf_45 c_45
                refine lv_aload_n hx hb dX4_pairAtRest_48 rfl (lv_at hl 1 rfl) ?_
                refine x_get F hW 0 rfl fa_X4_38 rfl dX4_pairAtRest_49 ?_
                refine lv_iload_n hx hb dX4_pairAtRest_52 rfl (lv_at hl 0 rfl) ?_
                obtain ⟨g_53, h⟩ := of_guard h
                refine x_iald F hW 21 rfl g_53 dX4_pairAtRest_53 ?_
                refine lv_aload_n hx hb dX4_pairAtRest_54 rfl (lv_at hl 1 rfl) ?_
                refine x_get F hW 0 rfl fa_X4_38 rfl dX4_pairAtRest_55 ?_
                refine lv_iload_n hx hb dX4_pairAtRest_58 rfl (lv_at hl 0 rfl) ?_
                refine lv_iconst (v := (1 : Int32)) hx hb dX4_pairAtRest_59 (by decide) ?_
                refine lv_ixor hx hb dX4_pairAtRest_60 ?_
                obtain ⟨g_61, h⟩ := of_guard h
                refine x_iald F hW 21 rfl g_61 dX4_pairAtRest_61 ?_
                obtain ⟨ht_62, hf_62⟩ := of_ite h
                refine lv_icmp_lt (tgt := 76) hx hb dX4_pairAtRest_62 (by decide) (fun c_62 => ?_) (fun c_62 => ?_)
                · have h := ht_62 c_62
                  refine lv_iinc (v := (v3_26 + (1 : Int32))) (lv' := [(3, .int (v3_26 + (1 : Int32))), (0, .ref (q 0))]) hx hb dX4_pairAtRest_76 hl (k := 0) rfl rfl (by decide) rfl (fun ls hl => ?_)
                  refine lv_goto (tgt := 26) hx hb dX4_pairAtRest_79 (by decide) ?_
                  exact ih1 (v3_26 + (1 : Int32)) _ _ _ h hW (lv_sub hl [0, 1] rfl)
                · have h := hf_62 c_62
                  refine lv_bipush (v := (10 : Int32)) hx hb dX4_pairAtRest_65 (by decide) ?_
                  refine lv_iload_n hx hb dX4_pairAtRest_67 rfl (lv_at hl 0 rfl) ?_
                  refine lv_iconst (v := (2 : Int32)) hx hb dX4_pairAtRest_68 (by decide) ?_
                  refine lv_idiv hx hb dX4_pairAtRest_69 (by decide) ?_
                  refine lv_imul hx hb dX4_pairAtRest_70 ?_
                  refine lv_iload_n hx hb dX4_pairAtRest_71 rfl (lv_at hl 0 rfl) ?_
                  refine lv_iconst (v := (2 : Int32)) hx hb dX4_pairAtRest_72 (by decide) ?_
                  refine lv_irem hx hb dX4_pairAtRest_73 (by decide) ?_
                  refine lv_iadd hx hb dX4_pairAtRest_74 ?_
                  obtain rfl := Option.some.inj h
                  exact x_reti F hr hW rfl dX4_pairAtRest_75
        exact L1 200 (0 : Int32) _ _ _ h hW (lv_sub hl [0, 1] rfl)
      · have h := hf_8 c_8
        refine lv_aload_n hx hb dX4_pairAtRest_11 rfl (lv_at hl 1 rfl) ?_
        refine lv_iload_n hx hb dX4_pairAtRest_12 rfl (lv_at hl 0 rfl) ?_
        refine lv_iload_n hx hb dX4_pairAtRest_13 rfl (lv_at hl 2 rfl) ?_
        refine lv_iload_n hx hb dX4_pairAtRest_14 rfl (lv_at hl 3 rfl) ?_
        obtain ⟨p_15, hc_15, h⟩ := of_bind h
        refine x_Vv (av := [.ref (q 0), .int v3_6, .int x1, .int x2]) (As := [.int v3_6, .int x1, .int x2]) F hW (c_X4_weighPair l G q w_6 v3_6 x1 x2 _ hc_15) [0, 1, 2, 3, 4, 5, 6, 7, 8, 9, 10, 11, 12, 13, 14, 15, 16, 17, 18, 19, 20, 21] rfl rfl (by intro q; cases q) cv_X4_172 rfl ⟨_, rfl, rfl⟩ rfl rfl rfl hl (Nat.le_of_ble_eq_true rfl) ⟨Nat.le_of_ble_eq_true rfl, Nat.le_of_ble_eq_true rfl⟩ ⟨rfl, rfl⟩ ⟨Nat.le_of_ble_eq_true rfl, Nat.le_of_ble_eq_true rfl⟩ dX4_pairAtRest_15 rfl [some 0, some 1, some 2, some 3, some 4, some 5, some 6, some 7, some 8, some 9, some 10, some 11, some 12, some 13, some 14, some 15, some 16, some 17, some 18, some 19, some 20, some 21] rfl (ws' := cTW G q p_15) rfl (fun H locs hW => ?_)
        refine lv_iinc (v := (v3_6 + (1 : Int32))) (lv' := [(3, .int (v3_6 + (1 : Int32))), (0, .ref (q 0)), (1, .int x1), (2, .int x2)]) hx hb dX4_pairAtRest_18 hl (k := 0) rfl rfl (by decide) rfl (fun ls hl => ?_)
        refine lv_goto (tgt := 6) hx hb dX4_pairAtRest_21 (by decide) ?_
        exact ih0 (v3_6 + (1 : Int32)) p_15 _ _ _ h hW (lv_sub hl [0, 1, 2, 3] rfl)
  exact L0 200 (0 : Int32) p_1 _ _ _ h hW (lv_sub hl [0, 1, 2, 3] rfl)
def f_X4_mistAbove_91 (k0 : Int32 → Int64 → TW → Option (Int64 × TW)) (v8_91 : Int32) (v6_91 : Int32) (v4_91 : Int64) (t0_91 : Int32) (w_91 : TW) : Option (Int64 × TW) :=
  nm (v4_91 * ((v8_91 + t0_91).toInt64)) fun x_102 =>
    Option.bind (f_X1_passNight w_91.2.1) fun p_108 =>
    k0 (v6_91 + (1 : Int32)) x_102 (w_91.1, p_108, w_91.2.2.1, w_91.2.2.2.1, w_91.2.2.2.2.1, w_91.2.2.2.2.2.1, w_91.2.2.2.2.2.2)
def f_X4_mistAbove_68 (k0 : Int32 → Int64 → TW → Option (Int64 × TW)) (x1 : Int32) (v7_68 : Int32) (v6_68 : Int32) (v4_68 : Int64) (t0_68 : Int32) (w_68 : TW) : Option (Int64 × TW) :=
  Option.bind (f_X3_hanging w_68.2.2.2.1 v7_68) fun p_76 =>
    Option.bind (f_X5_has p_76 x1) fun p_80 =>
    if p_80 = 0 then
    f_X4_mistAbove_91 k0 t0_68 v6_68 v4_68 (0 : Int32) w_68
    else
    f_X4_mistAbove_91 k0 t0_68 v6_68 v4_68 (1 : Int32) w_68
def f_X4_mistAbove_30 (x2 : Int32) (x1 : Int32) (x3 : Int32) : Nat → Int32 → Int64 → TW → Option (Int64 × TW)
  | 0, _, _, _ => none
  | n0 + 1, v6_30, v4_30, w_30 =>
    if x2 ≤ v6_30 then
    some (v4_30, w_30)
    else
    Option.bind (f_X1_lit w_30.2.1) fun p_40 =>
    Option.bind (f_X3_hanging w_30.2.2.1 p_40) fun p_51 =>
    Option.bind (f_X5_has p_51 x1) fun p_55 =>
    if p_55 = 0 then
    f_X4_mistAbove_68 (fun a0 a1 a2 => f_X4_mistAbove_30 x2 x1 x3 n0 a0 a1 a2) x1 p_40 v6_30 v4_30 (0 : Int32) w_30
    else
    f_X4_mistAbove_68 (fun a0 a1 a2 => f_X4_mistAbove_30 x2 x1 x3 n0 a0 a1 a2) x1 p_40 v6_30 v4_30 (x3 - (1 : Int32)) w_30
def f_X4_mistAbove (w : TW) (x1 : Int32) (x2 : Int32) (x3 : Int32) : Option (Int64 × TW) :=
  Option.bind (f_X4_begin w) fun p_1 =>
    Option.bind (f_X3_lookOver p_1.2.2.2.1 (p_1.2.1.1, p_1.2.1.2.1, p_1.2.1.2.2.1, p_1.2.1.2.2.2.1, p_1.2.1.2.2.2.2.1, p_1.2.1.2.2.2.2.2.1, p_1.2.1.2.2.2.2.2.2.1, (9 : Int32), p_1.2.1.2.2.2.2.2.2.2.2)) fun p_21 =>
    f_X4_mistAbove_30 x2 x1 x3 200 (0 : Int32) (1 : Int64) (p_1.1, (p_1.2.1.1, p_1.2.1.2.1, p_1.2.1.2.2.1, p_1.2.1.2.2.2.1, p_1.2.1.2.2.2.2.1, p_1.2.1.2.2.2.2.2.1, p_1.2.1.2.2.2.2.2.2.1, (9 : Int32), p_1.2.1.2.2.2.2.2.2.2.2), p_1.2.2.1, p_21, p_1.2.2.2.2.1, p_1.2.2.2.2.2.1, p_1.2.2.2.2.2.2)
abbrev rmX4_mistAbove : Room := { frames := 4, cells := 0, slots := 0, locals := 105 }
set_option maxRecDepth 100000 in
set_option maxHeartbeats 4000000 in
theorem c_X4_mistAbove (l : Launch) (G : EnT) (q : Nat → Nat) (w : TW) (x1 : Int32) (x2 : Int32) (x3 : Int32) (o : Int64 × TW) (h : f_X4_mistAbove w x1 x2 x3 = some o) : Ml l yX4_mistAbove rmX4_mistAbove cX4_mistAbove 10 (some .long) G false [.ref (q 0), .int x1, .int x2, .int x3] (cTW G q w) o.1 (cTW G q o.2) := by
  refine Ml_of (by decide) (Nat.le_of_ble_eq_true rfl) ?_
  intro p e s m below meth c A0 F hr hW ls hl
  obtain ⟨hx, hb, hml, hown, hts, hK, hNW, hlocks, hA, hSX⟩ := id F
  have hl : lv_has ls 10 [(0, .ref (q 0)), (1, .int x1), (2, .int x2), (3, .int x3)] := hl
  have hW : Wd G A0 s (cTW G q w) s.heap [] := hW
  show W p l e rmX4_mistAbove s m ([.ref (q 0), .int x1, .int x2, .int x3] : List Value).toArray below meth c s.heap [] 0 0 (Ql below G (cTW G q o.2) o.1 A0 ([.ref (q 0), .int x1, .int x2, .int x3] : List Value).toArray s) (F0 m 0 ls [])
  refine lv_aload_n hx hb dX4_mistAbove_0 rfl (lv_at hl 0 rfl) ?_
  obtain ⟨p_1, hc_1, h⟩ := of_bind h
  refine x_Vv (av := [.ref (q 0)]) (As := []) F hW (c_X4_begin l G q w _ hc_1) [0, 1, 2, 3, 4, 5, 6, 7, 8, 9, 10, 11, 12, 13, 14, 15, 16, 17, 18, 19, 20, 21] rfl rfl (by intro q; cases q) cv_X4_71 rfl ⟨_, rfl, rfl⟩ rfl rfl rfl hl (Nat.le_of_ble_eq_true rfl) ⟨Nat.le_of_ble_eq_true rfl, Nat.le_of_ble_eq_true rfl⟩ ⟨rfl, rfl⟩ ⟨Nat.le_of_ble_eq_true rfl, Nat.le_of_ble_eq_true rfl⟩ dX4_mistAbove_1 rfl [some 0, some 1, some 2, some 3, some 4, some 5, some 6, some 7, some 8, some 9, some 10, some 11, some 12, some 13, some 14, some 15, some 16, some 17, some 18, some 19, some 20, some 21] rfl (ws' := cTW G q p_1) rfl (fun H locs hW => ?_)
  refine lv_aload_n hx hb dX4_mistAbove_4 rfl (lv_at hl 0 rfl) ?_
  refine x_get F hW 0 rfl fa_X4_18 rfl dX4_mistAbove_5 ?_
  refine lv_bipush (v := (9 : Int32)) hx hb dX4_mistAbove_8 (by decide) ?_
  refine x_put F hW 7 rfl fp_X4_169 rfl rfl (Nat.le_of_ble_eq_true rfl) (ws' := cTW G q (p_1.1, (p_1.2.1.1, p_1.2.1.2.1, p_1.2.1.2.2.1, p_1.2.1.2.2.2.1, p_1.2.1.2.2.2.2.1, p_1.2.1.2.2.2.2.2.1, p_1.2.1.2.2.2.2.2.2.1, (9 : Int32), p_1.2.1.2.2.2.2.2.2.2.2), p_1.2.2.1, p_1.2.2.2.1, p_1.2.2.2.2.1, p_1.2.2.2.2.2.1, p_1.2.2.2.2.2.2)) rfl dX4_mistAbove_10 (fun H locs hW => ?_)
  refine lv_aload_n hx hb dX4_mistAbove_13 rfl (lv_at hl 0 rfl) ?_
  refine x_get F hW 0 rfl fa_X4_28 rfl dX4_mistAbove_14 ?_
  refine lv_aload_n hx hb dX4_mistAbove_17 rfl (lv_at hl 0 rfl) ?_
  refine x_get F hW 0 rfl fa_X4_18 rfl dX4_mistAbove_18 ?_
  obtain ⟨p_21, hc_21, h⟩ := of_bind h
  refine x_Vv (av := [.ref (q 16), .ref (q 7)]) (As := [.ref (q 7)]) F hW (c_X3_lookOver l G (fun i => q (i + 16)) p_1.2.2.2.1 (fun i => q (i + 7)) (p_1.2.1.1, p_1.2.1.2.1, p_1.2.1.2.2.1, p_1.2.1.2.2.2.1, p_1.2.1.2.2.2.2.1, p_1.2.1.2.2.2.2.2.1, p_1.2.1.2.2.2.2.2.2.1, (9 : Int32), p_1.2.1.2.2.2.2.2.2.2.2) _ hc_21) [16, 17, 18, 7, 8, 9, 10, 11, 12] rfl rfl (by intro q; cases q) cv_X4_131 rfl ⟨_, rfl, rfl⟩ rfl rfl rfl hl (Nat.le_of_ble_eq_true rfl) ⟨Nat.le_of_ble_eq_true rfl, Nat.le_of_ble_eq_true rfl⟩ ⟨rfl, rfl⟩ ⟨Nat.le_of_ble_eq_true rfl, Nat.le_of_ble_eq_true rfl⟩ dX4_mistAbove_21 rfl [none, none, none, none, none, none, none, some 3, some 4, some 5, some 6, some 7, some 8, none, none, none, some 0, some 1, some 2, none, none, none] rfl (ws' := cTW G q (p_1.1, (p_1.2.1.1, p_1.2.1.2.1, p_1.2.1.2.2.1, p_1.2.1.2.2.2.1, p_1.2.1.2.2.2.2.1, p_1.2.1.2.2.2.2.2.1, p_1.2.1.2.2.2.2.2.2.1, (9 : Int32), p_1.2.1.2.2.2.2.2.2.2.2), p_1.2.2.1, p_21, p_1.2.2.2.2.1, p_1.2.2.2.2.2.1, p_1.2.2.2.2.2.2)) rfl (fun H locs hW => ?_)
  refine lv_lconst (v := (1 : Int64)) hx hb dX4_mistAbove_24 (by decide) ?_
  refine lv_lstore (lv' := [(4, .long (1 : Int64)), (0, .ref (q 0)), (1, .int x1), (2, .int x2), (3, .int x3)]) hx hb dX4_mistAbove_25 hl (by decide) rfl (fun ls hl => ?_)
  refine lv_iconst (v := (0 : Int32)) hx hb dX4_mistAbove_27 (by decide) ?_
  refine lv_istore (lv' := [(6, .int (0 : Int32)), (4, .long (1 : Int64)), (0, .ref (q 0)), (1, .int x1), (2, .int x2), (3, .int x3)]) hx hb dX4_mistAbove_28 hl (by decide) rfl (fun ls hl => ?_)
  have L0 : ∀ (n0 : Nat) (v6_30 : Int32) (v4_30 : Int64) (w_30 : TW) (H : Heap) (locs : List Loc) (ls : Array Slot), f_X4_mistAbove_30 x2 x1 x3 n0 v6_30 v4_30 w_30 = some o → Wd G A0 s (cTW G q w_30) H locs → lv_has ls 10 [(6, .int v6_30), (4, .long v4_30), (0, .ref (q 0)), (1, .int x1), (2, .int x2), (3, .int x3)] → W p l e rmX4_mistAbove s m ([.ref (q 0), .int x1, .int x2, .int x3] : List Value).toArray below meth c H locs 0 0 (Ql below G (cTW G q o.2) o.1 A0 ([.ref (q 0), .int x1, .int x2, .int x3] : List Value).toArray s) (F0 m 30 ls []) := by
    intro n0
    induction n0 with
    | zero => intro v6_30 v4_30 w_30 H locs ls h; cases (show (none : Option (Int64 × TW)) = some o from h)
    | succ n0 ih0 =>
      intro v6_30 v4_30 w_30 H locs ls h hW hl
      have J1 : ∀ (v8_91 : Int32) (v6_91 : Int32) (v4_91 : Int64) (t0_91 : Int32) (w_91 : TW) (H : Heap) (locs : List Loc) (ls : Array Slot), f_X4_mistAbove_91 (fun a0 a1 a2 => f_X4_mistAbove_30 x2 x1 x3 n0 a0 a1 a2) v8_91 v6_91 v4_91 t0_91 w_91 = some o → Wd G A0 s (cTW G q w_91) H locs → lv_has ls 10 [(8, .int v8_91), (6, .int v6_91), (4, .long v4_91), (0, .ref (q 0)), (1, .int x1), (2, .int x2), (3, .int x3)] → W p l e rmX4_mistAbove s m ([.ref (q 0), .int x1, .int x2, .int x3] : List Value).toArray below meth c H locs 0 0 (Ql below G (cTW G q o.2) o.1 A0 ([.ref (q 0), .int x1, .int x2, .int x3] : List Value).toArray s) (F0 m 91 ls [.int t0_91]) := by
        intro v8_91 v6_91 v4_91 t0_91 w_91 H locs ls h hW hl
        refine lv_istore (lv' := [(9, .int t0_91), (8, .int v8_91), (6, .int v6_91), (4, .long v4_91), (0, .ref (q 0)), (1, .int x1), (2, .int x2), (3, .int x3)]) hx hb dX4_mistAbove_91 hl (by decide) rfl (fun ls hl => ?_)
        refine lv_lload hx hb dX4_mistAbove_93 (lv_at hl 3 rfl) ?_
        refine lv_iload hx hb dX4_mistAbove_95 (lv_at hl 1 rfl) ?_
        refine lv_iload hx hb dX4_mistAbove_97 (lv_at hl 0 rfl) ?_
        refine lv_iadd hx hb dX4_mistAbove_99 ?_
        refine lv_i2l (v := ((v8_91 + t0_91).toInt64)) hx hb dX4_mistAbove_100 rfl ?_
        refine lv_lmul hx hb dX4_mistAbove_101 ?_
        obtain ⟨x_102, e_x_102, h⟩ := of_nm h
        refine x_topl e_x_102 ?_
        refine lv_lstore (lv' := [(4, .long x_102), (9, .int t0_91), (8, .int v8_91), (6, .int v6_91), (0, .ref (q 0)), (1, .int x1), (2, .int x2), (3, .int x3)]) hx hb dX4_mistAbove_102 hl (by decide) rfl (fun ls hl => ?_)
        refine lv_aload_n hx hb dX4_mistAbove_104 rfl (lv_at hl 4 rfl) ?_
        refine x_get F hW 0 rfl fa_X4_18 rfl dX4_mistAbove_105 ?_
        obtain ⟨p_108, hc_108, h⟩ := of_bind h
        refine x_Vv (av := [.ref (q 7)]) (As := []) F hW (c_X1_passNight l G (fun i => q (i + 7)) w_91.2.1 _ hc_108) [7, 8, 9, 10, 11, 12] rfl rfl (by intro q; cases q) cv_X4_64 rfl ⟨_, rfl, rfl⟩ rfl rfl rfl hl (Nat.le_of_ble_eq_true rfl) ⟨Nat.le_of_ble_eq_true rfl, Nat.le_of_ble_eq_true rfl⟩ ⟨rfl, rfl⟩ ⟨Nat.le_of_ble_eq_true rfl, Nat.le_of_ble_eq_true rfl⟩ dX4_mistAbove_108 rfl [none, none, none, none, none, none, none, some 0, some 1, some 2, some 3, some 4, some 5, none, none, none, none, none, none, none, none, none] rfl (ws' := cTW G q (w_91.1, p_108, w_91.2.2.1, w_91.2.2.2.1, w_91.2.2.2.2.1, w_91.2.2.2.2.2.1, w_91.2.2.2.2.2.2)) rfl (fun H locs hW => ?_)
        refine lv_iinc (v := (v6_91 + (1 : Int32))) (lv' := [(6, .int (v6_91 + (1 : Int32))), (4, .long x_102), (9, .int t0_91), (8, .int v8_91), (0, .ref (q 0)), (1, .int x1), (2, .int x2), (3, .int x3)]) hx hb dX4_mistAbove_111 hl (k := 3) rfl rfl (by decide) rfl (fun ls hl => ?_)
        refine lv_goto (tgt := 30) hx hb dX4_mistAbove_114 (by decide) ?_
        exact ih0 (v6_91 + (1 : Int32)) x_102 (w_91.1, p_108, w_91.2.2.1, w_91.2.2.2.1, w_91.2.2.2.2.1, w_91.2.2.2.2.2.1, w_91.2.2.2.2.2.2) _ _ _ h hW (lv_sub hl [0, 1, 4, 5, 6, 7] rfl)
      have J2 : ∀ (v7_68 : Int32) (v6_68 : Int32) (v4_68 : Int64) (t0_68 : Int32) (w_68 : TW) (H : Heap) (locs : List Loc) (ls : Array Slot), f_X4_mistAbove_68 (fun a0 a1 a2 => f_X4_mistAbove_30 x2 x1 x3 n0 a0 a1 a2) x1 v7_68 v6_68 v4_68 t0_68 w_68 = some o → Wd G A0 s (cTW G q w_68) H locs → lv_has ls 10 [(7, .int v7_68), (6, .int v6_68), (4, .long v4_68), (0, .ref (q 0)), (1, .int x1), (2, .int x2), (3, .int x3)] → W p l e rmX4_mistAbove s m ([.ref (q 0), .int x1, .int x2, .int x3] : List Value).toArray below meth c H locs 0 0 (Ql below G (cTW G q o.2) o.1 A0 ([.ref (q 0), .int x1, .int x2, .int x3] : List Value).toArray s) (F0 m 68 ls [.int t0_68]) := by
        intro v7_68 v6_68 v4_68 t0_68 w_68 H locs ls h hW hl
        refine lv_istore (lv' := [(8, .int t0_68), (7, .int v7_68), (6, .int v6_68), (4, .long v4_68), (0, .ref (q 0)), (1, .int x1), (2, .int x2), (3, .int x3)]) hx hb dX4_mistAbove_68 hl (by decide) rfl (fun ls hl => ?_)
        refine lv_aload_n hx hb dX4_mistAbove_70 rfl (lv_at hl 4 rfl) ?_
        refine x_get F hW 0 rfl fa_X4_28 rfl dX4_mistAbove_71 ?_
        refine lv_iload hx hb dX4_mistAbove_74 (lv_at hl 1 rfl) ?_
        obtain ⟨p_76, hc_76, h⟩ := of_bind h
        refine x_Vi (av := [.ref (q 16), .int v7_68]) (As := [.int v7_68]) F hW (c_X3_hanging l G (fun i => q (i + 16)) w_68.2.2.2.1 v7_68 _ hc_76) [16, 17, 18] rfl rfl (by intro q; cases q) cv_X4_55 rfl ⟨_, rfl, rfl⟩ rfl rfl rfl hl (Nat.le_of_ble_eq_true rfl) ⟨Nat.le_of_ble_eq_true rfl, Nat.le_of_ble_eq_true rfl⟩ ⟨rfl, rfl⟩ ⟨Nat.le_of_ble_eq_true rfl, Nat.le_of_ble_eq_true rfl⟩ dX4_mistAbove_76 rfl [none, none, none, none, none, none, none, none, none, none, none, none, none, none, none, none, some 0, some 1, some 2, none, none, none] rfl (ws' := cTW G q w_68) rfl (fun H locs hW => ?_)
        refine lv_iload_n hx hb dX4_mistAbove_79 rfl (lv_at hl 5 rfl) ?_
        obtain ⟨p_80, hc_80, h⟩ := of_bind h
        refine x_Ni (av := [.int p_76, .int x1]) F hW (c_X5_has l G p_76 x1 _ hc_80) [] rfl rfl (by intro q; cases q) cn_X4_80 rfl rfl hl (Nat.le_of_ble_eq_true rfl) ⟨Nat.le_of_ble_eq_true rfl, Nat.le_of_ble_eq_true rfl⟩ ⟨rfl, rfl⟩ ⟨Nat.le_of_ble_eq_true rfl, Nat.le_of_ble_eq_true rfl⟩ dX4_mistAbove_80 rfl [none, none, none, none, none, none, none, none, none, none, none, none, none, none, none, none, none, none, none, none, none, none] rfl (ws' := cTW G q w_68) rfl (fun H locs hW => ?_)
        obtain ⟨ht_83, hf_83⟩ := of_ite h
        refine lv_if_eq (tgt := 90) hx hb dX4_mistAbove_83 (by decide) (fun c_83 => ?_) (fun c_83 => ?_)
        · have h := ht_83 c_83
          refine lv_iconst (v := (0 : Int32)) hx hb dX4_mistAbove_90 (by decide) ?_
          exact J1 t0_68 v6_68 v4_68 (0 : Int32) w_68 _ _ _ h hW (lv_sub hl [0, 2, 3, 4, 5, 6, 7] rfl)
        · have h := hf_83 c_83
          refine lv_iconst (v := (1 : Int32)) hx hb dX4_mistAbove_86 (by decide) ?_
          refine lv_goto (tgt := 91) hx hb dX4_mistAbove_87 (by decide) ?_
          exact J1 t0_68 v6_68 v4_68 (1 : Int32) w_68 _ _ _ h hW (lv_sub hl [0, 2, 3, 4, 5, 6, 7] rfl)
      refine lv_iload hx hb dX4_mistAbove_30 (lv_at hl 0 rfl) ?_
      refine lv_iload_n hx hb dX4_mistAbove_32 rfl (lv_at hl 4 rfl) ?_
      obtain ⟨ht_33, hf_33⟩ := of_ite h
      refine lv_icmp_ge (tgt := 117) hx hb dX4_mistAbove_33 (by decide) (fun c_33 => ?_) (fun c_33 => ?_)
      · have h := ht_33 c_33
        refine lv_lload hx hb dX4_mistAbove_117 (lv_at hl 1 rfl) ?_
        obtain rfl := Option.some.inj h
        exact x_retl F hr hW rfl dX4_mistAbove_119
      · have h := hf_33 c_33
        refine lv_aload_n hx hb dX4_mistAbove_36 rfl (lv_at hl 2 rfl) ?_
        refine x_get F hW 0 rfl fa_X4_18 rfl dX4_mistAbove_37 ?_
        obtain ⟨p_40, hc_40, h⟩ := of_bind h
        refine x_Vi (av := [.ref (q 7)]) (As := []) F hW (c_X1_lit l G (fun i => q (i + 7)) w_30.2.1 _ hc_40) [7, 8, 9, 10, 11, 12] rfl rfl (by intro q; cases q) cv_X4_51 rfl ⟨_, rfl, rfl⟩ rfl rfl rfl hl (Nat.le_of_ble_eq_true rfl) ⟨Nat.le_of_ble_eq_true rfl, Nat.le_of_ble_eq_true rfl⟩ ⟨rfl, rfl⟩ ⟨Nat.le_of_ble_eq_true rfl, Nat.le_of_ble_eq_true rfl⟩ dX4_mistAbove_40 rfl [none, none, none, none, none, none, none, some 0, some 1, some 2, some 3, some 4, some 5, none, none, none, none, none, none, none, none, none] rfl (ws' := cTW G q w_30) rfl (fun H locs hW => ?_)
        refine lv_istore (lv' := [(7, .int p_40), (6, .int v6_30), (4, .long v4_30), (0, .ref (q 0)), (1, .int x1), (2, .int x2), (3, .int x3)]) hx hb dX4_mistAbove_43 hl (by decide) rfl (fun ls hl => ?_)
        refine lv_aload_n hx hb dX4_mistAbove_45 rfl (lv_at hl 3 rfl) ?_
        refine x_get F hW 0 rfl fa_X4_24 rfl dX4_mistAbove_46 ?_
        refine lv_iload hx hb dX4_mistAbove_49 (lv_at hl 0 rfl) ?_
        obtain ⟨p_51, hc_51, h⟩ := of_bind h
        refine x_Vi (av := [.ref (q 13), .int p_40]) (As := [.int p_40]) F hW (c_X3_hanging l G (fun i => q (i + 13)) w_30.2.2.1 p_40 _ hc_51) [13, 14, 15] rfl rfl (by intro q; cases q) cv_X4_55 rfl ⟨_, rfl, rfl⟩ rfl rfl rfl hl (Nat.le_of_ble_eq_true rfl) ⟨Nat.le_of_ble_eq_true rfl, Nat.le_of_ble_eq_true rfl⟩ ⟨rfl, rfl⟩ ⟨Nat.le_of_ble_eq_true rfl, Nat.le_of_ble_eq_true rfl⟩ dX4_mistAbove_51 rfl [none, none, none, none, none, none, none, none, none, none, none, none, none, some 0, some 1, some 2, none, none, none, none, none, none] rfl (ws' := cTW G q w_30) rfl (fun H locs hW => ?_)
        refine lv_iload_n hx hb dX4_mistAbove_54 rfl (lv_at hl 4 rfl) ?_
        obtain ⟨p_55, hc_55, h⟩ := of_bind h
        refine x_Ni (av := [.int p_51, .int x1]) F hW (c_X5_has l G p_51 x1 _ hc_55) [] rfl rfl (by intro q; cases q) cn_X4_80 rfl rfl hl (Nat.le_of_ble_eq_true rfl) ⟨Nat.le_of_ble_eq_true rfl, Nat.le_of_ble_eq_true rfl⟩ ⟨rfl, rfl⟩ ⟨Nat.le_of_ble_eq_true rfl, Nat.le_of_ble_eq_true rfl⟩ dX4_mistAbove_55 rfl [none, none, none, none, none, none, none, none, none, none, none, none, none, none, none, none, none, none, none, none, none, none] rfl (ws' := cTW G q w_30) rfl (fun H locs hW => ?_)
        obtain ⟨ht_58, hf_58⟩ := of_ite h
        refine lv_if_eq (tgt := 67) hx hb dX4_mistAbove_58 (by decide) (fun c_58 => ?_) (fun c_58 => ?_)
        · have h := ht_58 c_58
          refine lv_iconst (v := (0 : Int32)) hx hb dX4_mistAbove_67 (by decide) ?_
          exact J2 p_40 v6_30 v4_30 (0 : Int32) w_30 _ _ _ h hW (lv_sub hl [0, 1, 2, 3, 4, 5, 6] rfl)
        · have h := hf_58 c_58
          refine lv_iload_n hx hb dX4_mistAbove_61 rfl (lv_at hl 6 rfl) ?_
          refine lv_iconst (v := (1 : Int32)) hx hb dX4_mistAbove_62 (by decide) ?_
          refine lv_isub hx hb dX4_mistAbove_63 ?_
          refine lv_goto (tgt := 68) hx hb dX4_mistAbove_64 (by decide) ?_
          exact J2 p_40 v6_30 v4_30 (x3 - (1 : Int32)) w_30 _ _ _ h hW (lv_sub hl [0, 1, 2, 3, 4, 5, 6] rfl)
  exact L0 200 (0 : Int32) (1 : Int64) (p_1.1, (p_1.2.1.1, p_1.2.1.2.1, p_1.2.1.2.2.1, p_1.2.1.2.2.2.1, p_1.2.1.2.2.2.2.1, p_1.2.1.2.2.2.2.2.1, p_1.2.1.2.2.2.2.2.2.1, (9 : Int32), p_1.2.1.2.2.2.2.2.2.2.2), p_1.2.2.1, p_21, p_1.2.2.2.2.1, p_1.2.2.2.2.2.1, p_1.2.2.2.2.2.2) _ _ _ h hW (lv_sub hl [0, 1, 2, 3, 4, 5] rfl)
def f_X4_isSo_13 (x1 : Int32) (w2 : (Nat → Int32)) : Nat → Int32 → TW → Option (Int32 × TW)
  | 0, _, _ => none
  | n0 + 1, v3_13, w_13 =>
    if x1 ≤ v3_13 then
    some ((1 : Int32), w_13)
    else
    if (16 : Int32) ≤ v3_13 then
    some ((1 : Int32), w_13)
    else
    Option.bind (f_X4_hangers w_13) fun p_25 =>
    Option.bind (f_J6_bitCount_0f7a4 p_25) fun p_28 =>
    if inR v3_13 16 then
    if p_28 = (w2 v3_13.toNatClampNeg) then
    Option.bind (f_X1_passNight w_13.2.1) fun p_43 =>
    f_X4_isSo_13 x1 w2 n0 (v3_13 + (1 : Int32)) (w_13.1, p_43, w_13.2.2.1, w_13.2.2.2.1, w_13.2.2.2.2.1, w_13.2.2.2.2.2.1, w_13.2.2.2.2.2.2)
    else
    some ((0 : Int32), w_13)
    else none
def f_X4_isSo (w : TW) (w2 : (Nat → Int32)) (x1 : Int32) : Option (Int32 × TW) :=
  Option.bind (f_X3_lookOver w.2.2.1 w.2.1) fun p_8 =>
    f_X4_isSo_13 x1 w2 200 (0 : Int32) (w.1, w.2.1, p_8, w.2.2.2.1, w.2.2.2.2.1, w.2.2.2.2.2.1, w.2.2.2.2.2.2)
abbrev rmX4_isSo : Room := { frames := 4, cells := 0, slots := 0, locals := 99 }
set_option maxRecDepth 100000 in
set_option maxHeartbeats 4000000 in
theorem c_X4_isSo (l : Launch) (G : EnT) (q : Nat → Nat) (w : TW) (q2 : Nat → Nat) (w2 : (Nat → Int32)) (x1 : Int32) (o : Int32 × TW) (h : f_X4_isSo w w2 x1 = some o) : Mi l yX4_isSo rmX4_isSo cX4_isSo 4 (some .boolean) G false [.ref (q 0), .ref (q2 0), .int x1] (cTW G q w ++ cAR G 16 q2 w2) o.1 (cTW G q o.2 ++ cAR G 16 q2 w2) := by
  refine Mi_of (by decide) (Nat.le_of_ble_eq_true rfl) ?_
  intro p e s m below meth c A0 F hr hW ls hl
  obtain ⟨hx, hb, hml, hown, hts, hK, hNW, hlocks, hA, hSX⟩ := id F
  have hl : lv_has ls 4 [(0, .ref (q 0)), (1, .ref (q2 0)), (2, .int x1)] := hl
  have hW : Wd G A0 s (cTW G q w ++ cAR G 16 q2 w2) s.heap [] := hW
  show W p l e rmX4_isSo s m ([.ref (q 0), .ref (q2 0), .int x1] : List Value).toArray below meth c s.heap [] 0 0 (Qi below G (cTW G q o.2 ++ cAR G 16 q2 w2) o.1 A0 ([.ref (q 0), .ref (q2 0), .int x1] : List Value).toArray s) (F0 m 0 ls [])
  refine lv_aload_n hx hb dX4_isSo_0 rfl (lv_at hl 0 rfl) ?_
  refine x_get F hW 0 rfl fa_X4_24 rfl dX4_isSo_1 ?_
  refine lv_aload_n hx hb dX4_isSo_4 rfl (lv_at hl 0 rfl) ?_
  refine x_get F hW 0 rfl fa_X4_18 rfl dX4_isSo_5 ?_
  obtain ⟨p_8, hc_8, h⟩ := of_bind h
  refine x_Vv (av := [.ref (q 13), .ref (q 7)]) (As := [.ref (q 7)]) F hW (c_X3_lookOver l G (fun i => q (i + 13)) w.2.2.1 (fun i => q (i + 7)) w.2.1 _ hc_8) [13, 14, 15, 7, 8, 9, 10, 11, 12] rfl rfl (by intro q; cases q) cv_X4_131 rfl ⟨_, rfl, rfl⟩ rfl rfl rfl hl (Nat.le_of_ble_eq_true rfl) ⟨Nat.le_of_ble_eq_true rfl, Nat.le_of_ble_eq_true rfl⟩ ⟨rfl, rfl⟩ ⟨Nat.le_of_ble_eq_true rfl, Nat.le_of_ble_eq_true rfl⟩ dX4_isSo_8 rfl [none, none, none, none, none, none, none, some 3, some 4, some 5, some 6, some 7, some 8, some 0, some 1, some 2, none, none, none, none, none, none, none] rfl (ws' := cTW G q (w.1, w.2.1, p_8, w.2.2.2.1, w.2.2.2.2.1, w.2.2.2.2.2.1, w.2.2.2.2.2.2) ++ cAR G 16 q2 w2) rfl (fun H locs hW => ?_)
  refine lv_iconst (v := (0 : Int32)) hx hb dX4_isSo_11 (by decide) ?_
  refine lv_istore_n (lv' := [(3, .int (0 : Int32)), (0, .ref (q 0)), (1, .ref (q2 0)), (2, .int x1)]) hx hb dX4_isSo_12 rfl hl (by decide) rfl (fun ls hl => ?_)
  have L0 : ∀ (n0 : Nat) (v3_13 : Int32) (w_13 : TW) (H : Heap) (locs : List Loc) (ls : Array Slot), f_X4_isSo_13 x1 w2 n0 v3_13 w_13 = some o → Wd G A0 s (cTW G q w_13 ++ cAR G 16 q2 w2) H locs → lv_has ls 4 [(3, .int v3_13), (0, .ref (q 0)), (1, .ref (q2 0)), (2, .int x1)] → W p l e rmX4_isSo s m ([.ref (q 0), .ref (q2 0), .int x1] : List Value).toArray below meth c H locs 0 0 (Qi below G (cTW G q o.2 ++ cAR G 16 q2 w2) o.1 A0 ([.ref (q 0), .ref (q2 0), .int x1] : List Value).toArray s) (F0 m 13 ls []) := by
    intro n0
    induction n0 with
    | zero => intro v3_13 w_13 H locs ls h; cases (show (none : Option (Int32 × TW)) = some o from h)
    | succ n0 ih0 =>
      intro v3_13 w_13 H locs ls h hW hl
      refine lv_iload_n hx hb dX4_isSo_13 rfl (lv_at hl 0 rfl) ?_
      refine lv_iload_n hx hb dX4_isSo_14 rfl (lv_at hl 3 rfl) ?_
      obtain ⟨ht_15, hf_15⟩ := of_ite h
      refine lv_icmp_ge (tgt := 52) hx hb dX4_isSo_15 (by decide) (fun c_15 => ?_) (fun c_15 => ?_)
      · have h := ht_15 c_15
        refine lv_iconst (v := (1 : Int32)) hx hb dX4_isSo_52 (by decide) ?_
        obtain rfl := Option.some.inj h
        exact x_retz F hr hW (Or.inr rfl) rfl dX4_isSo_53
      · have h := hf_15 c_15
        refine lv_iload_n hx hb dX4_isSo_18 rfl (lv_at hl 0 rfl) ?_
        refine lv_aload_n hx hb dX4_isSo_19 rfl (lv_at hl 2 rfl) ?_
        refine x_alen (v := (16 : Int32)) F hW 22 rfl rfl dX4_isSo_20 ?_
        obtain ⟨ht_21, hf_21⟩ := of_ite h
        refine lv_icmp_ge (tgt := 52) hx hb dX4_isSo_21 (by decide) (fun c_21 => ?_) (fun c_21 => ?_)
        · have h := ht_21 c_21
          refine lv_iconst (v := (1 : Int32)) hx hb dX4_isSo_52 (by decide) ?_
          obtain rfl := Option.some.inj h
          exact x_retz F hr hW (Or.inr rfl) rfl dX4_isSo_53
        · have h := hf_21 c_21
          refine lv_aload_n hx hb dX4_isSo_24 rfl (lv_at hl 1 rfl) ?_
          obtain ⟨p_25, hc_25, h⟩ := of_bind h
          refine x_Vi (av := [.ref (q 0)]) (As := []) F hW (c_X4_hangers l G q w_13 _ hc_25) [0, 1, 2, 3, 4, 5, 6, 7, 8, 9, 10, 11, 12, 13, 14, 15, 16, 17, 18, 19, 20, 21] rfl rfl (by intro q; cases q) cv_X4_74 rfl ⟨_, rfl, rfl⟩ rfl rfl rfl hl (Nat.le_of_ble_eq_true rfl) ⟨Nat.le_of_ble_eq_true rfl, Nat.le_of_ble_eq_true rfl⟩ ⟨rfl, rfl⟩ ⟨Nat.le_of_ble_eq_true rfl, Nat.le_of_ble_eq_true rfl⟩ dX4_isSo_25 rfl [some 0, some 1, some 2, some 3, some 4, some 5, some 6, some 7, some 8, some 9, some 10, some 11, some 12, some 13, some 14, some 15, some 16, some 17, some 18, some 19, some 20, some 21, none] rfl (ws' := cTW G q w_13 ++ cAR G 16 q2 w2) rfl (fun H locs hW => ?_)
          obtain ⟨p_28, hc_28, h⟩ := of_bind h
          refine x_Si (av := [.int p_25]) F hW (c_J6_bitCount_0f7a4 l G p_25 _ hc_28) [] rfl rfl (by intro q; cases q) cs_X4_59 rfl rfl hl (Nat.le_of_ble_eq_true rfl) ⟨Nat.le_of_ble_eq_true rfl, Nat.le_of_ble_eq_true rfl⟩ ⟨rfl, rfl⟩ ⟨Nat.le_of_ble_eq_true rfl, Nat.le_of_ble_eq_true rfl⟩ dX4_isSo_28 rfl [none, none, none, none, none, none, none, none, none, none, none, none, none, none, none, none, none, none, none, none, none, none, none] rfl (ws' := cTW G q w_13 ++ cAR G 16 q2 w2) rfl (fun H locs hW => ?_)
          refine lv_aload_n hx hb dX4_isSo_31 rfl (lv_at hl 2 rfl) ?_
          refine lv_iload_n hx hb dX4_isSo_32 rfl (lv_at hl 0 rfl) ?_
          obtain ⟨g_33, h⟩ := of_guard h
          refine x_iald F hW 22 rfl g_33 dX4_isSo_33 ?_
          obtain ⟨ht_34, hf_34⟩ := of_ite h
          refine lv_icmp_eq (tgt := 39) hx hb dX4_isSo_34 (by decide) (fun c_34 => ?_) (fun c_34 => ?_)
          · have h := ht_34 c_34
            refine lv_aload_n hx hb dX4_isSo_39 rfl (lv_at hl 1 rfl) ?_
            refine x_get F hW 0 rfl fa_X4_18 rfl dX4_isSo_40 ?_
            obtain ⟨p_43, hc_43, h⟩ := of_bind h
            refine x_Vv (av := [.ref (q 7)]) (As := []) F hW (c_X1_passNight l G (fun i => q (i + 7)) w_13.2.1 _ hc_43) [7, 8, 9, 10, 11, 12] rfl rfl (by intro q; cases q) cv_X4_64 rfl ⟨_, rfl, rfl⟩ rfl rfl rfl hl (Nat.le_of_ble_eq_true rfl) ⟨Nat.le_of_ble_eq_true rfl, Nat.le_of_ble_eq_true rfl⟩ ⟨rfl, rfl⟩ ⟨Nat.le_of_ble_eq_true rfl, Nat.le_of_ble_eq_true rfl⟩ dX4_isSo_43 rfl [none, none, none, none, none, none, none, some 0, some 1, some 2, some 3, some 4, some 5, none, none, none, none, none, none, none, none, none, none] rfl (ws' := cTW G q (w_13.1, p_43, w_13.2.2.1, w_13.2.2.2.1, w_13.2.2.2.2.1, w_13.2.2.2.2.2.1, w_13.2.2.2.2.2.2) ++ cAR G 16 q2 w2) rfl (fun H locs hW => ?_)
            refine lv_iinc (v := (v3_13 + (1 : Int32))) (lv' := [(3, .int (v3_13 + (1 : Int32))), (0, .ref (q 0)), (1, .ref (q2 0)), (2, .int x1)]) hx hb dX4_isSo_46 hl (k := 0) rfl rfl (by decide) rfl (fun ls hl => ?_)
            refine lv_goto (tgt := 13) hx hb dX4_isSo_49 (by decide) ?_
            exact ih0 (v3_13 + (1 : Int32)) (w_13.1, p_43, w_13.2.2.1, w_13.2.2.2.1, w_13.2.2.2.2.1, w_13.2.2.2.2.2.1, w_13.2.2.2.2.2.2) _ _ _ h hW (lv_sub hl [0, 1, 2, 3] rfl)
          · have h := hf_34 c_34
            refine lv_iconst (v := (0 : Int32)) hx hb dX4_isSo_37 (by decide) ?_
            obtain rfl := Option.some.inj h
            exact x_retz F hr hW (Or.inl rfl) rfl dX4_isSo_38
  exact L0 200 (0 : Int32) (w.1, w.2.1, p_8, w.2.2.2.1, w.2.2.2.2.1, w.2.2.2.2.2.1, w.2.2.2.2.2.2) _ _ _ h hW (lv_sub hl [0, 1, 2, 3] rfl)
def f_X4_housesThatSlept_5 (w2 : (Nat → Int32)) (x1 : Int32) : Nat → Int32 → Int32 → TW → Option (Int32 × TW)
  | 0, _, _, _ => none
  | n0 + 1, v4_5, v3_5, w_5 =>
    if w_5.1.2.2.2.2.2.1 ≤ v4_5 then
    some (v3_5, w_5)
    else
    Option.bind (f_X1_become w_5.2.1 w_5.1) fun p_25 =>
    if inR v4_5 8 then
    Option.bind (f_X4_isSo (w_5.1, (p_25.1, p_25.2.1, p_25.2.2.1, p_25.2.2.2.1, (upd p_25.2.2.2.2.1 v4_5.toNatClampNeg (0 : Int32)), p_25.2.2.2.2.2.1, p_25.2.2.2.2.2.2.1, p_25.2.2.2.2.2.2.2.1, p_25.2.2.2.2.2.2.2.2), w_5.2.2.1, w_5.2.2.2.1, w_5.2.2.2.2.1, w_5.2.2.2.2.2.1, w_5.2.2.2.2.2.2) w2 x1) fun p_42 =>
    if p_42.1 = 0 then
    f_X4_housesThatSlept_5 w2 x1 n0 (v4_5 + (1 : Int32)) v3_5 p_42.2
    else
    nm (v3_5 ||| ((1 : Int32) <<< (v4_5 &&& 31))) fun x_54 =>
    f_X4_housesThatSlept_5 w2 x1 n0 (v4_5 + (1 : Int32)) x_54 p_42.2
    else none
def f_X4_housesThatSlept (w : TW) (w2 : (Nat → Int32)) (x1 : Int32) : Option (Int32 × TW) :=
  f_X4_housesThatSlept_5 w2 x1 200 (0 : Int32) (0 : Int32) w
abbrev rmX4_housesThatSlept : Room := { frames := 5, cells := 0, slots := 0, locals := 122 }
set_option maxRecDepth 100000 in
set_option maxHeartbeats 4000000 in
theorem c_X4_housesThatSlept (l : Launch) (G : EnT) (q : Nat → Nat) (w : TW) (q2 : Nat → Nat) (w2 : (Nat → Int32)) (x1 : Int32) (o : Int32 × TW) (h : f_X4_housesThatSlept w w2 x1 = some o) : Mi l yX4_housesThatSlept rmX4_housesThatSlept cX4_housesThatSlept 5 (some .int) G false [.ref (q 0), .ref (q2 0), .int x1] (cTW G q w ++ cAR G 16 q2 w2) o.1 (cTW G q o.2 ++ cAR G 16 q2 w2) := by
  refine Mi_of (by decide) (Nat.le_of_ble_eq_true rfl) ?_
  intro p e s m below meth c A0 F hr hW ls hl
  obtain ⟨hx, hb, hml, hown, hts, hK, hNW, hlocks, hA, hSX⟩ := id F
  have hl : lv_has ls 5 [(0, .ref (q 0)), (1, .ref (q2 0)), (2, .int x1)] := hl
  have hW : Wd G A0 s (cTW G q w ++ cAR G 16 q2 w2) s.heap [] := hW
  show W p l e rmX4_housesThatSlept s m ([.ref (q 0), .ref (q2 0), .int x1] : List Value).toArray below meth c s.heap [] 0 0 (Qi below G (cTW G q o.2 ++ cAR G 16 q2 w2) o.1 A0 ([.ref (q 0), .ref (q2 0), .int x1] : List Value).toArray s) (F0 m 0 ls [])
  refine lv_iconst (v := (0 : Int32)) hx hb dX4_housesThatSlept_0 (by decide) ?_
  refine lv_istore_n (lv' := [(3, .int (0 : Int32)), (0, .ref (q 0)), (1, .ref (q2 0)), (2, .int x1)]) hx hb dX4_housesThatSlept_1 rfl hl (by decide) rfl (fun ls hl => ?_)
  refine lv_iconst (v := (0 : Int32)) hx hb dX4_housesThatSlept_2 (by decide) ?_
  refine lv_istore (lv' := [(4, .int (0 : Int32)), (3, .int (0 : Int32)), (0, .ref (q 0)), (1, .ref (q2 0)), (2, .int x1)]) hx hb dX4_housesThatSlept_3 hl (by decide) rfl (fun ls hl => ?_)
  have L0 : ∀ (n0 : Nat) (v4_5 : Int32) (v3_5 : Int32) (w_5 : TW) (H : Heap) (locs : List Loc) (ls : Array Slot), f_X4_housesThatSlept_5 w2 x1 n0 v4_5 v3_5 w_5 = some o → Wd G A0 s (cTW G q w_5 ++ cAR G 16 q2 w2) H locs → lv_has ls 5 [(4, .int v4_5), (3, .int v3_5), (0, .ref (q 0)), (1, .ref (q2 0)), (2, .int x1)] → W p l e rmX4_housesThatSlept s m ([.ref (q 0), .ref (q2 0), .int x1] : List Value).toArray below meth c H locs 0 0 (Qi below G (cTW G q o.2 ++ cAR G 16 q2 w2) o.1 A0 ([.ref (q 0), .ref (q2 0), .int x1] : List Value).toArray s) (F0 m 5 ls []) := by
    intro n0
    induction n0 with
    | zero => intro v4_5 v3_5 w_5 H locs ls h; cases (show (none : Option (Int32 × TW)) = some o from h)
    | succ n0 ih0 =>
      intro v4_5 v3_5 w_5 H locs ls h hW hl
      refine lv_iload hx hb dX4_housesThatSlept_5 (lv_at hl 0 rfl) ?_
      refine lv_aload_n hx hb dX4_housesThatSlept_7 rfl (lv_at hl 2 rfl) ?_
      refine x_get F hW 0 rfl fa_X4_12 rfl dX4_housesThatSlept_8 ?_
      refine x_get F hW 1 rfl fa_X4_114 rfl dX4_housesThatSlept_11 ?_
      obtain ⟨ht_14, hf_14⟩ := of_ite h
      refine lv_icmp_ge (tgt := 61) hx hb dX4_housesThatSlept_14 (by decide) (fun c_14 => ?_) (fun c_14 => ?_)
      · have h := ht_14 c_14
        refine lv_iload_n hx hb dX4_housesThatSlept_61 rfl (lv_at hl 1 rfl) ?_
        obtain rfl := Option.some.inj h
        exact x_reti F hr hW rfl dX4_housesThatSlept_62
      · have h := hf_14 c_14
        refine lv_aload_n hx hb dX4_housesThatSlept_17 rfl (lv_at hl 2 rfl) ?_
        refine x_get F hW 0 rfl fa_X4_18 rfl dX4_housesThatSlept_18 ?_
        refine lv_aload_n hx hb dX4_housesThatSlept_21 rfl (lv_at hl 2 rfl) ?_
        refine x_get F hW 0 rfl fa_X4_12 rfl dX4_housesThatSlept_22 ?_
        obtain ⟨p_25, hc_25, h⟩ := of_bind h
        refine x_Vv (av := [.ref (q 7), .ref (q 1)]) (As := [.ref (q 1)]) F hW (c_X1_become l G (fun i => q (i + 7)) w_5.2.1 (fun i => q (i + 1)) w_5.1 _ hc_25) [7, 8, 9, 10, 11, 12, 1, 2, 3, 4, 5, 6] rfl rfl (by intro q; cases q) cv_X4_41 rfl ⟨_, rfl, rfl⟩ rfl rfl rfl hl (Nat.le_of_ble_eq_true rfl) ⟨Nat.le_of_ble_eq_true rfl, Nat.le_of_ble_eq_true rfl⟩ ⟨rfl, rfl⟩ ⟨Nat.le_of_ble_eq_true rfl, Nat.le_of_ble_eq_true rfl⟩ dX4_housesThatSlept_25 rfl [none, some 6, some 7, some 8, some 9, some 10, some 11, some 0, some 1, some 2, some 3, some 4, some 5, none, none, none, none, none, none, none, none, none, none] rfl (ws' := cTW G q (w_5.1, p_25, w_5.2.2.1, w_5.2.2.2.1, w_5.2.2.2.2.1, w_5.2.2.2.2.2.1, w_5.2.2.2.2.2.2) ++ cAR G 16 q2 w2) rfl (fun H locs hW => ?_)
        refine lv_aload_n hx hb dX4_housesThatSlept_28 rfl (lv_at hl 2 rfl) ?_
        refine x_get F hW 0 rfl fa_X4_18 rfl dX4_housesThatSlept_29 ?_
        refine x_get F hW 7 rfl fa_X4_77 rfl dX4_housesThatSlept_32 ?_
        refine lv_iload hx hb dX4_housesThatSlept_35 (lv_at hl 0 rfl) ?_
        refine lv_iconst (v := (0 : Int32)) hx hb dX4_housesThatSlept_37 (by decide) ?_
        obtain ⟨g_38, h⟩ := of_guard h
        refine x_iast F hW 12 rfl g_38 (ws' := cTW G q (w_5.1, (p_25.1, p_25.2.1, p_25.2.2.1, p_25.2.2.2.1, (upd p_25.2.2.2.2.1 v4_5.toNatClampNeg (0 : Int32)), p_25.2.2.2.2.2.1, p_25.2.2.2.2.2.2.1, p_25.2.2.2.2.2.2.2.1, p_25.2.2.2.2.2.2.2.2), w_5.2.2.1, w_5.2.2.2.1, w_5.2.2.2.2.1, w_5.2.2.2.2.2.1, w_5.2.2.2.2.2.2) ++ cAR G 16 q2 w2) rfl dX4_housesThatSlept_38 (fun H locs hW => ?_)
        refine lv_aload_n hx hb dX4_housesThatSlept_39 rfl (lv_at hl 2 rfl) ?_
        refine lv_aload_n hx hb dX4_housesThatSlept_40 rfl (lv_at hl 3 rfl) ?_
        refine lv_iload_n hx hb dX4_housesThatSlept_41 rfl (lv_at hl 4 rfl) ?_
        obtain ⟨p_42, hc_42, h⟩ := of_bind h
        refine x_Vi (av := [.ref (q 0), .ref (q2 0), .int x1]) (As := [.ref (q2 0), .int x1]) F hW (c_X4_isSo l G q (w_5.1, (p_25.1, p_25.2.1, p_25.2.2.1, p_25.2.2.2.1, (upd p_25.2.2.2.2.1 v4_5.toNatClampNeg (0 : Int32)), p_25.2.2.2.2.2.1, p_25.2.2.2.2.2.2.1, p_25.2.2.2.2.2.2.2.1, p_25.2.2.2.2.2.2.2.2), w_5.2.2.1, w_5.2.2.2.1, w_5.2.2.2.2.1, w_5.2.2.2.2.2.1, w_5.2.2.2.2.2.2) q2 w2 x1 _ hc_42) [0, 1, 2, 3, 4, 5, 6, 7, 8, 9, 10, 11, 12, 13, 14, 15, 16, 17, 18, 19, 20, 21, 22] rfl rfl (by intro q; cases q) cv_X4_180 rfl ⟨_, rfl, rfl⟩ rfl rfl rfl hl (Nat.le_of_ble_eq_true rfl) ⟨Nat.le_of_ble_eq_true rfl, Nat.le_of_ble_eq_true rfl⟩ ⟨rfl, rfl⟩ ⟨Nat.le_of_ble_eq_true rfl, Nat.le_of_ble_eq_true rfl⟩ dX4_housesThatSlept_42 rfl [some 0, some 1, some 2, some 3, some 4, some 5, some 6, some 7, some 8, some 9, some 10, some 11, some 12, some 13, some 14, some 15, some 16, some 17, some 18, some 19, some 20, some 21, some 22] rfl (ws' := cTW G q p_42.2 ++ cAR G 16 q2 w2) rfl (fun H locs hW => ?_)
        obtain ⟨ht_45, hf_45⟩ := of_ite h
        refine lv_if_eq (tgt := 55) hx hb dX4_housesThatSlept_45 (by decide) (fun c_45 => ?_) (fun c_45 => ?_)
        · have h := ht_45 c_45
          refine lv_iinc (v := (v4_5 + (1 : Int32))) (lv' := [(4, .int (v4_5 + (1 : Int32))), (3, .int v3_5), (0, .ref (q 0)), (1, .ref (q2 0)), (2, .int x1)]) hx hb dX4_housesThatSlept_55 hl (k := 0) rfl rfl (by decide) rfl (fun ls hl => ?_)
          refine lv_goto (tgt := 5) hx hb dX4_housesThatSlept_58 (by decide) ?_
          exact ih0 (v4_5 + (1 : Int32)) v3_5 p_42.2 _ _ _ h hW (lv_sub hl [0, 1, 2, 3, 4] rfl)
        · have h := hf_45 c_45
          refine lv_iload_n hx hb dX4_housesThatSlept_48 rfl (lv_at hl 1 rfl) ?_
          refine lv_iconst (v := (1 : Int32)) hx hb dX4_housesThatSlept_49 (by decide) ?_
          refine lv_iload hx hb dX4_housesThatSlept_50 (lv_at hl 0 rfl) ?_
          refine lv_ishl hx hb dX4_housesThatSlept_52 ?_
          refine lv_ior hx hb dX4_housesThatSlept_53 ?_
          obtain ⟨x_54, e_x_54, h⟩ := of_nm h
          refine x_topi e_x_54 ?_
          refine lv_istore_n (lv' := [(3, .int x_54), (4, .int v4_5), (0, .ref (q 0)), (1, .ref (q2 0)), (2, .int x1)]) hx hb dX4_housesThatSlept_54 rfl hl (by decide) rfl (fun ls hl => ?_)
          refine lv_iinc (v := (v4_5 + (1 : Int32))) (lv' := [(4, .int (v4_5 + (1 : Int32))), (3, .int x_54), (0, .ref (q 0)), (1, .ref (q2 0)), (2, .int x1)]) hx hb dX4_housesThatSlept_55 hl (k := 1) rfl rfl (by decide) rfl (fun ls hl => ?_)
          refine lv_goto (tgt := 5) hx hb dX4_housesThatSlept_58 (by decide) ?_
          exact ih0 (v4_5 + (1 : Int32)) x_54 p_42.2 _ _ _ h hW (lv_sub hl [0, 1, 2, 3, 4] rfl)
  exact L0 200 (0 : Int32) (0 : Int32) w _ _ _ h hW (lv_sub hl [0, 1, 2, 3, 4] rfl)
def f_X4_kindsThatFit_6 (x1 : Int32) (w2 : (Nat → Int32)) (x2 : Int32) : Nat → Int32 → Int32 → TW → Option (Int32 × TW)
  | 0, _, _, _ => none
  | n0 + 1, v5_6, v4_6, w_6 =>
    if (6 : Int32) ≤ v5_6 then
    some (v4_6, w_6)
    else
    Option.bind (f_X1_become w_6.2.1 w_6.1) fun p_21 =>
    if inR x1 8 then
    Option.bind (f_X4_isSo (w_6.1, (p_21.1, (upd p_21.2.1 x1.toNatClampNeg v5_6), p_21.2.2.1, p_21.2.2.2.1, p_21.2.2.2.2.1, p_21.2.2.2.2.2.1, p_21.2.2.2.2.2.2.1, p_21.2.2.2.2.2.2.2.1, p_21.2.2.2.2.2.2.2.2), w_6.2.2.1, w_6.2.2.2.1, w_6.2.2.2.2.1, w_6.2.2.2.2.2.1, w_6.2.2.2.2.2.2) w2 x2) fun p_38 =>
    if p_38.1 = 0 then
    f_X4_kindsThatFit_6 x1 w2 x2 n0 (v5_6 + (1 : Int32)) v4_6 p_38.2
    else
    nm (v4_6 ||| ((1 : Int32) <<< (v5_6 &&& 31))) fun x_51 =>
    f_X4_kindsThatFit_6 x1 w2 x2 n0 (v5_6 + (1 : Int32)) x_51 p_38.2
    else none
def f_X4_kindsThatFit (w : TW) (x1 : Int32) (w2 : (Nat → Int32)) (x2 : Int32) : Option (Int32 × TW) :=
  f_X4_kindsThatFit_6 x1 w2 x2 200 (0 : Int32) (0 : Int32) w
abbrev rmX4_kindsThatFit : Room := { frames := 5, cells := 0, slots := 0, locals := 122 }
set_option maxRecDepth 100000 in
set_option maxHeartbeats 4000000 in
theorem c_X4_kindsThatFit (l : Launch) (G : EnT) (q : Nat → Nat) (w : TW) (x1 : Int32) (q2 : Nat → Nat) (w2 : (Nat → Int32)) (x2 : Int32) (o : Int32 × TW) (h : f_X4_kindsThatFit w x1 w2 x2 = some o) : Mi l yX4_kindsThatFit rmX4_kindsThatFit cX4_kindsThatFit 6 (some .int) G false [.ref (q 0), .int x1, .ref (q2 0), .int x2] (cTW G q w ++ cAR G 16 q2 w2) o.1 (cTW G q o.2 ++ cAR G 16 q2 w2) := by
  refine Mi_of (by decide) (Nat.le_of_ble_eq_true rfl) ?_
  intro p e s m below meth c A0 F hr hW ls hl
  obtain ⟨hx, hb, hml, hown, hts, hK, hNW, hlocks, hA, hSX⟩ := id F
  have hl : lv_has ls 6 [(0, .ref (q 0)), (1, .int x1), (2, .ref (q2 0)), (3, .int x2)] := hl
  have hW : Wd G A0 s (cTW G q w ++ cAR G 16 q2 w2) s.heap [] := hW
  show W p l e rmX4_kindsThatFit s m ([.ref (q 0), .int x1, .ref (q2 0), .int x2] : List Value).toArray below meth c s.heap [] 0 0 (Qi below G (cTW G q o.2 ++ cAR G 16 q2 w2) o.1 A0 ([.ref (q 0), .int x1, .ref (q2 0), .int x2] : List Value).toArray s) (F0 m 0 ls [])
  refine lv_iconst (v := (0 : Int32)) hx hb dX4_kindsThatFit_0 (by decide) ?_
  refine lv_istore (lv' := [(4, .int (0 : Int32)), (0, .ref (q 0)), (1, .int x1), (2, .ref (q2 0)), (3, .int x2)]) hx hb dX4_kindsThatFit_1 hl (by decide) rfl (fun ls hl => ?_)
  refine lv_iconst (v := (0 : Int32)) hx hb dX4_kindsThatFit_3 (by decide) ?_
  refine lv_istore (lv' := [(5, .int (0 : Int32)), (4, .int (0 : Int32)), (0, .ref (q 0)), (1, .int x1), (2, .ref (q2 0)), (3, .int x2)]) hx hb dX4_kindsThatFit_4 hl (by decide) rfl (fun ls hl => ?_)
  have L0 : ∀ (n0 : Nat) (v5_6 : Int32) (v4_6 : Int32) (w_6 : TW) (H : Heap) (locs : List Loc) (ls : Array Slot), f_X4_kindsThatFit_6 x1 w2 x2 n0 v5_6 v4_6 w_6 = some o → Wd G A0 s (cTW G q w_6 ++ cAR G 16 q2 w2) H locs → lv_has ls 6 [(5, .int v5_6), (4, .int v4_6), (0, .ref (q 0)), (1, .int x1), (2, .ref (q2 0)), (3, .int x2)] → W p l e rmX4_kindsThatFit s m ([.ref (q 0), .int x1, .ref (q2 0), .int x2] : List Value).toArray below meth c H locs 0 0 (Qi below G (cTW G q o.2 ++ cAR G 16 q2 w2) o.1 A0 ([.ref (q 0), .int x1, .ref (q2 0), .int x2] : List Value).toArray s) (F0 m 6 ls []) := by
    intro n0
    induction n0 with
    | zero => intro v5_6 v4_6 w_6 H locs ls h; cases (show (none : Option (Int32 × TW)) = some o from h)
    | succ n0 ih0 =>
      intro v5_6 v4_6 w_6 H locs ls h hW hl
      refine lv_iload hx hb dX4_kindsThatFit_6 (lv_at hl 0 rfl) ?_
      refine lv_bipush (v := (6 : Int32)) hx hb dX4_kindsThatFit_8 (by decide) ?_
      obtain ⟨ht_10, hf_10⟩ := of_ite h
      refine lv_icmp_ge (tgt := 59) hx hb dX4_kindsThatFit_10 (by decide) (fun c_10 => ?_) (fun c_10 => ?_)
      · have h := ht_10 c_10
        refine lv_iload hx hb dX4_kindsThatFit_59 (lv_at hl 1 rfl) ?_
        obtain rfl := Option.some.inj h
        exact x_reti F hr hW rfl dX4_kindsThatFit_61
      · have h := hf_10 c_10
        refine lv_aload_n hx hb dX4_kindsThatFit_13 rfl (lv_at hl 2 rfl) ?_
        refine x_get F hW 0 rfl fa_X4_18 rfl dX4_kindsThatFit_14 ?_
        refine lv_aload_n hx hb dX4_kindsThatFit_17 rfl (lv_at hl 2 rfl) ?_
        refine x_get F hW 0 rfl fa_X4_12 rfl dX4_kindsThatFit_18 ?_
        obtain ⟨p_21, hc_21, h⟩ := of_bind h
        refine x_Vv (av := [.ref (q 7), .ref (q 1)]) (As := [.ref (q 1)]) F hW (c_X1_become l G (fun i => q (i + 7)) w_6.2.1 (fun i => q (i + 1)) w_6.1 _ hc_21) [7, 8, 9, 10, 11, 12, 1, 2, 3, 4, 5, 6] rfl rfl (by intro q; cases q) cv_X4_41 rfl ⟨_, rfl, rfl⟩ rfl rfl rfl hl (Nat.le_of_ble_eq_true rfl) ⟨Nat.le_of_ble_eq_true rfl, Nat.le_of_ble_eq_true rfl⟩ ⟨rfl, rfl⟩ ⟨Nat.le_of_ble_eq_true rfl, Nat.le_of_ble_eq_true rfl⟩ dX4_kindsThatFit_21 rfl [none, some 6, some 7, some 8, some 9, some 10, some 11, some 0, some 1, some 2, some 3, some 4, some 5, none, none, none, none, none, none, none, none, none, none] rfl (ws' := cTW G q (w_6.1, p_21, w_6.2.2.1, w_6.2.2.2.1, w_6.2.2.2.2.1, w_6.2.2.2.2.2.1, w_6.2.2.2.2.2.2) ++ cAR G 16 q2 w2) rfl (fun H locs hW => ?_)
        refine lv_aload_n hx hb dX4_kindsThatFit_24 rfl (lv_at hl 2 rfl) ?_
        refine x_get F hW 0 rfl fa_X4_18 rfl dX4_kindsThatFit_25 ?_
        refine x_get F hW 7 rfl fa_X4_184 rfl dX4_kindsThatFit_28 ?_
        refine lv_iload_n hx hb dX4_kindsThatFit_31 rfl (lv_at hl 3 rfl) ?_
        refine lv_iload hx hb dX4_kindsThatFit_32 (lv_at hl 0 rfl) ?_
        obtain ⟨g_34, h⟩ := of_guard h
        refine x_iast F hW 9 rfl g_34 (ws' := cTW G q (w_6.1, (p_21.1, (upd p_21.2.1 x1.toNatClampNeg v5_6), p_21.2.2.1, p_21.2.2.2.1, p_21.2.2.2.2.1, p_21.2.2.2.2.2.1, p_21.2.2.2.2.2.2.1, p_21.2.2.2.2.2.2.2.1, p_21.2.2.2.2.2.2.2.2), w_6.2.2.1, w_6.2.2.2.1, w_6.2.2.2.2.1, w_6.2.2.2.2.2.1, w_6.2.2.2.2.2.2) ++ cAR G 16 q2 w2) rfl dX4_kindsThatFit_34 (fun H locs hW => ?_)
        refine lv_aload_n hx hb dX4_kindsThatFit_35 rfl (lv_at hl 2 rfl) ?_
        refine lv_aload_n hx hb dX4_kindsThatFit_36 rfl (lv_at hl 4 rfl) ?_
        refine lv_iload_n hx hb dX4_kindsThatFit_37 rfl (lv_at hl 5 rfl) ?_
        obtain ⟨p_38, hc_38, h⟩ := of_bind h
        refine x_Vi (av := [.ref (q 0), .ref (q2 0), .int x2]) (As := [.ref (q2 0), .int x2]) F hW (c_X4_isSo l G q (w_6.1, (p_21.1, (upd p_21.2.1 x1.toNatClampNeg v5_6), p_21.2.2.1, p_21.2.2.2.1, p_21.2.2.2.2.1, p_21.2.2.2.2.2.1, p_21.2.2.2.2.2.2.1, p_21.2.2.2.2.2.2.2.1, p_21.2.2.2.2.2.2.2.2), w_6.2.2.1, w_6.2.2.2.1, w_6.2.2.2.2.1, w_6.2.2.2.2.2.1, w_6.2.2.2.2.2.2) q2 w2 x2 _ hc_38) [0, 1, 2, 3, 4, 5, 6, 7, 8, 9, 10, 11, 12, 13, 14, 15, 16, 17, 18, 19, 20, 21, 22] rfl rfl (by intro q; cases q) cv_X4_180 rfl ⟨_, rfl, rfl⟩ rfl rfl rfl hl (Nat.le_of_ble_eq_true rfl) ⟨Nat.le_of_ble_eq_true rfl, Nat.le_of_ble_eq_true rfl⟩ ⟨rfl, rfl⟩ ⟨Nat.le_of_ble_eq_true rfl, Nat.le_of_ble_eq_true rfl⟩ dX4_kindsThatFit_38 rfl [some 0, some 1, some 2, some 3, some 4, some 5, some 6, some 7, some 8, some 9, some 10, some 11, some 12, some 13, some 14, some 15, some 16, some 17, some 18, some 19, some 20, some 21, some 22] rfl (ws' := cTW G q p_38.2 ++ cAR G 16 q2 w2) rfl (fun H locs hW => ?_)
        obtain ⟨ht_41, hf_41⟩ := of_ite h
        refine lv_if_eq (tgt := 53) hx hb dX4_kindsThatFit_41 (by decide) (fun c_41 => ?_) (fun c_41 => ?_)
        · have h := ht_41 c_41
          refine lv_iinc (v := (v5_6 + (1 : Int32))) (lv' := [(5, .int (v5_6 + (1 : Int32))), (4, .int v4_6), (0, .ref (q 0)), (1, .int x1), (2, .ref (q2 0)), (3, .int x2)]) hx hb dX4_kindsThatFit_53 hl (k := 0) rfl rfl (by decide) rfl (fun ls hl => ?_)
          refine lv_goto (tgt := 6) hx hb dX4_kindsThatFit_56 (by decide) ?_
          exact ih0 (v5_6 + (1 : Int32)) v4_6 p_38.2 _ _ _ h hW (lv_sub hl [0, 1, 2, 3, 4, 5] rfl)
        · have h := hf_41 c_41
          refine lv_iload hx hb dX4_kindsThatFit_44 (lv_at hl 1 rfl) ?_
          refine lv_iconst (v := (1 : Int32)) hx hb dX4_kindsThatFit_46 (by decide) ?_
          refine lv_iload hx hb dX4_kindsThatFit_47 (lv_at hl 0 rfl) ?_
          refine lv_ishl hx hb dX4_kindsThatFit_49 ?_
          refine lv_ior hx hb dX4_kindsThatFit_50 ?_
          obtain ⟨x_51, e_x_51, h⟩ := of_nm h
          refine x_topi e_x_51 ?_
          refine lv_istore (lv' := [(4, .int x_51), (5, .int v5_6), (0, .ref (q 0)), (1, .int x1), (2, .ref (q2 0)), (3, .int x2)]) hx hb dX4_kindsThatFit_51 hl (by decide) rfl (fun ls hl => ?_)
          refine lv_iinc (v := (v5_6 + (1 : Int32))) (lv' := [(5, .int (v5_6 + (1 : Int32))), (4, .int x_51), (0, .ref (q 0)), (1, .int x1), (2, .ref (q2 0)), (3, .int x2)]) hx hb dX4_kindsThatFit_53 hl (k := 1) rfl rfl (by decide) rfl (fun ls hl => ?_)
          refine lv_goto (tgt := 6) hx hb dX4_kindsThatFit_56 (by decide) ?_
          exact ih0 (v5_6 + (1 : Int32)) x_51 p_38.2 _ _ _ h hW (lv_sub hl [0, 1, 2, 3, 4, 5] rfl)
  exact L0 200 (0 : Int32) (0 : Int32) w _ _ _ h hW (lv_sub hl [0, 1, 2, 3, 4, 5] rfl)
def f_X4_figuresThatFit_6 (x1 : Int32) (w2 : (Nat → Int32)) (x2 : Int32) : Nat → Int32 → Int32 → TW → Option (Int32 × TW)
  | 0, _, _, _ => none
  | n0 + 1, v5_6, v4_6, w_6 =>
    if (9 : Int32) < v5_6 then
    some (v4_6, w_6)
    else
    Option.bind (f_X1_become w_6.2.1 w_6.1) fun p_21 =>
    if inR x1 8 then
    Option.bind (f_X4_isSo (w_6.1, (p_21.1, p_21.2.1, (upd p_21.2.2.1 x1.toNatClampNeg v5_6), p_21.2.2.2.1, p_21.2.2.2.2.1, p_21.2.2.2.2.2.1, p_21.2.2.2.2.2.2.1, p_21.2.2.2.2.2.2.2.1, p_21.2.2.2.2.2.2.2.2), w_6.2.2.1, w_6.2.2.2.1, w_6.2.2.2.2.1, w_6.2.2.2.2.2.1, w_6.2.2.2.2.2.2) w2 x2) fun p_38 =>
    if p_38.1 = 0 then
    f_X4_figuresThatFit_6 x1 w2 x2 n0 (v5_6 + (1 : Int32)) v4_6 p_38.2
    else
    nm (v4_6 ||| ((1 : Int32) <<< (v5_6 &&& 31))) fun x_51 =>
    f_X4_figuresThatFit_6 x1 w2 x2 n0 (v5_6 + (1 : Int32)) x_51 p_38.2
    else none
def f_X4_figuresThatFit (w : TW) (x1 : Int32) (w2 : (Nat → Int32)) (x2 : Int32) : Option (Int32 × TW) :=
  f_X4_figuresThatFit_6 x1 w2 x2 200 (0 : Int32) (0 : Int32) w
abbrev rmX4_figuresThatFit : Room := { frames := 5, cells := 0, slots := 0, locals := 122 }
set_option maxRecDepth 100000 in
set_option maxHeartbeats 4000000 in
theorem c_X4_figuresThatFit (l : Launch) (G : EnT) (q : Nat → Nat) (w : TW) (x1 : Int32) (q2 : Nat → Nat) (w2 : (Nat → Int32)) (x2 : Int32) (o : Int32 × TW) (h : f_X4_figuresThatFit w x1 w2 x2 = some o) : Mi l yX4_figuresThatFit rmX4_figuresThatFit cX4_figuresThatFit 6 (some .int) G false [.ref (q 0), .int x1, .ref (q2 0), .int x2] (cTW G q w ++ cAR G 16 q2 w2) o.1 (cTW G q o.2 ++ cAR G 16 q2 w2) := by
  refine Mi_of (by decide) (Nat.le_of_ble_eq_true rfl) ?_
  intro p e s m below meth c A0 F hr hW ls hl
  obtain ⟨hx, hb, hml, hown, hts, hK, hNW, hlocks, hA, hSX⟩ := id F
  have hl : lv_has ls 6 [(0, .ref (q 0)), (1, .int x1), (2, .ref (q2 0)), (3, .int x2)] := hl
  have hW : Wd G A0 s (cTW G q w ++ cAR G 16 q2 w2) s.heap [] := hW
  show W p l e rmX4_figuresThatFit s m ([.ref (q 0), .int x1, .ref (q2 0), .int x2] : List Value).toArray below meth c s.heap [] 0 0 (Qi below G (cTW G q o.2 ++ cAR G 16 q2 w2) o.1 A0 ([.ref (q 0), .int x1, .ref (q2 0), .int x2] : List Value).toArray s) (F0 m 0 ls [])
  refine lv_iconst (v := (0 : Int32)) hx hb dX4_figuresThatFit_0 (by decide) ?_
  refine lv_istore (lv' := [(4, .int (0 : Int32)), (0, .ref (q 0)), (1, .int x1), (2, .ref (q2 0)), (3, .int x2)]) hx hb dX4_figuresThatFit_1 hl (by decide) rfl (fun ls hl => ?_)
  refine lv_iconst (v := (0 : Int32)) hx hb dX4_figuresThatFit_3 (by decide) ?_
  refine lv_istore (lv' := [(5, .int (0 : Int32)), (4, .int (0 : Int32)), (0, .ref (q 0)), (1, .int x1), (2, .ref (q2 0)), (3, .int x2)]) hx hb dX4_figuresThatFit_4 hl (by decide) rfl (fun ls hl => ?_)
  have L0 : ∀ (n0 : Nat) (v5_6 : Int32) (v4_6 : Int32) (w_6 : TW) (H : Heap) (locs : List Loc) (ls : Array Slot), f_X4_figuresThatFit_6 x1 w2 x2 n0 v5_6 v4_6 w_6 = some o → Wd G A0 s (cTW G q w_6 ++ cAR G 16 q2 w2) H locs → lv_has ls 6 [(5, .int v5_6), (4, .int v4_6), (0, .ref (q 0)), (1, .int x1), (2, .ref (q2 0)), (3, .int x2)] → W p l e rmX4_figuresThatFit s m ([.ref (q 0), .int x1, .ref (q2 0), .int x2] : List Value).toArray below meth c H locs 0 0 (Qi below G (cTW G q o.2 ++ cAR G 16 q2 w2) o.1 A0 ([.ref (q 0), .int x1, .ref (q2 0), .int x2] : List Value).toArray s) (F0 m 6 ls []) := by
    intro n0
    induction n0 with
    | zero => intro v5_6 v4_6 w_6 H locs ls h; cases (show (none : Option (Int32 × TW)) = some o from h)
    | succ n0 ih0 =>
      intro v5_6 v4_6 w_6 H locs ls h hW hl
      refine lv_iload hx hb dX4_figuresThatFit_6 (lv_at hl 0 rfl) ?_
      refine lv_bipush (v := (9 : Int32)) hx hb dX4_figuresThatFit_8 (by decide) ?_
      obtain ⟨ht_10, hf_10⟩ := of_ite h
      refine lv_icmp_gt (tgt := 59) hx hb dX4_figuresThatFit_10 (by decide) (fun c_10 => ?_) (fun c_10 => ?_)
      · have h := ht_10 c_10
        refine lv_iload hx hb dX4_figuresThatFit_59 (lv_at hl 1 rfl) ?_
        obtain rfl := Option.some.inj h
        exact x_reti F hr hW rfl dX4_figuresThatFit_61
      · have h := hf_10 c_10
        refine lv_aload_n hx hb dX4_figuresThatFit_13 rfl (lv_at hl 2 rfl) ?_
        refine x_get F hW 0 rfl fa_X4_18 rfl dX4_figuresThatFit_14 ?_
        refine lv_aload_n hx hb dX4_figuresThatFit_17 rfl (lv_at hl 2 rfl) ?_
        refine x_get F hW 0 rfl fa_X4_12 rfl dX4_figuresThatFit_18 ?_
        obtain ⟨p_21, hc_21, h⟩ := of_bind h
        refine x_Vv (av := [.ref (q 7), .ref (q 1)]) (As := [.ref (q 1)]) F hW (c_X1_become l G (fun i => q (i + 7)) w_6.2.1 (fun i => q (i + 1)) w_6.1 _ hc_21) [7, 8, 9, 10, 11, 12, 1, 2, 3, 4, 5, 6] rfl rfl (by intro q; cases q) cv_X4_41 rfl ⟨_, rfl, rfl⟩ rfl rfl rfl hl (Nat.le_of_ble_eq_true rfl) ⟨Nat.le_of_ble_eq_true rfl, Nat.le_of_ble_eq_true rfl⟩ ⟨rfl, rfl⟩ ⟨Nat.le_of_ble_eq_true rfl, Nat.le_of_ble_eq_true rfl⟩ dX4_figuresThatFit_21 rfl [none, some 6, some 7, some 8, some 9, some 10, some 11, some 0, some 1, some 2, some 3, some 4, some 5, none, none, none, none, none, none, none, none, none, none] rfl (ws' := cTW G q (w_6.1, p_21, w_6.2.2.1, w_6.2.2.2.1, w_6.2.2.2.2.1, w_6.2.2.2.2.2.1, w_6.2.2.2.2.2.2) ++ cAR G 16 q2 w2) rfl (fun H locs hW => ?_)
        refine lv_aload_n hx hb dX4_figuresThatFit_24 rfl (lv_at hl 2 rfl) ?_
        refine x_get F hW 0 rfl fa_X4_18 rfl dX4_figuresThatFit_25 ?_
        refine x_get F hW 7 rfl fa_X4_187 rfl dX4_figuresThatFit_28 ?_
        refine lv_iload_n hx hb dX4_figuresThatFit_31 rfl (lv_at hl 3 rfl) ?_
        refine lv_iload hx hb dX4_figuresThatFit_32 (lv_at hl 0 rfl) ?_
        obtain ⟨g_34, h⟩ := of_guard h
        refine x_iast F hW 10 rfl g_34 (ws' := cTW G q (w_6.1, (p_21.1, p_21.2.1, (upd p_21.2.2.1 x1.toNatClampNeg v5_6), p_21.2.2.2.1, p_21.2.2.2.2.1, p_21.2.2.2.2.2.1, p_21.2.2.2.2.2.2.1, p_21.2.2.2.2.2.2.2.1, p_21.2.2.2.2.2.2.2.2), w_6.2.2.1, w_6.2.2.2.1, w_6.2.2.2.2.1, w_6.2.2.2.2.2.1, w_6.2.2.2.2.2.2) ++ cAR G 16 q2 w2) rfl dX4_figuresThatFit_34 (fun H locs hW => ?_)
        refine lv_aload_n hx hb dX4_figuresThatFit_35 rfl (lv_at hl 2 rfl) ?_
        refine lv_aload_n hx hb dX4_figuresThatFit_36 rfl (lv_at hl 4 rfl) ?_
        refine lv_iload_n hx hb dX4_figuresThatFit_37 rfl (lv_at hl 5 rfl) ?_
        obtain ⟨p_38, hc_38, h⟩ := of_bind h
        refine x_Vi (av := [.ref (q 0), .ref (q2 0), .int x2]) (As := [.ref (q2 0), .int x2]) F hW (c_X4_isSo l G q (w_6.1, (p_21.1, p_21.2.1, (upd p_21.2.2.1 x1.toNatClampNeg v5_6), p_21.2.2.2.1, p_21.2.2.2.2.1, p_21.2.2.2.2.2.1, p_21.2.2.2.2.2.2.1, p_21.2.2.2.2.2.2.2.1, p_21.2.2.2.2.2.2.2.2), w_6.2.2.1, w_6.2.2.2.1, w_6.2.2.2.2.1, w_6.2.2.2.2.2.1, w_6.2.2.2.2.2.2) q2 w2 x2 _ hc_38) [0, 1, 2, 3, 4, 5, 6, 7, 8, 9, 10, 11, 12, 13, 14, 15, 16, 17, 18, 19, 20, 21, 22] rfl rfl (by intro q; cases q) cv_X4_180 rfl ⟨_, rfl, rfl⟩ rfl rfl rfl hl (Nat.le_of_ble_eq_true rfl) ⟨Nat.le_of_ble_eq_true rfl, Nat.le_of_ble_eq_true rfl⟩ ⟨rfl, rfl⟩ ⟨Nat.le_of_ble_eq_true rfl, Nat.le_of_ble_eq_true rfl⟩ dX4_figuresThatFit_38 rfl [some 0, some 1, some 2, some 3, some 4, some 5, some 6, some 7, some 8, some 9, some 10, some 11, some 12, some 13, some 14, some 15, some 16, some 17, some 18, some 19, some 20, some 21, some 22] rfl (ws' := cTW G q p_38.2 ++ cAR G 16 q2 w2) rfl (fun H locs hW => ?_)
        obtain ⟨ht_41, hf_41⟩ := of_ite h
        refine lv_if_eq (tgt := 53) hx hb dX4_figuresThatFit_41 (by decide) (fun c_41 => ?_) (fun c_41 => ?_)
        · have h := ht_41 c_41
          refine lv_iinc (v := (v5_6 + (1 : Int32))) (lv' := [(5, .int (v5_6 + (1 : Int32))), (4, .int v4_6), (0, .ref (q 0)), (1, .int x1), (2, .ref (q2 0)), (3, .int x2)]) hx hb dX4_figuresThatFit_53 hl (k := 0) rfl rfl (by decide) rfl (fun ls hl => ?_)
          refine lv_goto (tgt := 6) hx hb dX4_figuresThatFit_56 (by decide) ?_
          exact ih0 (v5_6 + (1 : Int32)) v4_6 p_38.2 _ _ _ h hW (lv_sub hl [0, 1, 2, 3, 4, 5] rfl)
        · have h := hf_41 c_41
          refine lv_iload hx hb dX4_figuresThatFit_44 (lv_at hl 1 rfl) ?_
          refine lv_iconst (v := (1 : Int32)) hx hb dX4_figuresThatFit_46 (by decide) ?_
          refine lv_iload hx hb dX4_figuresThatFit_47 (lv_at hl 0 rfl) ?_
          refine lv_ishl hx hb dX4_figuresThatFit_49 ?_
          refine lv_ior hx hb dX4_figuresThatFit_50 ?_
          obtain ⟨x_51, e_x_51, h⟩ := of_nm h
          refine x_topi e_x_51 ?_
          refine lv_istore (lv' := [(4, .int x_51), (5, .int v5_6), (0, .ref (q 0)), (1, .int x1), (2, .ref (q2 0)), (3, .int x2)]) hx hb dX4_figuresThatFit_51 hl (by decide) rfl (fun ls hl => ?_)
          refine lv_iinc (v := (v5_6 + (1 : Int32))) (lv' := [(5, .int (v5_6 + (1 : Int32))), (4, .int x_51), (0, .ref (q 0)), (1, .int x1), (2, .ref (q2 0)), (3, .int x2)]) hx hb dX4_figuresThatFit_53 hl (k := 1) rfl rfl (by decide) rfl (fun ls hl => ?_)
          refine lv_goto (tgt := 6) hx hb dX4_figuresThatFit_56 (by decide) ?_
          exact ih0 (v5_6 + (1 : Int32)) x_51 p_38.2 _ _ _ h hW (lv_sub hl [0, 1, 2, 3, 4, 5] rfl)
  exact L0 200 (0 : Int32) (0 : Int32) w _ _ _ h hW (lv_sub hl [0, 1, 2, 3, 4, 5] rfl)
def f_X4_drawn (x1 : Int32) (x2 : Int32) : Option (Int32) :=
  if x2 ≤ 0 then
    some (0 : Int32)
    else
    if x2 = 0 then none else
    some (remI ((x1 &&& (2147483647 : Int32)) / (256 : Int32)) x2)
abbrev rmX4_drawn : Room := { frames := 0, cells := 0, slots := 0, locals := 0 }
set_option maxRecDepth 100000 in
set_option maxHeartbeats 4000000 in
theorem c_X4_drawn (l : Launch) (G : EnT) (x1 : Int32) (x2 : Int32) (o : Int32) (h : f_X4_drawn x1 x2 = some o) : Mi l yX4_drawn rmX4_drawn cX4_drawn 2 (some .int) G false [.int x1, .int x2] ([]) o ([]) := by
  refine Mi_of (by decide) (Nat.le_of_ble_eq_true rfl) ?_
  intro p e s m below meth c A0 F hr hW ls hl
  obtain ⟨hx, hb, hml, hown, hts, hK, hNW, hlocks, hA, hSX⟩ := id F
  have hl : lv_has ls 2 [(0, .int x1), (1, .int x2)] := hl
  have hW : Wd G A0 s ([]) s.heap [] := hW
  show W p l e rmX4_drawn s m ([.int x1, .int x2] : List Value).toArray below meth c s.heap [] 0 0 (Qi below G ([]) o A0 ([.int x1, .int x2] : List Value).toArray s) (F0 m 0 ls [])
  refine lv_iload_n hx hb dX4_drawn_0 rfl (lv_at hl 1 rfl) ?_
  obtain ⟨ht_1, hf_1⟩ := of_ite h
  refine lv_if_le (tgt := 17) hx hb dX4_drawn_1 (by decide) (fun c_1 => ?_) (fun c_1 => ?_)
  · have h := ht_1 c_1
    refine lv_iconst (v := (0 : Int32)) hx hb dX4_drawn_17 (by decide) ?_
    obtain rfl := Option.some.inj h
    exact x_reti F hr hW rfl dX4_drawn_18
  · have h := hf_1 c_1
    refine lv_iload_n hx hb dX4_drawn_4 rfl (lv_at hl 0 rfl) ?_
    refine lv_ldc (v := (2147483647 : Int32)) hx hb hown (hts _ wd_845) dX4_drawn_5 ?_
    refine lv_iand hx hb dX4_drawn_7 ?_
    refine lv_sipush (v := (256 : Int32)) hx hb dX4_drawn_8 (by decide) ?_
    refine lv_idiv hx hb dX4_drawn_11 (by decide) ?_
    refine lv_iload_n hx hb dX4_drawn_12 rfl (lv_at hl 1 rfl) ?_
    obtain ⟨g_13, h⟩ := of_nguard h
    refine lv_irem hx hb dX4_drawn_13 g_13 ?_
    refine lv_goto (tgt := 18) hx hb dX4_drawn_14 (by decide) ?_
    obtain rfl := Option.some.inj h
    exact x_reti F hr hW rfl dX4_drawn_18
def f_X4_nextSeed (x1 : Int32) : Option (Int32) :=
  some ((x1 * (1664525 : Int32)) + (1013904223 : Int32))
abbrev rmX4_nextSeed : Room := { frames := 0, cells := 0, slots := 0, locals := 0 }
set_option maxRecDepth 100000 in
set_option maxHeartbeats 4000000 in
theorem c_X4_nextSeed (l : Launch) (G : EnT) (x1 : Int32) (o : Int32) (h : f_X4_nextSeed x1 = some o) : Mi l yX4_nextSeed rmX4_nextSeed cX4_nextSeed 1 (some .int) G false [.int x1] ([]) o ([]) := by
  refine Mi_of (by decide) (Nat.le_of_ble_eq_true rfl) ?_
  intro p e s m below meth c A0 F hr hW ls hl
  obtain ⟨hx, hb, hml, hown, hts, hK, hNW, hlocks, hA, hSX⟩ := id F
  have hl : lv_has ls 1 [(0, .int x1)] := hl
  have hW : Wd G A0 s ([]) s.heap [] := hW
  show W p l e rmX4_nextSeed s m ([.int x1] : List Value).toArray below meth c s.heap [] 0 0 (Qi below G ([]) o A0 ([.int x1] : List Value).toArray s) (F0 m 0 ls [])
  refine lv_iload_n hx hb dX4_nextSeed_0 rfl (lv_at hl 0 rfl) ?_
  refine lv_ldc (v := (1664525 : Int32)) hx hb hown (hts _ wd_840) dX4_nextSeed_1 ?_
  refine lv_imul hx hb dX4_nextSeed_3 ?_
  refine lv_ldc (v := (1013904223 : Int32)) hx hb hown (hts _ wd_841) dX4_nextSeed_4 ?_
  refine lv_iadd hx hb dX4_nextSeed_6 ?_
  obtain rfl := Option.some.inj h
  exact x_reti F hr hW rfl dX4_nextSeed_7
