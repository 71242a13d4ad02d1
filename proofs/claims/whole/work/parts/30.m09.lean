def f_X6_lots_72 (k0 : Int32 → Int32 → MW → Option (Int32 × MW)) (x3 : Int32) (v4_52 : Int32) (v5_52 : Int32) : Nat → Int32 → MW → Option (Int32 × MW)
  | 0, _, _ => none
  | n1 + 1, v6_72, w_72 =>
    if inR (0 : Int32) 71 then
    if (w_72.1 (0 : Int32).toNatClampNeg) ≤ v6_72 then
    Option.bind (f_X6_nightsOn w_72.2.1 (4 : Int32)) fun p_127 =>
    nm p_127.1 fun x_130 =>
    if x3 = 0 then
    Option.bind (f_X6_hangIn p_127.2) fun p_142 =>
    Option.bind (f_X6_bits p_142) fun p_145 =>
    nm (v4_52 + p_145) fun x_159_2 =>
    k0 (v5_52 + (1 : Int32)) x_159_2 (w_72.1, p_127.2, w_72.2.2.1, w_72.2.2.2.1, w_72.2.2.2.2.1, w_72.2.2.2.2.2.1, w_72.2.2.2.2.2.2.1, w_72.2.2.2.2.2.2.2.1, w_72.2.2.2.2.2.2.2.2.1, w_72.2.2.2.2.2.2.2.2.2.1, w_72.2.2.2.2.2.2.2.2.2.2.1, w_72.2.2.2.2.2.2.2.2.2.2.2.1, w_72.2.2.2.2.2.2.2.2.2.2.2.2.1, w_72.2.2.2.2.2.2.2.2.2.2.2.2.2)
    else
    Option.bind (f_X6_allWicks p_127.2) fun p_155 =>
    nm (v4_52 + p_155) fun x_159 =>
    k0 (v5_52 + (1 : Int32)) x_159 (w_72.1, p_127.2, w_72.2.2.1, w_72.2.2.2.1, w_72.2.2.2.2.1, w_72.2.2.2.2.2.1, w_72.2.2.2.2.2.2.1, w_72.2.2.2.2.2.2.2.1, w_72.2.2.2.2.2.2.2.2.1, w_72.2.2.2.2.2.2.2.2.2.1, w_72.2.2.2.2.2.2.2.2.2.2.1, w_72.2.2.2.2.2.2.2.2.2.2.2.1, w_72.2.2.2.2.2.2.2.2.2.2.2.2.1, w_72.2.2.2.2.2.2.2.2.2.2.2.2.2)
    else
    Option.bind (f_X6_of v6_72 (2 : Int32)) fun p_90 =>
    Option.bind (f_X6_drawn w_72 (20 : Int32)) fun p_96 =>
    if inR p_90 71 then
    Option.bind (f_X6_of v6_72 (3 : Int32)) fun p_107 =>
    Option.bind (f_X6_drawn (p_96.2.1, (upd p_96.2.2.1 p_90.toNatClampNeg p_96.1), p_96.2.2.2.1, p_96.2.2.2.2.1, p_96.2.2.2.2.2.1, p_96.2.2.2.2.2.2.1, p_96.2.2.2.2.2.2.2.1, p_96.2.2.2.2.2.2.2.2.1, p_96.2.2.2.2.2.2.2.2.2.1, p_96.2.2.2.2.2.2.2.2.2.2.1, p_96.2.2.2.2.2.2.2.2.2.2.2.1, p_96.2.2.2.2.2.2.2.2.2.2.2.2.1, p_96.2.2.2.2.2.2.2.2.2.2.2.2.2.1, p_96.2.2.2.2.2.2.2.2.2.2.2.2.2.2) (5 : Int32)) fun p_112 =>
    if inR p_107 71 then
    f_X6_lots_72 k0 x3 v4_52 v5_52 n1 (v6_72 + (1 : Int32)) (p_112.2.1, (upd p_112.2.2.1 p_107.toNatClampNeg p_112.1), p_112.2.2.2.1, p_112.2.2.2.2.1, p_112.2.2.2.2.2.1, p_112.2.2.2.2.2.2.1, p_112.2.2.2.2.2.2.2.1, p_112.2.2.2.2.2.2.2.2.1, p_112.2.2.2.2.2.2.2.2.2.1, p_112.2.2.2.2.2.2.2.2.2.2.1, p_112.2.2.2.2.2.2.2.2.2.2.2.1, p_112.2.2.2.2.2.2.2.2.2.2.2.2.1, p_112.2.2.2.2.2.2.2.2.2.2.2.2.2.1, p_112.2.2.2.2.2.2.2.2.2.2.2.2.2.2)
    else none
    else none
    else none
def f_X6_lots_52 (x1 : Int32) (x3 : Int32) : Nat → Int32 → Int32 → MW → Option (Int32 × MW)
  | 0, _, _, _ => none
  | n0 + 1, v5_52, v4_52, w_52 =>
    if x1 ≤ v5_52 then
    some (v4_52, w_52)
    else
    Option.bind (f_X6_copies w_52.1 w_52.2.1) fun p_66 =>
    f_X6_lots_72 (fun a0 a1 a2 => f_X6_lots_52 x1 x3 n0 a0 a1 a2) x3 v4_52 v5_52 200 (0 : Int32) (w_52.1, p_66, w_52.2.2.1, w_52.2.2.2.1, w_52.2.2.2.2.1, w_52.2.2.2.2.2.1, w_52.2.2.2.2.2.2.1, w_52.2.2.2.2.2.2.2.1, w_52.2.2.2.2.2.2.2.2.1, w_52.2.2.2.2.2.2.2.2.2.1, w_52.2.2.2.2.2.2.2.2.2.2.1, w_52.2.2.2.2.2.2.2.2.2.2.2.1, w_52.2.2.2.2.2.2.2.2.2.2.2.2.1, w_52.2.2.2.2.2.2.2.2.2.2.2.2.2)
def f_X6_lots (w : MW) (x1 : Int32) (x2 : Int32) (x3 : Int32) : Option (Int32 × MW) :=
  if (1 : Int32) ≤ x1 then
    if x1 ≤ (20 : Int32) then
    Option.bind (f_X6_isIn x3 (0 : Int32) (1 : Int32)) fun p_28 =>
    if p_28 = 0 then
    Option.bind (f_X6_no w (-2 : Int32)) fun p_37 =>
    some (p_37.1, p_37.2)
    else
    f_X6_lots_52 x1 x3 200 (0 : Int32) (0 : Int32) (w.1, w.2.1, w.2.2.1, w.2.2.2.1, w.2.2.2.2.1, w.2.2.2.2.2.1, w.2.2.2.2.2.2.1, w.2.2.2.2.2.2.2.1, w.2.2.2.2.2.2.2.2.1, w.2.2.2.2.2.2.2.2.2.1, w.2.2.2.2.2.2.2.2.2.2.1, w.2.2.2.2.2.2.2.2.2.2.2.1, w.2.2.2.2.2.2.2.2.2.2.2.2.1, x2)
    else
    Option.bind (f_X6_no w (-6 : Int32)) fun p_21 =>
    some (p_21.1, p_21.2)
    else
    Option.bind (f_X6_no w (-4 : Int32)) fun p_8 =>
    some (p_8.1, p_8.2)
abbrev rmX6_lots : Room := { frames := 5, cells := 0, slots := 0, locals := 115 }
set_option maxRecDepth 100000 in
set_option maxHeartbeats 4000000 in
theorem c_X6_lots (l : Launch) (G : EnT) (q : Nat → Nat) (w : MW) (x1 : Int32) (x2 : Int32) (x3 : Int32) (o : Int32 × MW) (h : f_X6_lots w x1 x2 x3 = some o) : Mi l yX6_lots rmX6_lots cX6_lots 7 (some .int) G false [.ref (q 0), .int x1, .int x2, .int x3] (cMW G q w) o.1 (cMW G q o.2) := by
  refine Mi_of (by decide) (Nat.le_of_ble_eq_true rfl) ?_
  intro p e s m below meth c A0 F hr hW ls hl
  obtain ⟨hx, hb, hml, hown, hts, hK, hNW, hlocks, hA, hSX⟩ := id F
  have hl : lv_has ls 7 [(0, .ref (q 0)), (1, .int x1), (2, .int x2), (3, .int x3)] := hl
  have hW : Wd G A0 s (cMW G q w) s.heap [] := hW
  show W p l e rmX6_lots s m ([.ref (q 0), .int x1, .int x2, .int x3] : List Value).toArray below meth c s.heap [] 0 0 (Qi below G (cMW G q o.2) o.1 A0 ([.ref (q 0), .int x1, .int x2, .int x3] : List Value).toArray s) (F0 m 0 ls [])
  refine lv_iload_n hx hb dX6_lots_0 rfl (lv_at hl 1 rfl) ?_
  refine lv_iconst (v := (1 : Int32)) hx hb dX6_lots_1 (by decide) ?_
  obtain ⟨ht_2, hf_2⟩ := of_ite h
  refine lv_icmp_ge (tgt := 12) hx hb dX6_lots_2 (by decide) (fun c_2 => ?_) (fun c_2 => ?_)
  · have h := ht_2 c_2
    refine lv_iload_n hx hb dX6_lots_12 rfl (lv_at hl 1 rfl) ?_
    refine lv_bipush (v := (20 : Int32)) hx hb dX6_lots_13 (by decide) ?_
    obtain ⟨ht_15, hf_15⟩ := of_ite h
    refine lv_icmp_le (tgt := 25) hx hb dX6_lots_15 (by decide) (fun c_15 => ?_) (fun c_15 => ?_)
    · have h := ht_15 c_15
      refine lv_iload_n hx hb dX6_lots_25 rfl (lv_at hl 3 rfl) ?_
      refine lv_iconst (v := (0 : Int32)) hx hb dX6_lots_26 (by decide) ?_
      refine lv_iconst (v := (1 : Int32)) hx hb dX6_lots_27 (by decide) ?_
      obtain ⟨p_28, hc_28, h⟩ := of_bind h
      refine x_Si (av := [.int x3, .int (0 : Int32), .int (1 : Int32)]) F hW (c_X6_isIn l G x3 (0 : Int32) (1 : Int32) _ hc_28) [] rfl rfl (by intro q; cases q) cs_X6_43 rfl rfl hl (Nat.le_of_ble_eq_true rfl) ⟨Nat.le_of_ble_eq_true rfl, Nat.le_of_ble_eq_true rfl⟩ ⟨rfl, rfl⟩ ⟨Nat.le_of_ble_eq_true rfl, Nat.le_of_ble_eq_true rfl⟩ dX6_lots_28 rfl [none, none, none, none, none, none, none, none, none, none] rfl (ws' := cMW G q w) rfl (fun H locs hW => ?_)
      obtain ⟨ht_31, hf_31⟩ := of_ite h
      refine lv_if_ne (tgt := 41) hx hb dX6_lots_31 (by decide) (fun c_31 => ?_) (fun c_31 => ?_)
      · have h := hf_31 c_31
        refine lv_aload_n hx hb dX6_lots_41 rfl (lv_at hl 0 rfl) ?_
        refine lv_iload_n hx hb dX6_lots_42 rfl (lv_at hl 2 rfl) ?_
        refine x_put F hW 0 rfl fp_X6_203 rfl rfl (Nat.le_of_ble_eq_true rfl) (ws' := cMW G q (w.1, w.2.1, w.2.2.1, w.2.2.2.1, w.2.2.2.2.1, w.2.2.2.2.2.1, w.2.2.2.2.2.2.1, w.2.2.2.2.2.2.2.1, w.2.2.2.2.2.2.2.2.1, w.2.2.2.2.2.2.2.2.2.1, w.2.2.2.2.2.2.2.2.2.2.1, w.2.2.2.2.2.2.2.2.2.2.2.1, w.2.2.2.2.2.2.2.2.2.2.2.2.1, x2)) rfl dX6_lots_43 (fun H locs hW => ?_)
        refine lv_iconst (v := (0 : Int32)) hx hb dX6_lots_46 (by decide) ?_
        refine lv_istore (lv' := [(4, .int (0 : Int32)), (0, .ref (q 0)), (1, .int x1), (2, .int x2), (3, .int x3)]) hx hb dX6_lots_47 hl (by decide) rfl (fun ls hl => ?_)
        refine lv_iconst (v := (0 : Int32)) hx hb dX6_lots_49 (by decide) ?_
        refine lv_istore (lv' := [(5, .int (0 : Int32)), (4, .int (0 : Int32)), (0, .ref (q 0)), (1, .int x1), (2, .int x2), (3, .int x3)]) hx hb dX6_lots_50 hl (by decide) rfl (fun ls hl => ?_)
        have L0 : ∀ (n0 : Nat) (v5_52 : Int32) (v4_52 : Int32) (w_52 : MW) (H : Heap) (locs : List Loc) (ls : Array Slot), f_X6_lots_52 x1 x3 n0 v5_52 v4_52 w_52 = some o → Wd G A0 s (cMW G q w_52) H locs → lv_has ls 7 [(5, .int v5_52), (4, .int v4_52), (0, .ref (q 0)), (1, .int x1), (3, .int x3)] → W p l e rmX6_lots s m ([.ref (q 0), .int x1, .int x2, .int x3] : List Value).toArray below meth c H locs 0 0 (Qi below G (cMW G q o.2) o.1 A0 ([.ref (q 0), .int x1, .int x2, .int x3] : List Value).toArray s) (F0 m 52 ls []) := by
          intro n0
          induction n0 with
          | zero => intro v5_52 v4_52 w_52 H locs ls h; cases (show (none : Option (Int32 × MW)) = some o from h)
          | succ n0 ih0 =>
            intro v5_52 v4_52 w_52 H locs ls h hW hl
            refine lv_iload hx hb dX6_lots_52 (lv_at hl 0 rfl) ?_
            refine lv_iload_n hx hb dX6_lots_54 rfl (lv_at hl 3 rfl) ?_
            obtain ⟨ht_55, hf_55⟩ := of_ite h
            refine lv_icmp_ge (tgt := 167) hx hb dX6_lots_55 (by decide) (fun c_55 => ?_) (fun c_55 => ?_)
            · have h := ht_55 c_55
              refine lv_iload hx hb dX6_lots_167 (lv_at hl 1 rfl) ?_
              obtain rfl := Option.some.inj h
              exact x_reti F hr hW rfl dX6_lots_169
            · have h := hf_55 c_55
              refine lv_aload_n hx hb dX6_lots_58 rfl (lv_at hl 2 rfl) ?_
              refine x_get F hW 0 rfl fa_X6_9 rfl dX6_lots_59 ?_
              refine lv_aload_n hx hb dX6_lots_62 rfl (lv_at hl 2 rfl) ?_
              refine x_get F hW 0 rfl fa_X6_13 rfl dX6_lots_63 ?_
              obtain ⟨p_66, hc_66, h⟩ := of_bind h
              refine x_Sv (av := [.ref (q 1), .ref (q 2)]) F hW (c_X6_copies l G (fun i => q (i + 1)) w_52.1 (fun i => q (i + 2)) w_52.2.1 _ hc_66) [1, 2] rfl rfl (by intro q; cases q) cs_X6_134 rfl rfl hl (Nat.le_of_ble_eq_true rfl) ⟨Nat.le_of_ble_eq_true rfl, Nat.le_of_ble_eq_true rfl⟩ ⟨rfl, rfl⟩ ⟨Nat.le_of_ble_eq_true rfl, Nat.le_of_ble_eq_true rfl⟩ dX6_lots_66 rfl [none, some 0, some 1, none, none, none, none, none, none, none] rfl (ws' := cMW G q (w_52.1, p_66, w_52.2.2.1, w_52.2.2.2.1, w_52.2.2.2.2.1, w_52.2.2.2.2.2.1, w_52.2.2.2.2.2.2.1, w_52.2.2.2.2.2.2.2.1, w_52.2.2.2.2.2.2.2.2.1, w_52.2.2.2.2.2.2.2.2.2.1, w_52.2.2.2.2.2.2.2.2.2.2.1, w_52.2.2.2.2.2.2.2.2.2.2.2.1, w_52.2.2.2.2.2.2.2.2.2.2.2.2.1, w_52.2.2.2.2.2.2.2.2.2.2.2.2.2)) rfl (fun H locs hW => ?_)
              refine lv_iconst (v := (0 : Int32)) hx hb dX6_lots_69 (by decide) ?_
              refine lv_istore (lv' := [(6, .int (0 : Int32)), (5, .int v5_52), (4, .int v4_52), (0, .ref (q 0)), (1, .int x1), (3, .int x3)]) hx hb dX6_lots_70 hl (by decide) rfl (fun ls hl => ?_)
              have L1 : ∀ (n1 : Nat) (v6_72 : Int32) (w_72 : MW) (H : Heap) (locs : List Loc) (ls : Array Slot), f_X6_lots_72 (fun a0 a1 a2 => f_X6_lots_52 x1 x3 n0 a0 a1 a2) x3 v4_52 v5_52 n1 v6_72 w_72 = some o → Wd G A0 s (cMW G q w_72) H locs → lv_has ls 7 [(6, .int v6_72), (5, .int v5_52), (4, .int v4_52), (0, .ref (q 0)), (1, .int x1), (3, .int x3)] → W p l e rmX6_lots s m ([.ref (q 0), .int x1, .int x2, .int x3] : List Value).toArray below meth c H locs 0 0 (Qi below G (cMW G q o.2) o.1 A0 ([.ref (q 0), .int x1, .int x2, .int x3] : List Value).toArray s) (F0 m 72 ls []) := by
                intro n1
                induction n1 with
                | zero => intro v6_72 w_72 H locs ls h; cases (show (none : Option (Int32 × MW)) = some o from h)
                | succ n1 ih1 =>
                  intro v6_72 w_72 H locs ls h hW hl
                  refine lv_iload hx hb dX6_lots_72 (lv_at hl 0 rfl) ?_
                  refine lv_aload_n hx hb dX6_lots_74 rfl (lv_at hl 3 rfl) ?_
                  refine x_get F hW 0 rfl fa_X6_9 rfl dX6_lots_75 ?_
                  refine lv_iconst (v := (0 : Int32)) hx hb dX6_lots_78 (by decide) ?_
                  obtain ⟨g_79, h⟩ := of_guard h
                  refine x_iald F hW 1 rfl g_79 dX6_lots_79 ?_
                  obtain ⟨ht_80, hf_80⟩ := of_ite h
                  refine lv_icmp_ge (tgt := 122) hx hb dX6_lots_80 (by decide) (fun c_80 => ?_) (fun c_80 => ?_)
                  · have h := ht_80 c_80
                    refine lv_aload_n hx hb dX6_lots_122 rfl (lv_at hl 3 rfl) ?_
                    refine x_get F hW 0 rfl fa_X6_13 rfl dX6_lots_123 ?_
                    refine lv_iconst (v := (4 : Int32)) hx hb dX6_lots_126 (by decide) ?_
                    obtain ⟨p_127, hc_127, h⟩ := of_bind h
                    refine x_Si (av := [.ref (q 2), .int (4 : Int32)]) F hW (c_X6_nightsOn l G (fun i => q (i + 2)) w_72.2.1 (4 : Int32) _ hc_127) [2] rfl rfl (by intro q; cases q) cs_X6_128 rfl rfl hl (Nat.le_of_ble_eq_true rfl) ⟨Nat.le_of_ble_eq_true rfl, Nat.le_of_ble_eq_true rfl⟩ ⟨rfl, rfl⟩ ⟨Nat.le_of_ble_eq_true rfl, Nat.le_of_ble_eq_true rfl⟩ dX6_lots_127 rfl [none, none, some 0, none, none, none, none, none, none, none] rfl (ws' := cMW G q (w_72.1, p_127.2, w_72.2.2.1, w_72.2.2.2.1, w_72.2.2.2.2.1, w_72.2.2.2.2.2.1, w_72.2.2.2.2.2.2.1, w_72.2.2.2.2.2.2.2.1, w_72.2.2.2.2.2.2.2.2.1, w_72.2.2.2.2.2.2.2.2.2.1, w_72.2.2.2.2.2.2.2.2.2.2.1, w_72.2.2.2.2.2.2.2.2.2.2.2.1, w_72.2.2.2.2.2.2.2.2.2.2.2.2.1, w_72.2.2.2.2.2.2.2.2.2.2.2.2.2)) rfl (fun H locs hW => ?_)
                    obtain ⟨x_130, e_x_130, h⟩ := of_nm h
                    refine x_topi e_x_130 ?_
                    refine lv_istore (lv' := [(6, .int x_130), (5, .int v5_52), (4, .int v4_52), (0, .ref (q 0)), (1, .int x1), (3, .int x3)]) hx hb dX6_lots_130 hl (by decide) rfl (fun ls hl => ?_)
                    refine lv_iload hx hb dX6_lots_132 (lv_at hl 2 rfl) ?_
                    refine lv_iload_n hx hb dX6_lots_134 rfl (lv_at hl 5 rfl) ?_
                    obtain ⟨ht_135, hf_135⟩ := of_ite h
                    refine lv_if_ne (tgt := 151) hx hb dX6_lots_135 (by decide) (fun c_135 => ?_) (fun c_135 => ?_)
                    · have h := hf_135 c_135
                      refine lv_aload_n hx hb dX6_lots_151 rfl (lv_at hl 3 rfl) ?_
                      refine x_get F hW 0 rfl fa_X6_13 rfl dX6_lots_152 ?_
                      obtain ⟨p_155, hc_155, h⟩ := of_bind h
                      refine x_Si (av := [.ref (q 2)]) F hW (c_X6_allWicks l G (fun i => q (i + 2)) p_127.2 _ hc_155) [2] rfl rfl (by intro q; cases q) cs_X6_212 rfl rfl hl (Nat.le_of_ble_eq_true rfl) ⟨Nat.le_of_ble_eq_true rfl, Nat.le_of_ble_eq_true rfl⟩ ⟨rfl, rfl⟩ ⟨Nat.le_of_ble_eq_true rfl, Nat.le_of_ble_eq_true rfl⟩ dX6_lots_155 rfl [none, none, some 0, none, none, none, none, none, none, none] rfl (ws' := cMW G q (w_72.1, p_127.2, w_72.2.2.1, w_72.2.2.2.1, w_72.2.2.2.2.1, w_72.2.2.2.2.2.1, w_72.2.2.2.2.2.2.1, w_72.2.2.2.2.2.2.2.1, w_72.2.2.2.2.2.2.2.2.1, w_72.2.2.2.2.2.2.2.2.2.1, w_72.2.2.2.2.2.2.2.2.2.2.1, w_72.2.2.2.2.2.2.2.2.2.2.2.1, w_72.2.2.2.2.2.2.2.2.2.2.2.2.1, w_72.2.2.2.2.2.2.2.2.2.2.2.2.2)) rfl (fun H locs hW => ?_)
                      refine lv_iadd hx hb dX6_lots_158 ?_
                      obtain ⟨x_159, e_x_159, h⟩ := of_nm h
                      refine x_topi e_x_159 ?_
                      refine lv_istore (lv' := [(4, .int x_159), (6, .int x_130), (5, .int v5_52), (0, .ref (q 0)), (1, .int x1), (3, .int x3)]) hx hb dX6_lots_159 hl (by decide) rfl (fun ls hl => ?_)
                      refine lv_iinc (v := (v5_52 + (1 : Int32))) (lv' := [(5, .int (v5_52 + (1 : Int32))), (4, .int x_159), (6, .int x_130), (0, .ref (q 0)), (1, .int x1), (3, .int x3)]) hx hb dX6_lots_161 hl (k := 2) rfl rfl (by decide) rfl (fun ls hl => ?_)
                      refine lv_goto (tgt := 52) hx hb dX6_lots_164 (by decide) ?_
                      exact ih0 (v5_52 + (1 : Int32)) x_159 (w_72.1, p_127.2, w_72.2.2.1, w_72.2.2.2.1, w_72.2.2.2.2.1, w_72.2.2.2.2.2.1, w_72.2.2.2.2.2.2.1, w_72.2.2.2.2.2.2.2.1, w_72.2.2.2.2.2.2.2.2.1, w_72.2.2.2.2.2.2.2.2.2.1, w_72.2.2.2.2.2.2.2.2.2.2.1, w_72.2.2.2.2.2.2.2.2.2.2.2.1, w_72.2.2.2.2.2.2.2.2.2.2.2.2.1, w_72.2.2.2.2.2.2.2.2.2.2.2.2.2) _ _ _ h hW (lv_sub hl [0, 1, 3, 4, 5] rfl)
                    · have h := ht_135 c_135
                      refine lv_aload_n hx hb dX6_lots_138 rfl (lv_at hl 3 rfl) ?_
                      refine x_get F hW 0 rfl fa_X6_13 rfl dX6_lots_139 ?_
                      obtain ⟨p_142, hc_142, h⟩ := of_bind h
                      refine x_Si (av := [.ref (q 2)]) F hW (c_X6_hangIn l G (fun i => q (i + 2)) p_127.2 _ hc_142) [2] rfl rfl (by intro q; cases q) cs_X6_145 rfl rfl hl (Nat.le_of_ble_eq_true rfl) ⟨Nat.le_of_ble_eq_true rfl, Nat.le_of_ble_eq_true rfl⟩ ⟨rfl, rfl⟩ ⟨Nat.le_of_ble_eq_true rfl, Nat.le_of_ble_eq_true rfl⟩ dX6_lots_142 rfl [none, none, some 0, none, none, none, none, none, none, none] rfl (ws' := cMW G q (w_72.1, p_127.2, w_72.2.2.1, w_72.2.2.2.1, w_72.2.2.2.2.1, w_72.2.2.2.2.2.1, w_72.2.2.2.2.2.2.1, w_72.2.2.2.2.2.2.2.1, w_72.2.2.2.2.2.2.2.2.1, w_72.2.2.2.2.2.2.2.2.2.1, w_72.2.2.2.2.2.2.2.2.2.2.1, w_72.2.2.2.2.2.2.2.2.2.2.2.1, w_72.2.2.2.2.2.2.2.2.2.2.2.2.1, w_72.2.2.2.2.2.2.2.2.2.2.2.2.2)) rfl (fun H locs hW => ?_)
                      obtain ⟨p_145, hc_145, h⟩ := of_bind h
                      refine x_Si (av := [.int p_142]) F hW (c_X6_bits l G p_142 _ hc_145) [] rfl rfl (by intro q; cases q) cs_X6_148 rfl rfl hl (Nat.le_of_ble_eq_true rfl) ⟨Nat.le_of_ble_eq_true rfl, Nat.le_of_ble_eq_true rfl⟩ ⟨rfl, rfl⟩ ⟨Nat.le_of_ble_eq_true rfl, Nat.le_of_ble_eq_true rfl⟩ dX6_lots_145 rfl [none, none, none, none, none, none, none, none, none, none] rfl (ws' := cMW G q (w_72.1, p_127.2, w_72.2.2.1, w_72.2.2.2.1, w_72.2.2.2.2.1, w_72.2.2.2.2.2.1, w_72.2.2.2.2.2.2.1, w_72.2.2.2.2.2.2.2.1, w_72.2.2.2.2.2.2.2.2.1, w_72.2.2.2.2.2.2.2.2.2.1, w_72.2.2.2.2.2.2.2.2.2.2.1, w_72.2.2.2.2.2.2.2.2.2.2.2.1, w_72.2.2.2.2.2.2.2.2.2.2.2.2.1, w_72.2.2.2.2.2.2.2.2.2.2.2.2.2)) rfl (fun H locs hW => ?_)
                      refine lv_goto (tgt := 158) hx hb dX6_lots_148 (by decide) ?_
                      refine lv_iadd hx hb dX6_lots_158 ?_
                      obtain ⟨x_159_2, e_x_159_2, h⟩ := of_nm h
                      refine x_topi e_x_159_2 ?_
                      refine lv_istore (lv' := [(4, .int x_159_2), (6, .int x_130), (5, .int v5_52), (0, .ref (q 0)), (1, .int x1), (3, .int x3)]) hx hb dX6_lots_159 hl (by decide) rfl (fun ls hl => ?_)
                      refine lv_iinc (v := (v5_52 + (1 : Int32))) (lv' := [(5, .int (v5_52 + (1 : Int32))), (4, .int x_159_2), (6, .int x_130), (0, .ref (q 0)), (1, .int x1), (3, .int x3)]) hx hb dX6_lots_161 hl (k := 2) rfl rfl (by decide) rfl (fun ls hl => ?_)
                      refine lv_goto (tgt := 52) hx hb dX6_lots_164 (by decide) ?_
                      exact ih0 (v5_52 + (1 : Int32)) x_159_2 (w_72.1, p_127.2, w_72.2.2.1, w_72.2.2.2.1, w_72.2.2.2.2.1, w_72.2.2.2.2.2.1, w_72.2.2.2.2.2.2.1, w_72.2.2.2.2.2.2.2.1, w_72.2.2.2.2.2.2.2.2.1, w_72.2.2.2.2.2.2.2.2.2.1, w_72.2.2.2.2.2.2.2.2.2.2.1, w_72.2.2.2.2.2.2.2.2.2.2.2.1, w_72.2.2.2.2.2.2.2.2.2.2.2.2.1, w_72.2.2.2.2.2.2.2.2.2.2.2.2.2) _ _ _ h hW (lv_sub hl [0, 1, 3, 4, 5] rfl)
                  · have h := hf_80 c_80
                    refine lv_aload_n hx hb dX6_lots_83 rfl (lv_at hl 3 rfl) ?_
                    refine x_get F hW 0 rfl fa_X6_13 rfl dX6_lots_84 ?_
                    refine lv_iload hx hb dX6_lots_87 (lv_at hl 0 rfl) ?_
                    refine lv_iconst (v := (2 : Int32)) hx hb dX6_lots_89 (by decide) ?_
                    obtain ⟨p_90, hc_90, h⟩ := of_bind h
                    refine x_Si (av := [.int v6_72, .int (2 : Int32)]) F hW (c_X6_of l G v6_72 (2 : Int32) _ hc_90) [] rfl rfl (by intro q; cases q) cs_X6_47 rfl rfl hl (Nat.le_of_ble_eq_true rfl) ⟨Nat.le_of_ble_eq_true rfl, Nat.le_of_ble_eq_true rfl⟩ ⟨rfl, rfl⟩ ⟨Nat.le_of_ble_eq_true rfl, Nat.le_of_ble_eq_true rfl⟩ dX6_lots_90 rfl [none, none, none, none, none, none, none, none, none, none] rfl (ws' := cMW G q w_72) rfl (fun H locs hW => ?_)
                    refine lv_aload_n hx hb dX6_lots_93 rfl (lv_at hl 3 rfl) ?_
                    refine lv_bipush (v := (20 : Int32)) hx hb dX6_lots_94 (by decide) ?_
                    obtain ⟨p_96, hc_96, h⟩ := of_bind h
                    refine x_Vi (av := [.ref (q 0), .int (20 : Int32)]) (As := [.int (20 : Int32)]) F hW (c_X6_drawn l G q w_72 (20 : Int32) _ hc_96) [0, 1, 2, 3, 4, 5, 6, 7, 8, 9] rfl rfl (by intro q; cases q) cv_X6_209 rfl ⟨_, rfl, rfl⟩ rfl rfl rfl hl (Nat.le_of_ble_eq_true rfl) ⟨Nat.le_of_ble_eq_true rfl, Nat.le_of_ble_eq_true rfl⟩ ⟨rfl, rfl⟩ ⟨Nat.le_of_ble_eq_true rfl, Nat.le_of_ble_eq_true rfl⟩ dX6_lots_96 rfl [some 0, some 1, some 2, some 3, some 4, some 5, some 6, some 7, some 8, some 9] rfl (ws' := cMW G q p_96.2) rfl (fun H locs hW => ?_)
                    obtain ⟨g_99, h⟩ := of_guard h
                    refine x_iast F hW 2 rfl g_99 (ws' := cMW G q (p_96.2.1, (upd p_96.2.2.1 p_90.toNatClampNeg p_96.1), p_96.2.2.2.1, p_96.2.2.2.2.1, p_96.2.2.2.2.2.1, p_96.2.2.2.2.2.2.1, p_96.2.2.2.2.2.2.2.1, p_96.2.2.2.2.2.2.2.2.1, p_96.2.2.2.2.2.2.2.2.2.1, p_96.2.2.2.2.2.2.2.2.2.2.1, p_96.2.2.2.2.2.2.2.2.2.2.2.1, p_96.2.2.2.2.2.2.2.2.2.2.2.2.1, p_96.2.2.2.2.2.2.2.2.2.2.2.2.2.1, p_96.2.2.2.2.2.2.2.2.2.2.2.2.2.2)) rfl dX6_lots_99 (fun H locs hW => ?_)
                    refine lv_aload_n hx hb dX6_lots_100 rfl (lv_at hl 3 rfl) ?_
                    refine x_get F hW 0 rfl fa_X6_13 rfl dX6_lots_101 ?_
                    refine lv_iload hx hb dX6_lots_104 (lv_at hl 0 rfl) ?_
                    refine lv_iconst (v := (3 : Int32)) hx hb dX6_lots_106 (by decide) ?_
                    obtain ⟨p_107, hc_107, h⟩ := of_bind h
                    refine x_Si (av := [.int v6_72, .int (3 : Int32)]) F hW (c_X6_of l G v6_72 (3 : Int32) _ hc_107) [] rfl rfl (by intro q; cases q) cs_X6_47 rfl rfl hl (Nat.le_of_ble_eq_true rfl) ⟨Nat.le_of_ble_eq_true rfl, Nat.le_of_ble_eq_true rfl⟩ ⟨rfl, rfl⟩ ⟨Nat.le_of_ble_eq_true rfl, Nat.le_of_ble_eq_true rfl⟩ dX6_lots_107 rfl [none, none, none, none, none, none, none, none, none, none] rfl (ws' := cMW G q (p_96.2.1, (upd p_96.2.2.1 p_90.toNatClampNeg p_96.1), p_96.2.2.2.1, p_96.2.2.2.2.1, p_96.2.2.2.2.2.1, p_96.2.2.2.2.2.2.1, p_96.2.2.2.2.2.2.2.1, p_96.2.2.2.2.2.2.2.2.1, p_96.2.2.2.2.2.2.2.2.2.1, p_96.2.2.2.2.2.2.2.2.2.2.1, p_96.2.2.2.2.2.2.2.2.2.2.2.1, p_96.2.2.2.2.2.2.2.2.2.2.2.2.1, p_96.2.2.2.2.2.2.2.2.2.2.2.2.2.1, p_96.2.2.2.2.2.2.2.2.2.2.2.2.2.2)) rfl (fun H locs hW => ?_)
                    refine lv_aload_n hx hb dX6_lots_110 rfl (lv_at hl 3 rfl) ?_
                    refine lv_iconst (v := (5 : Int32)) hx hb dX6_lots_111 (by decide) ?_
                    obtain ⟨p_112, hc_112, h⟩ := of_bind h
                    refine x_Vi (av := [.ref (q 0), .int (5 : Int32)]) (As := [.int (5 : Int32)]) F hW (c_X6_drawn l G q (p_96.2.1, (upd p_96.2.2.1 p_90.toNatClampNeg p_96.1), p_96.2.2.2.1, p_96.2.2.2.2.1, p_96.2.2.2.2.2.1, p_96.2.2.2.2.2.2.1, p_96.2.2.2.2.2.2.2.1, p_96.2.2.2.2.2.2.2.2.1, p_96.2.2.2.2.2.2.2.2.2.1, p_96.2.2.2.2.2.2.2.2.2.2.1, p_96.2.2.2.2.2.2.2.2.2.2.2.1, p_96.2.2.2.2.2.2.2.2.2.2.2.2.1, p_96.2.2.2.2.2.2.2.2.2.2.2.2.2.1, p_96.2.2.2.2.2.2.2.2.2.2.2.2.2.2) (5 : Int32) _ hc_112) [0, 1, 2, 3, 4, 5, 6, 7, 8, 9] rfl rfl (by intro q; cases q) cv_X6_209 rfl ⟨_, rfl, rfl⟩ rfl rfl rfl hl (Nat.le_of_ble_eq_true rfl) ⟨Nat.le_of_ble_eq_true rfl, Nat.le_of_ble_eq_true rfl⟩ ⟨rfl, rfl⟩ ⟨Nat.le_of_ble_eq_true rfl, Nat.le_of_ble_eq_true rfl⟩ dX6_lots_112 rfl [some 0, some 1, some 2, some 3, some 4, some 5, some 6, some 7, some 8, some 9] rfl (ws' := cMW G q p_112.2) rfl (fun H locs hW => ?_)
                    obtain ⟨g_115, h⟩ := of_guard h
                    refine x_iast F hW 2 rfl g_115 (ws' := cMW G q (p_112.2.1, (upd p_112.2.2.1 p_107.toNatClampNeg p_112.1), p_112.2.2.2.1, p_112.2.2.2.2.1, p_112.2.2.2.2.2.1, p_112.2.2.2.2.2.2.1, p_112.2.2.2.2.2.2.2.1, p_112.2.2.2.2.2.2.2.2.1, p_112.2.2.2.2.2.2.2.2.2.1, p_112.2.2.2.2.2.2.2.2.2.2.1, p_112.2.2.2.2.2.2.2.2.2.2.2.1, p_112.2.2.2.2.2.2.2.2.2.2.2.2.1, p_112.2.2.2.2.2.2.2.2.2.2.2.2.2.1, p_112.2.2.2.2.2.2.2.2.2.2.2.2.2.2)) rfl dX6_lots_115 (fun H locs hW => ?_)
                    refine lv_iinc (v := (v6_72 + (1 : Int32))) (lv' := [(6, .int (v6_72 + (1 : Int32))), (5, .int v5_52), (4, .int v4_52), (0, .ref (q 0)), (1, .int x1), (3, .int x3)]) hx hb dX6_lots_116 hl (k := 0) rfl rfl (by decide) rfl (fun ls hl => ?_)
                    refine lv_goto (tgt := 72) hx hb dX6_lots_119 (by decide) ?_
                    exact ih1 (v6_72 + (1 : Int32)) (p_112.2.1, (upd p_112.2.2.1 p_107.toNatClampNeg p_112.1), p_112.2.2.2.1, p_112.2.2.2.2.1, p_112.2.2.2.2.2.1, p_112.2.2.2.2.2.2.1, p_112.2.2.2.2.2.2.2.1, p_112.2.2.2.2.2.2.2.2.1, p_112.2.2.2.2.2.2.2.2.2.1, p_112.2.2.2.2.2.2.2.2.2.2.1, p_112.2.2.2.2.2.2.2.2.2.2.2.1, p_112.2.2.2.2.2.2.2.2.2.2.2.2.1, p_112.2.2.2.2.2.2.2.2.2.2.2.2.2.1, p_112.2.2.2.2.2.2.2.2.2.2.2.2.2.2) _ _ _ h hW (lv_sub hl [0, 1, 2, 3, 4, 5] rfl)
              exact L1 200 (0 : Int32) (w_52.1, p_66, w_52.2.2.1, w_52.2.2.2.1, w_52.2.2.2.2.1, w_52.2.2.2.2.2.1, w_52.2.2.2.2.2.2.1, w_52.2.2.2.2.2.2.2.1, w_52.2.2.2.2.2.2.2.2.1, w_52.2.2.2.2.2.2.2.2.2.1, w_52.2.2.2.2.2.2.2.2.2.2.1, w_52.2.2.2.2.2.2.2.2.2.2.2.1, w_52.2.2.2.2.2.2.2.2.2.2.2.2.1, w_52.2.2.2.2.2.2.2.2.2.2.2.2.2) _ _ _ h hW (lv_sub hl [0, 1, 2, 3, 4, 5] rfl)
        exact L0 200 (0 : Int32) (0 : Int32) (w.1, w.2.1, w.2.2.1, w.2.2.2.1, w.2.2.2.2.1, w.2.2.2.2.2.1, w.2.2.2.2.2.2.1, w.2.2.2.2.2.2.2.1, w.2.2.2.2.2.2.2.2.1, w.2.2.2.2.2.2.2.2.2.1, w.2.2.2.2.2.2.2.2.2.2.1, w.2.2.2.2.2.2.2.2.2.2.2.1, w.2.2.2.2.2.2.2.2.2.2.2.2.1, x2) _ _ _ h hW (lv_sub hl [0, 1, 2, 3, 5] rfl)
      · have h := ht_31 c_31
        refine lv_aload_n hx hb dX6_lots_34 rfl (lv_at hl 0 rfl) ?_
        refine lv_bipush (v := (-2 : Int32)) hx hb dX6_lots_35 (by decide) ?_
        obtain ⟨p_37, hc_37, h⟩ := of_bind h
        refine x_Vi (av := [.ref (q 0), .int (-2 : Int32)]) (As := [.int (-2 : Int32)]) F hW (c_X6_no l G q w (-2 : Int32) _ hc_37) [0, 1, 2, 3, 4, 5, 6, 7, 8, 9] rfl rfl (by intro q; cases q) cv_X6_39 rfl ⟨_, rfl, rfl⟩ rfl rfl rfl hl (Nat.le_of_ble_eq_true rfl) ⟨Nat.le_of_ble_eq_true rfl, Nat.le_of_ble_eq_true rfl⟩ ⟨rfl, rfl⟩ ⟨Nat.le_of_ble_eq_true rfl, Nat.le_of_ble_eq_true rfl⟩ dX6_lots_37 rfl [some 0, some 1, some 2, some 3, some 4, some 5, some 6, some 7, some 8, some 9] rfl (ws' := cMW G q p_37.2) rfl (fun H locs hW => ?_)
        obtain rfl := Option.some.inj h
        exact x_reti F hr hW rfl dX6_lots_40
    · have h := hf_15 c_15
      refine lv_aload_n hx hb dX6_lots_18 rfl (lv_at hl 0 rfl) ?_
      refine lv_bipush (v := (-6 : Int32)) hx hb dX6_lots_19 (by decide) ?_
      obtain ⟨p_21, hc_21, h⟩ := of_bind h
      refine x_Vi (av := [.ref (q 0), .int (-6 : Int32)]) (As := [.int (-6 : Int32)]) F hW (c_X6_no l G q w (-6 : Int32) _ hc_21) [0, 1, 2, 3, 4, 5, 6, 7, 8, 9] rfl rfl (by intro q; cases q) cv_X6_39 rfl ⟨_, rfl, rfl⟩ rfl rfl rfl hl (Nat.le_of_ble_eq_true rfl) ⟨Nat.le_of_ble_eq_true rfl, Nat.le_of_ble_eq_true rfl⟩ ⟨rfl, rfl⟩ ⟨Nat.le_of_ble_eq_true rfl, Nat.le_of_ble_eq_true rfl⟩ dX6_lots_21 rfl [some 0, some 1, some 2, some 3, some 4, some 5, some 6, some 7, some 8, some 9] rfl (ws' := cMW G q p_21.2) rfl (fun H locs hW => ?_)
      obtain rfl := Option.some.inj h
      exact x_reti F hr hW rfl dX6_lots_24
  · have h := hf_2 c_2
    refine lv_aload_n hx hb dX6_lots_5 rfl (lv_at hl 0 rfl) ?_
    refine lv_bipush (v := (-4 : Int32)) hx hb dX6_lots_6 (by decide) ?_
    obtain ⟨p_8, hc_8, h⟩ := of_bind h
    refine x_Vi (av := [.ref (q 0), .int (-4 : Int32)]) (As := [.int (-4 : Int32)]) F hW (c_X6_no l G q w (-4 : Int32) _ hc_8) [0, 1, 2, 3, 4, 5, 6, 7, 8, 9] rfl rfl (by intro q; cases q) cv_X6_39 rfl ⟨_, rfl, rfl⟩ rfl rfl rfl hl (Nat.le_of_ble_eq_true rfl) ⟨Nat.le_of_ble_eq_true rfl, Nat.le_of_ble_eq_true rfl⟩ ⟨rfl, rfl⟩ ⟨Nat.le_of_ble_eq_true rfl, Nat.le_of_ble_eq_true rfl⟩ dX6_lots_8 rfl [some 0, some 1, some 2, some 3, some 4, some 5, some 6, some 7, some 8, some 9] rfl (ws' := cMW G q p_8.2) rfl (fun H locs hW => ?_)
    obtain rfl := Option.some.inj h
    exact x_reti F hr hW rfl dX6_lots_11
def f_X6_image (w : MW) : Option (Int32 × MW) :=
  Option.bind (f_X6_copies w.1 w.2.2.1) fun p_8 =>
    if inR (1 : Int32) 71 then
    some ((w.1 (1 : Int32).toNatClampNeg), (w.1, w.2.1, p_8, w.2.2.2.1, w.2.2.2.2.1, w.2.2.2.2.2.1, w.2.2.2.2.2.2.1, w.2.2.2.2.2.2.2.1, w.2.2.2.2.2.2.2.2.1, (1 : Int32), w.2.2.2.2.2.2.2.2.2.2.1, w.2.2.2.2.2.2.2.2.2.2.2.1, w.2.2.2.2.2.2.2.2.2.2.2.2.1, w.2.2.2.2.2.2.2.2.2.2.2.2.2))
    else none
abbrev rmX6_image : Room := { frames := 1, cells := 0, slots := 0, locals := 22 }
set_option maxRecDepth 100000 in
set_option maxHeartbeats 4000000 in
theorem c_X6_image (l : Launch) (G : EnT) (q : Nat → Nat) (w : MW) (o : Int32 × MW) (h : f_X6_image w = some o) : Mi l yX6_image rmX6_image cX6_image 1 (some .int) G false [.ref (q 0)] (cMW G q w) o.1 (cMW G q o.2) := by
  refine Mi_of (by decide) (Nat.le_of_ble_eq_true rfl) ?_
  intro p e s m below meth c A0 F hr hW ls hl
  obtain ⟨hx, hb, hml, hown, hts, hK, hNW, hlocks, hA, hSX⟩ := id F
  have hl : lv_has ls 1 [(0, .ref (q 0))] := hl
  have hW : Wd G A0 s (cMW G q w) s.heap [] := hW
  show W p l e rmX6_image s m ([.ref (q 0)] : List Value).toArray below meth c s.heap [] 0 0 (Qi below G (cMW G q o.2) o.1 A0 ([.ref (q 0)] : List Value).toArray s) (F0 m 0 ls [])
  refine lv_aload_n hx hb dX6_image_0 rfl (lv_at hl 0 rfl) ?_
  refine x_get F hW 0 rfl fa_X6_9 rfl dX6_image_1 ?_
  refine lv_aload_n hx hb dX6_image_4 rfl (lv_at hl 0 rfl) ?_
  refine x_get F hW 0 rfl fa_X6_16 rfl dX6_image_5 ?_
  obtain ⟨p_8, hc_8, h⟩ := of_bind h
  refine x_Sv (av := [.ref (q 1), .ref (q 3)]) F hW (c_X6_copies l G (fun i => q (i + 1)) w.1 (fun i => q (i + 3)) w.2.2.1 _ hc_8) [1, 3] rfl rfl (by intro q; cases q) cs_X6_134 rfl rfl hl (Nat.le_of_ble_eq_true rfl) ⟨Nat.le_of_ble_eq_true rfl, Nat.le_of_ble_eq_true rfl⟩ ⟨rfl, rfl⟩ ⟨Nat.le_of_ble_eq_true rfl, Nat.le_of_ble_eq_true rfl⟩ dX6_image_8 rfl [none, some 0, none, some 1, none, none, none, none, none, none] rfl (ws' := cMW G q (w.1, w.2.1, p_8, w.2.2.2.1, w.2.2.2.2.1, w.2.2.2.2.2.1, w.2.2.2.2.2.2.1, w.2.2.2.2.2.2.2.1, w.2.2.2.2.2.2.2.2.1, w.2.2.2.2.2.2.2.2.2.1, w.2.2.2.2.2.2.2.2.2.2.1, w.2.2.2.2.2.2.2.2.2.2.2.1, w.2.2.2.2.2.2.2.2.2.2.2.2.1, w.2.2.2.2.2.2.2.2.2.2.2.2.2)) rfl (fun H locs hW => ?_)
  refine lv_aload_n hx hb dX6_image_11 rfl (lv_at hl 0 rfl) ?_
  refine lv_iconst (v := (1 : Int32)) hx hb dX6_image_12 (by decide) ?_
  refine x_put F hW 0 rfl fp_X6_215 rfl rfl (Nat.le_of_ble_eq_true rfl) (ws' := cMW G q (w.1, w.2.1, p_8, w.2.2.2.1, w.2.2.2.2.1, w.2.2.2.2.2.1, w.2.2.2.2.2.2.1, w.2.2.2.2.2.2.2.1, w.2.2.2.2.2.2.2.2.1, (1 : Int32), w.2.2.2.2.2.2.2.2.2.2.1, w.2.2.2.2.2.2.2.2.2.2.2.1, w.2.2.2.2.2.2.2.2.2.2.2.2.1, w.2.2.2.2.2.2.2.2.2.2.2.2.2)) rfl dX6_image_13 (fun H locs hW => ?_)
  refine lv_aload_n hx hb dX6_image_16 rfl (lv_at hl 0 rfl) ?_
  refine x_get F hW 0 rfl fa_X6_9 rfl dX6_image_17 ?_
  refine lv_iconst (v := (1 : Int32)) hx hb dX6_image_20 (by decide) ?_
  obtain ⟨g_21, h⟩ := of_guard h
  refine x_iald F hW 1 rfl g_21 dX6_image_21 ?_
  obtain rfl := Option.some.inj h
  exact x_reti F hr hW rfl dX6_image_22
def f_X6_on (w : MW) : Option (Int32 × MW) :=
  if w.2.2.2.2.2.2.2.2.2.1 = 0 then
    Option.bind (f_X6_no w (-3 : Int32)) fun p_10 =>
    some (p_10.1, p_10.2)
    else
    Option.bind (f_X6_copies w.2.2.1 w.1) fun p_22 =>
    if inR (1 : Int32) 71 then
    some ((p_22 (1 : Int32).toNatClampNeg), (p_22, w.2.1, w.2.2.1, w.2.2.2.1, w.2.2.2.2.1, w.2.2.2.2.2.1, w.2.2.2.2.2.2.1, w.2.2.2.2.2.2.2.1, w.2.2.2.2.2.2.2.2.1, w.2.2.2.2.2.2.2.2.2.1, w.2.2.2.2.2.2.2.2.2.2.1, w.2.2.2.2.2.2.2.2.2.2.2.1, w.2.2.2.2.2.2.2.2.2.2.2.2.1, w.2.2.2.2.2.2.2.2.2.2.2.2.2))
    else none
abbrev rmX6_on : Room := { frames := 1, cells := 0, slots := 0, locals := 22 }
set_option maxRecDepth 100000 in
set_option maxHeartbeats 4000000 in
theorem c_X6_on (l : Launch) (G : EnT) (q : Nat → Nat) (w : MW) (o : Int32 × MW) (h : f_X6_on w = some o) : Mi l yX6_on rmX6_on cX6_on 1 (some .int) G false [.ref (q 0)] (cMW G q w) o.1 (cMW G q o.2) := by
  refine Mi_of (by decide) (Nat.le_of_ble_eq_true rfl) ?_
  intro p e s m below meth c A0 F hr hW ls hl
  obtain ⟨hx, hb, hml, hown, hts, hK, hNW, hlocks, hA, hSX⟩ := id F
  have hl : lv_has ls 1 [(0, .ref (q 0))] := hl
  have hW : Wd G A0 s (cMW G q w) s.heap [] := hW
  show W p l e rmX6_on s m ([.ref (q 0)] : List Value).toArray below meth c s.heap [] 0 0 (Qi below G (cMW G q o.2) o.1 A0 ([.ref (q 0)] : List Value).toArray s) (F0 m 0 ls [])
  refine lv_aload_n hx hb dX6_on_0 rfl (lv_at hl 0 rfl) ?_
  refine x_get F hW 0 rfl fa_X6_215 rfl dX6_on_1 ?_
  obtain ⟨ht_4, hf_4⟩ := of_ite h
  refine lv_if_ne (tgt := 14) hx hb dX6_on_4 (by decide) (fun c_4 => ?_) (fun c_4 => ?_)
  · have h := hf_4 c_4
    refine lv_aload_n hx hb dX6_on_14 rfl (lv_at hl 0 rfl) ?_
    refine x_get F hW 0 rfl fa_X6_16 rfl dX6_on_15 ?_
    refine lv_aload_n hx hb dX6_on_18 rfl (lv_at hl 0 rfl) ?_
    refine x_get F hW 0 rfl fa_X6_9 rfl dX6_on_19 ?_
    obtain ⟨p_22, hc_22, h⟩ := of_bind h
    refine x_Sv (av := [.ref (q 3), .ref (q 1)]) F hW (c_X6_copies l G (fun i => q (i + 3)) w.2.2.1 (fun i => q (i + 1)) w.1 _ hc_22) [3, 1] rfl rfl (by intro q; cases q) cs_X6_134 rfl rfl hl (Nat.le_of_ble_eq_true rfl) ⟨Nat.le_of_ble_eq_true rfl, Nat.le_of_ble_eq_true rfl⟩ ⟨rfl, rfl⟩ ⟨Nat.le_of_ble_eq_true rfl, Nat.le_of_ble_eq_true rfl⟩ dX6_on_22 rfl [none, some 1, none, some 0, none, none, none, none, none, none] rfl (ws' := cMW G q (p_22, w.2.1, w.2.2.1, w.2.2.2.1, w.2.2.2.2.1, w.2.2.2.2.2.1, w.2.2.2.2.2.2.1, w.2.2.2.2.2.2.2.1, w.2.2.2.2.2.2.2.2.1, w.2.2.2.2.2.2.2.2.2.1, w.2.2.2.2.2.2.2.2.2.2.1, w.2.2.2.2.2.2.2.2.2.2.2.1, w.2.2.2.2.2.2.2.2.2.2.2.2.1, w.2.2.2.2.2.2.2.2.2.2.2.2.2)) rfl (fun H locs hW => ?_)
    refine lv_aload_n hx hb dX6_on_25 rfl (lv_at hl 0 rfl) ?_
    refine x_get F hW 0 rfl fa_X6_9 rfl dX6_on_26 ?_
    refine lv_iconst (v := (1 : Int32)) hx hb dX6_on_29 (by decide) ?_
    obtain ⟨g_30, h⟩ := of_guard h
    refine x_iald F hW 1 rfl g_30 dX6_on_30 ?_
    obtain rfl := Option.some.inj h
    exact x_reti F hr hW rfl dX6_on_31
  · have h := ht_4 c_4
    refine lv_aload_n hx hb dX6_on_7 rfl (lv_at hl 0 rfl) ?_
    refine lv_bipush (v := (-3 : Int32)) hx hb dX6_on_8 (by decide) ?_
    obtain ⟨p_10, hc_10, h⟩ := of_bind h
    refine x_Vi (av := [.ref (q 0), .int (-3 : Int32)]) (As := [.int (-3 : Int32)]) F hW (c_X6_no l G q w (-3 : Int32) _ hc_10) [0, 1, 2, 3, 4, 5, 6, 7, 8, 9] rfl rfl (by intro q; cases q) cv_X6_39 rfl ⟨_, rfl, rfl⟩ rfl rfl rfl hl (Nat.le_of_ble_eq_true rfl) ⟨Nat.le_of_ble_eq_true rfl, Nat.le_of_ble_eq_true rfl⟩ ⟨rfl, rfl⟩ ⟨Nat.le_of_ble_eq_true rfl, Nat.le_of_ble_eq_true rfl⟩ dX6_on_10 rfl [some 0, some 1, some 2, some 3, some 4, some 5, some 6, some 7, some 8, some 9] rfl (ws' := cMW G q p_10.2) rfl (fun H locs hW => ?_)
    obtain rfl := Option.some.inj h
    exact x_reti F hr hW rfl dX6_on_13
def f_X6_count (w : MW) (x1 : Int32) : Option (Int32) :=
  Option.bind (f_X6_isIn x1 (11 : Int32) (16 : Int32)) fun p_5 =>
    if p_5 = 0 then
    if x1 = (0 : Int32) then
    if inR x1 71 then
    some (w.1 x1.toNatClampNeg)
    else none
    else
    if x1 = (1 : Int32) then
    if inR x1 71 then
    some (w.1 x1.toNatClampNeg)
    else none
    else
    if x1 = (2 : Int32) then
    if inR x1 71 then
    some (w.1 x1.toNatClampNeg)
    else none
    else
    if x1 = (3 : Int32) then
    Option.bind (f_X6_litIn w.1) fun p_79 =>
    some p_79
    else
    if x1 = (4 : Int32) then
    Option.bind (f_X6_hangIn w.1) fun p_87 =>
    some p_87
    else
    if x1 = (5 : Int32) then
    Option.bind (f_X6_allWicks w.1) fun p_95 =>
    some p_95
    else
    if x1 = (6 : Int32) then
    some w.2.2.2.2.2.2.2.2.2.2.2.1
    else
    if x1 = (7 : Int32) then
    some w.2.2.2.2.2.2.2.2.2.2.1
    else
    some (-9 : Int32)
    else
    if inR (x1 - (10 : Int32)) 7 then
    some (w.2.2.2.2.2.2.1 (x1 - (10 : Int32)).toNatClampNeg)
    else none
abbrev rmX6_count : Room := { frames := 5, cells := 0, slots := 0, locals := 115 }
set_option maxRecDepth 100000 in
set_option maxHeartbeats 4000000 in
theorem c_X6_count (l : Launch) (G : EnT) (q : Nat → Nat) (w : MW) (x1 : Int32) (o : Int32) (h : f_X6_count w x1 = some o) : Mi l yX6_count rmX6_count cX6_count 2 (some .int) G false [.ref (q 0), .int x1] (cMW G q w) o (cMW G q w) := by
  refine Mi_of (by decide) (Nat.le_of_ble_eq_true rfl) ?_
  intro p e s m below meth c A0 F hr hW ls hl
  obtain ⟨hx, hb, hml, hown, hts, hK, hNW, hlocks, hA, hSX⟩ := id F
  have hl : lv_has ls 2 [(0, .ref (q 0)), (1, .int x1)] := hl
  have hW : Wd G A0 s (cMW G q w) s.heap [] := hW
  show W p l e rmX6_count s m ([.ref (q 0), .int x1] : List Value).toArray below meth c s.heap [] 0 0 (Qi below G (cMW G q w) o A0 ([.ref (q 0), .int x1] : List Value).toArray s) (F0 m 0 ls [])
  refine lv_iload_n hx hb dX6_count_0 rfl (lv_at hl 1 rfl) ?_
  refine lv_bipush (v := (11 : Int32)) hx hb dX6_count_1 (by decide) ?_
  refine lv_bipush (v := (16 : Int32)) hx hb dX6_count_3 (by decide) ?_
  obtain ⟨p_5, hc_5, h⟩ := of_bind h
  refine x_Si (av := [.int x1, .int (11 : Int32), .int (16 : Int32)]) F hW (c_X6_isIn l G x1 (11 : Int32) (16 : Int32) _ hc_5) [] rfl rfl (by intro q; cases q) cs_X6_43 rfl rfl hl (Nat.le_of_ble_eq_true rfl) ⟨Nat.le_of_ble_eq_true rfl, Nat.le_of_ble_eq_true rfl⟩ ⟨rfl, rfl⟩ ⟨Nat.le_of_ble_eq_true rfl, Nat.le_of_ble_eq_true rfl⟩ dX6_count_5 rfl [none, none, none, none, none, none, none, none, none, none] rfl (ws' := cMW G q w) rfl (fun H locs hW => ?_)
  obtain ⟨ht_8, hf_8⟩ := of_ite h
  refine lv_if_eq (tgt := 21) hx hb dX6_count_8 (by decide) (fun c_8 => ?_) (fun c_8 => ?_)
  · have h := ht_8 c_8
    refine lv_iload_n hx hb dX6_count_21 rfl (lv_at hl 1 rfl) ?_
    obtain ⟨ht_22_0, h⟩ := of_ite h
    by_cases c_22_0 : x1 = (0 : Int32)
    · have h := ht_22_0 c_22_0
      refine x_tableIn c_22_0 hx hb dX6_count_22 (by decide) (by decide) (off := (46)) rfl (tgt := 68) (by decide) ?_
      refine lv_aload_n hx hb dX6_count_68 rfl (lv_at hl 0 rfl) ?_
      refine x_get F hW 0 rfl fa_X6_9 rfl dX6_count_69 ?_
      refine lv_iload_n hx hb dX6_count_72 rfl (lv_at hl 1 rfl) ?_
      obtain ⟨g_73, h⟩ := of_guard h
      refine x_iald F hW 1 rfl g_73 dX6_count_73 ?_
      obtain rfl := Option.some.inj h
      exact x_reti F hr hW rfl dX6_count_74
    have h := h c_22_0
    obtain ⟨ht_22_1, h⟩ := of_ite h
    by_cases c_22_1 : x1 = (1 : Int32)
    · have h := ht_22_1 c_22_1
      refine x_tableIn c_22_1 hx hb dX6_count_22 (by decide) (by decide) (off := (46)) rfl (tgt := 68) (by decide) ?_
      refine lv_aload_n hx hb dX6_count_68 rfl (lv_at hl 0 rfl) ?_
      refine x_get F hW 0 rfl fa_X6_9 rfl dX6_count_69 ?_
      refine lv_iload_n hx hb dX6_count_72 rfl (lv_at hl 1 rfl) ?_
      obtain ⟨g_73, h⟩ := of_guard h
      refine x_iald F hW 1 rfl g_73 dX6_count_73 ?_
      obtain rfl := Option.some.inj h
      exact x_reti F hr hW rfl dX6_count_74
    have h := h c_22_1
    obtain ⟨ht_22_2, h⟩ := of_ite h
    by_cases c_22_2 : x1 = (2 : Int32)
    · have h := ht_22_2 c_22_2
      refine x_tableIn c_22_2 hx hb dX6_count_22 (by decide) (by decide) (off := (46)) rfl (tgt := 68) (by decide) ?_
      refine lv_aload_n hx hb dX6_count_68 rfl (lv_at hl 0 rfl) ?_
      refine x_get F hW 0 rfl fa_X6_9 rfl dX6_count_69 ?_
      refine lv_iload_n hx hb dX6_count_72 rfl (lv_at hl 1 rfl) ?_
      obtain ⟨g_73, h⟩ := of_guard h
      refine x_iald F hW 1 rfl g_73 dX6_count_73 ?_
      obtain rfl := Option.some.inj h
      exact x_reti F hr hW rfl dX6_count_74
    have h := h c_22_2
    obtain ⟨ht_22_3, h⟩ := of_ite h
    by_cases c_22_3 : x1 = (3 : Int32)
    · have h := ht_22_3 c_22_3
      refine x_tableIn c_22_3 hx hb dX6_count_22 (by decide) (by decide) (off := (53)) rfl (tgt := 75) (by decide) ?_
      refine lv_aload_n hx hb dX6_count_75 rfl (lv_at hl 0 rfl) ?_
      refine x_get F hW 0 rfl fa_X6_9 rfl dX6_count_76 ?_
      obtain ⟨p_79, hc_79, h⟩ := of_bind h
      refine x_Si (av := [.ref (q 1)]) F hW (c_X6_litIn l G (fun i => q (i + 1)) w.1 _ hc_79) [1] rfl rfl (by intro q; cases q) cs_X6_83 rfl rfl hl (Nat.le_of_ble_eq_true rfl) ⟨Nat.le_of_ble_eq_true rfl, Nat.le_of_ble_eq_true rfl⟩ ⟨rfl, rfl⟩ ⟨Nat.le_of_ble_eq_true rfl, Nat.le_of_ble_eq_true rfl⟩ dX6_count_79 rfl [none, some 0, none, none, none, none, none, none, none, none] rfl (ws' := cMW G q w) rfl (fun H locs hW => ?_)
      obtain rfl := Option.some.inj h
      exact x_reti F hr hW rfl dX6_count_82
    have h := h c_22_3
    obtain ⟨ht_22_4, h⟩ := of_ite h
    by_cases c_22_4 : x1 = (4 : Int32)
    · have h := ht_22_4 c_22_4
      refine x_tableIn c_22_4 hx hb dX6_count_22 (by decide) (by decide) (off := (61)) rfl (tgt := 83) (by decide) ?_
      refine lv_aload_n hx hb dX6_count_83 rfl (lv_at hl 0 rfl) ?_
      refine x_get F hW 0 rfl fa_X6_9 rfl dX6_count_84 ?_
      obtain ⟨p_87, hc_87, h⟩ := of_bind h
      refine x_Si (av := [.ref (q 1)]) F hW (c_X6_hangIn l G (fun i => q (i + 1)) w.1 _ hc_87) [1] rfl rfl (by intro q; cases q) cs_X6_145 rfl rfl hl (Nat.le_of_ble_eq_true rfl) ⟨Nat.le_of_ble_eq_true rfl, Nat.le_of_ble_eq_true rfl⟩ ⟨rfl, rfl⟩ ⟨Nat.le_of_ble_eq_true rfl, Nat.le_of_ble_eq_true rfl⟩ dX6_count_87 rfl [none, some 0, none, none, none, none, none, none, none, none] rfl (ws' := cMW G q w) rfl (fun H locs hW => ?_)
      obtain rfl := Option.some.inj h
      exact x_reti F hr hW rfl dX6_count_90
    have h := h c_22_4
    obtain ⟨ht_22_5, h⟩ := of_ite h
    by_cases c_22_5 : x1 = (5 : Int32)
    · have h := ht_22_5 c_22_5
      refine x_tableIn c_22_5 hx hb dX6_count_22 (by decide) (by decide) (off := (69)) rfl (tgt := 91) (by decide) ?_
      refine lv_aload_n hx hb dX6_count_91 rfl (lv_at hl 0 rfl) ?_
      refine x_get F hW 0 rfl fa_X6_9 rfl dX6_count_92 ?_
      obtain ⟨p_95, hc_95, h⟩ := of_bind h
      refine x_Si (av := [.ref (q 1)]) F hW (c_X6_allWicks l G (fun i => q (i + 1)) w.1 _ hc_95) [1] rfl rfl (by intro q; cases q) cs_X6_212 rfl rfl hl (Nat.le_of_ble_eq_true rfl) ⟨Nat.le_of_ble_eq_true rfl, Nat.le_of_ble_eq_true rfl⟩ ⟨rfl, rfl⟩ ⟨Nat.le_of_ble_eq_true rfl, Nat.le_of_ble_eq_true rfl⟩ dX6_count_95 rfl [none, some 0, none, none, none, none, none, none, none, none] rfl (ws' := cMW G q w) rfl (fun H locs hW => ?_)
      obtain rfl := Option.some.inj h
      exact x_reti F hr hW rfl dX6_count_98
    have h := h c_22_5
    obtain ⟨ht_22_6, h⟩ := of_ite h
    by_cases c_22_6 : x1 = (6 : Int32)
    · have h := ht_22_6 c_22_6
      refine x_tableIn c_22_6 hx hb dX6_count_22 (by decide) (by decide) (off := (77)) rfl (tgt := 99) (by decide) ?_
      refine lv_aload_n hx hb dX6_count_99 rfl (lv_at hl 0 rfl) ?_
      refine x_get F hW 0 rfl fa_X6_197 rfl dX6_count_100 ?_
      obtain rfl := Option.some.inj h
      exact x_reti F hr hW rfl dX6_count_103
    have h := h c_22_6
    obtain ⟨ht_22_7, h⟩ := of_ite h
    by_cases c_22_7 : x1 = (7 : Int32)
    · have h := ht_22_7 c_22_7
      refine x_tableIn c_22_7 hx hb dX6_count_22 (by decide) (by decide) (off := (82)) rfl (tgt := 104) (by decide) ?_
      refine lv_aload_n hx hb dX6_count_104 rfl (lv_at hl 0 rfl) ?_
      refine x_get F hW 0 rfl fa_X6_93 rfl dX6_count_105 ?_
      obtain rfl := Option.some.inj h
      exact x_reti F hr hW rfl dX6_count_108
    have h := h c_22_7
    refine lv_tableOut hx hb dX6_count_22 (by have z0 := x_ne c_22_0 (z := 0) (by decide); have z1 := x_ne c_22_1 (z := 1) (by decide); have z2 := x_ne c_22_2 (z := 2) (by decide); have z3 := x_ne c_22_3 (z := 3) (by decide); have z4 := x_ne c_22_4 (z := 4) (by decide); have z5 := x_ne c_22_5 (z := 5) (by decide); have z6 := x_ne c_22_6 (z := 6) (by decide); have z7 := x_ne c_22_7 (z := 7) (by decide); omega) (tgt := 109) (by decide) ?_
    refine lv_bipush (v := (-9 : Int32)) hx hb dX6_count_109 (by decide) ?_
    obtain rfl := Option.some.inj h
    exact x_reti F hr hW rfl dX6_count_111
  · have h := hf_8 c_8
    refine lv_aload_n hx hb dX6_count_11 rfl (lv_at hl 0 rfl) ?_
    refine x_get F hW 0 rfl fa_X6_28 rfl dX6_count_12 ?_
    refine lv_iload_n hx hb dX6_count_15 rfl (lv_at hl 1 rfl) ?_
    refine lv_bipush (v := (10 : Int32)) hx hb dX6_count_16 (by decide) ?_
    refine lv_isub hx hb dX6_count_18 ?_
    obtain ⟨g_19, h⟩ := of_guard h
    refine x_iald F hW 7 rfl g_19 dX6_count_19 ?_
    obtain rfl := Option.some.inj h
    exact x_reti F hr hW rfl dX6_count_20
