def f_X6_land_62 (v1_46 : Int32) : Nat → Int32 → MW → Option (Int32 × MW)
  | 0, _, _ => none
  | n1 + 1, v2_62, w_62 =>
    if v2_62 = (-9 : Int32) then
    if w_62.2.2.2.2.2.2.2.2.2.2.1 ≤ w_62.2.2.2.2.2.2.2.2.2.2.2.2.1 then
    if v2_62 = (-9 : Int32) then
    some (v1_46, (w_62.1, w_62.2.1, w_62.2.2.1, w_62.2.2.2.1, w_62.2.2.2.2.1, w_62.2.2.2.2.2.1, w_62.2.2.2.2.2.2.1, w_62.2.2.2.2.2.2.2.1, w_62.2.2.2.2.2.2.2.2.1, w_62.2.2.2.2.2.2.2.2.2.1, (0 : Int32), w_62.2.2.2.2.2.2.2.2.2.2.2.1, w_62.2.2.2.2.2.2.2.2.2.2.2.2.1, w_62.2.2.2.2.2.2.2.2.2.2.2.2.2))
    else
    some (v2_62, (w_62.1, w_62.2.1, w_62.2.2.1, w_62.2.2.2.1, w_62.2.2.2.2.1, w_62.2.2.2.2.2.1, w_62.2.2.2.2.2.2.1, w_62.2.2.2.2.2.2.2.1, w_62.2.2.2.2.2.2.2.2.1, w_62.2.2.2.2.2.2.2.2.2.1, (0 : Int32), w_62.2.2.2.2.2.2.2.2.2.2.2.1, w_62.2.2.2.2.2.2.2.2.2.2.2.2.1, w_62.2.2.2.2.2.2.2.2.2.2.2.2.2))
    else
    nm w_62.2.2.2.2.2.2.2.2.2.2.2.2.1 fun x_83 =>
    Option.bind (f_X6_here w_62) fun p_85 =>
    Option.bind (f_X6_readsStatement w_62) fun p_91 =>
    nm p_91.1 fun x_94 =>
    Option.bind (f_X6_isDone p_91.2 p_85) fun p_99 =>
    if p_99.1 = 0 then
    nm ((-2000 : Int32) - x_83) fun x_113 =>
    Option.bind (f_X6_copies p_99.2.2.2.2.1 p_99.2.1) fun p_122 =>
    f_X6_land_62 v1_46 n1 x_113 (p_122, p_99.2.2.1, p_99.2.2.2.1, p_99.2.2.2.2.1, p_99.2.2.2.2.2.1, p_99.2.2.2.2.2.2.1, p_99.2.2.2.2.2.2.2.1, p_99.2.2.2.2.2.2.2.2.1, p_99.2.2.2.2.2.2.2.2.2.1, p_99.2.2.2.2.2.2.2.2.2.2.1, p_99.2.2.2.2.2.2.2.2.2.2.2.1, p_99.2.2.2.2.2.2.2.2.2.2.2.2.1, p_99.2.2.2.2.2.2.2.2.2.2.2.2.2.1, p_99.2.2.2.2.2.2.2.2.2.2.2.2.2.2)
    else
    f_X6_land_62 v1_46 n1 v2_62 p_99.2
    else
    if v2_62 = (-9 : Int32) then
    some (v1_46, (w_62.1, w_62.2.1, w_62.2.2.1, w_62.2.2.2.1, w_62.2.2.2.2.1, w_62.2.2.2.2.2.1, w_62.2.2.2.2.2.2.1, w_62.2.2.2.2.2.2.2.1, w_62.2.2.2.2.2.2.2.2.1, w_62.2.2.2.2.2.2.2.2.2.1, (0 : Int32), w_62.2.2.2.2.2.2.2.2.2.2.2.1, w_62.2.2.2.2.2.2.2.2.2.2.2.2.1, w_62.2.2.2.2.2.2.2.2.2.2.2.2.2))
    else
    some (v2_62, (w_62.1, w_62.2.1, w_62.2.2.1, w_62.2.2.2.1, w_62.2.2.2.2.1, w_62.2.2.2.2.2.1, w_62.2.2.2.2.2.2.1, w_62.2.2.2.2.2.2.2.1, w_62.2.2.2.2.2.2.2.2.1, w_62.2.2.2.2.2.2.2.2.2.1, (0 : Int32), w_62.2.2.2.2.2.2.2.2.2.2.2.1, w_62.2.2.2.2.2.2.2.2.2.2.2.2.1, w_62.2.2.2.2.2.2.2.2.2.2.2.2.2))
def f_X6_land_46 (v1_46 : Int32) (v2_46 : Int32) (w_46 : MW) : Option (Int32 × MW) :=
  Option.bind (f_X6_copies w_46.1 w_46.2.2.2.1) fun p_54 =>
    f_X6_land_62 v1_46 200 v2_46 (w_46.1, w_46.2.1, w_46.2.2.1, p_54, w_46.2.2.2.2.1, w_46.2.2.2.2.2.1, w_46.2.2.2.2.2.2.1, w_46.2.2.2.2.2.2.2.1, w_46.2.2.2.2.2.2.2.2.1, w_46.2.2.2.2.2.2.2.2.2.1, w_46.2.2.2.2.2.2.2.2.2.2.1, w_46.2.2.2.2.2.2.2.2.2.2.2.1, (0 : Int32), w_46.2.2.2.2.2.2.2.2.2.2.2.2.2)
def f_X6_land_26 (k2 : Int32 → Int32 → MW → Option (Int32 × MW)) (v2_26 : Int32) (v1_26 : Int32) (w_26 : MW) : Option (Int32 × MW) :=
  if v2_26 = (-9 : Int32) then
    if w_26.2.2.2.2.2.2.2.2.2.2.2.2.1 < w_26.2.2.2.2.2.2.2.2.2.2.1 then
    k2 v2_26 (v1_26 + (1 : Int32)) w_26
    else
    f_X6_land_46 (v1_26 + (1 : Int32)) v2_26 w_26
    else
    f_X6_land_46 (v1_26 + (1 : Int32)) v2_26 w_26
def f_X6_land_10 : Nat → Int32 → Int32 → MW → Option (Int32 × MW)
  | 0, _, _, _ => none
  | n2 + 1, v2_10, v1_10, w_10 =>
    Option.bind (f_X6_readsStatement w_10) fun p_11 =>
    if p_11.1 = 0 then
    nm ((-1000 : Int32) - p_11.2.2.2.2.2.2.2.2.2.2.2.2.2.1) fun x_25 =>
    f_X6_land_26 (fun a0 a1 a2 => f_X6_land_10 n2 a0 a1 a2) x_25 v1_10 p_11.2
    else
    f_X6_land_26 (fun a0 a1 a2 => f_X6_land_10 n2 a0 a1 a2) v2_10 v1_10 p_11.2
def f_X6_land (w : MW) : Option (Int32 × MW) :=
  f_X6_land_10 200 (-9 : Int32) (0 : Int32) (w.1, w.2.1, w.2.2.1, w.2.2.2.1, w.2.2.2.2.1, w.2.2.2.2.2.1, w.2.2.2.2.2.2.1, w.2.2.2.2.2.2.2.1, w.2.2.2.2.2.2.2.2.1, w.2.2.2.2.2.2.2.2.2.1, w.2.2.2.2.2.2.2.2.2.2.1, w.2.2.2.2.2.2.2.2.2.2.2.1, (0 : Int32), w.2.2.2.2.2.2.2.2.2.2.2.2.2)
abbrev rmX6_land : Room := { frames := 6, cells := 0, slots := 0, locals := 138 }
set_option maxRecDepth 100000 in
set_option maxHeartbeats 4000000 in
theorem c_X6_land (l : Launch) (G : EnT) (q : Nat → Nat) (w : MW) (o : Int32 × MW) (h : f_X6_land w = some o) : Mi l yX6_land rmX6_land cX6_land 6 (some .int) G false [.ref (q 0)] (cMW G q w) o.1 (cMW G q o.2) := by
  refine Mi_of (by decide) (Nat.le_of_ble_eq_true rfl) ?_
  intro p e s m below meth c A0 F hr hW ls hl
  obtain ⟨hx, hb, hml, hown, hts, hK, hNW, hlocks, hA, hSX⟩ := id F
  have hl : lv_has ls 6 [(0, .ref (q 0))] := hl
  have hW : Wd G A0 s (cMW G q w) s.heap [] := hW
  show W p l e rmX6_land s m ([.ref (q 0)] : List Value).toArray below meth c s.heap [] 0 0 (Qi below G (cMW G q o.2) o.1 A0 ([.ref (q 0)] : List Value).toArray s) (F0 m 0 ls [])
  have J0 : ∀ (v1_46 : Int32) (v2_46 : Int32) (w_46 : MW) (H : Heap) (locs : List Loc) (ls : Array Slot), f_X6_land_46 v1_46 v2_46 w_46 = some o → Wd G A0 s (cMW G q w_46) H locs → lv_has ls 6 [(1, .int v1_46), (2, .int v2_46), (0, .ref (q 0))] → W p l e rmX6_land s m ([.ref (q 0)] : List Value).toArray below meth c H locs 0 0 (Qi below G (cMW G q o.2) o.1 A0 ([.ref (q 0)] : List Value).toArray s) (F0 m 46 ls []) := by
    intro v1_46 v2_46 w_46 H locs ls h hW hl
    refine lv_aload_n hx hb dX6_land_46 rfl (lv_at hl 2 rfl) ?_
    refine x_get F hW 0 rfl fa_X6_9 rfl dX6_land_47 ?_
    refine lv_aload_n hx hb dX6_land_50 rfl (lv_at hl 2 rfl) ?_
    refine x_get F hW 0 rfl fa_X6_19 rfl dX6_land_51 ?_
    obtain ⟨p_54, hc_54, h⟩ := of_bind h
    refine x_Sv (av := [.ref (q 1), .ref (q 4)]) F hW (c_X6_copies l G (fun i => q (i + 1)) w_46.1 (fun i => q (i + 4)) w_46.2.2.2.1 _ hc_54) [1, 4] rfl rfl (by intro q; cases q) cs_X6_134 rfl rfl hl (Nat.le_of_ble_eq_true rfl) ⟨Nat.le_of_ble_eq_true rfl, Nat.le_of_ble_eq_true rfl⟩ ⟨rfl, rfl⟩ ⟨Nat.le_of_ble_eq_true rfl, Nat.le_of_ble_eq_true rfl⟩ dX6_land_54 rfl [none, some 0, none, none, some 1, none, none, none, none, none] rfl (ws' := cMW G q (w_46.1, w_46.2.1, w_46.2.2.1, p_54, w_46.2.2.2.2.1, w_46.2.2.2.2.2.1, w_46.2.2.2.2.2.2.1, w_46.2.2.2.2.2.2.2.1, w_46.2.2.2.2.2.2.2.2.1, w_46.2.2.2.2.2.2.2.2.2.1, w_46.2.2.2.2.2.2.2.2.2.2.1, w_46.2.2.2.2.2.2.2.2.2.2.2.1, w_46.2.2.2.2.2.2.2.2.2.2.2.2.1, w_46.2.2.2.2.2.2.2.2.2.2.2.2.2)) rfl (fun H locs hW => ?_)
    refine lv_aload_n hx hb dX6_land_57 rfl (lv_at hl 2 rfl) ?_
    refine lv_iconst (v := (0 : Int32)) hx hb dX6_land_58 (by decide) ?_
    refine x_put F hW 0 rfl fp_X6_97 rfl rfl (Nat.le_of_ble_eq_true rfl) (ws' := cMW G q (w_46.1, w_46.2.1, w_46.2.2.1, p_54, w_46.2.2.2.2.1, w_46.2.2.2.2.2.1, w_46.2.2.2.2.2.2.1, w_46.2.2.2.2.2.2.2.1, w_46.2.2.2.2.2.2.2.2.1, w_46.2.2.2.2.2.2.2.2.2.1, w_46.2.2.2.2.2.2.2.2.2.2.1, w_46.2.2.2.2.2.2.2.2.2.2.2.1, (0 : Int32), w_46.2.2.2.2.2.2.2.2.2.2.2.2.2)) rfl dX6_land_59 (fun H locs hW => ?_)
    have L1 : ∀ (n1 : Nat) (v2_62 : Int32) (w_62 : MW) (H : Heap) (locs : List Loc) (ls : Array Slot), f_X6_land_62 v1_46 n1 v2_62 w_62 = some o → Wd G A0 s (cMW G q w_62) H locs → lv_has ls 6 [(1, .int v1_46), (2, .int v2_62), (0, .ref (q 0))] → W p l e rmX6_land s m ([.ref (q 0)] : List Value).toArray below meth c H locs 0 0 (Qi below G (cMW G q o.2) o.1 A0 ([.ref (q 0)] : List Value).toArray s) (F0 m 62 ls []) := by
      intro n1
      induction n1 with
      | zero => intro v2_62 w_62 H locs ls h; cases (show (none : Option (Int32 × MW)) = some o from h)
      | succ n1 ih1 =>
        intro v2_62 w_62 H locs ls h hW hl
        refine lv_iload_n hx hb dX6_land_62 rfl (lv_at hl 1 rfl) ?_
        refine lv_bipush (v := (-9 : Int32)) hx hb dX6_land_63 (by decide) ?_
        obtain ⟨ht_65, hf_65⟩ := of_ite h
        refine lv_icmp_ne (tgt := 128) hx hb dX6_land_65 (by decide) (fun c_65 => ?_) (fun c_65 => ?_)
        · have h := hf_65 c_65
          refine lv_aload_n hx hb dX6_land_128 rfl (lv_at hl 2 rfl) ?_
          refine lv_iconst (v := (0 : Int32)) hx hb dX6_land_129 (by decide) ?_
          refine x_put F hW 0 rfl fp_X6_93 rfl rfl (Nat.le_of_ble_eq_true rfl) (ws' := cMW G q (w_62.1, w_62.2.1, w_62.2.2.1, w_62.2.2.2.1, w_62.2.2.2.2.1, w_62.2.2.2.2.2.1, w_62.2.2.2.2.2.2.1, w_62.2.2.2.2.2.2.2.1, w_62.2.2.2.2.2.2.2.2.1, w_62.2.2.2.2.2.2.2.2.2.1, (0 : Int32), w_62.2.2.2.2.2.2.2.2.2.2.2.1, w_62.2.2.2.2.2.2.2.2.2.2.2.2.1, w_62.2.2.2.2.2.2.2.2.2.2.2.2.2)) rfl dX6_land_130 (fun H locs hW => ?_)
          refine lv_iload_n hx hb dX6_land_133 rfl (lv_at hl 1 rfl) ?_
          refine lv_bipush (v := (-9 : Int32)) hx hb dX6_land_134 (by decide) ?_
          obtain ⟨ht_136, hf_136⟩ := of_ite h
          refine lv_icmp_ne (tgt := 143) hx hb dX6_land_136 (by decide) (fun c_136 => ?_) (fun c_136 => ?_)
          · have h := hf_136 c_136
            refine lv_iload_n hx hb dX6_land_143 rfl (lv_at hl 1 rfl) ?_
            obtain rfl := Option.some.inj h
            exact x_reti F hr hW rfl dX6_land_144
          · have h := ht_136 c_136
            refine lv_iload_n hx hb dX6_land_139 rfl (lv_at hl 0 rfl) ?_
            refine lv_goto (tgt := 144) hx hb dX6_land_140 (by decide) ?_
            obtain rfl := Option.some.inj h
            exact x_reti F hr hW rfl dX6_land_144
        · have h := ht_65 c_65
          refine lv_aload_n hx hb dX6_land_68 rfl (lv_at hl 2 rfl) ?_
          refine x_get F hW 0 rfl fa_X6_97 rfl dX6_land_69 ?_
          refine lv_aload_n hx hb dX6_land_72 rfl (lv_at hl 2 rfl) ?_
          refine x_get F hW 0 rfl fa_X6_93 rfl dX6_land_73 ?_
          obtain ⟨ht_76, hf_76⟩ := of_ite h
          refine lv_icmp_ge (tgt := 128) hx hb dX6_land_76 (by decide) (fun c_76 => ?_) (fun c_76 => ?_)
          · have h := ht_76 c_76
            refine lv_aload_n hx hb dX6_land_128 rfl (lv_at hl 2 rfl) ?_
            refine lv_iconst (v := (0 : Int32)) hx hb dX6_land_129 (by decide) ?_
            refine x_put F hW 0 rfl fp_X6_93 rfl rfl (Nat.le_of_ble_eq_true rfl) (ws' := cMW G q (w_62.1, w_62.2.1, w_62.2.2.1, w_62.2.2.2.1, w_62.2.2.2.2.1, w_62.2.2.2.2.2.1, w_62.2.2.2.2.2.2.1, w_62.2.2.2.2.2.2.2.1, w_62.2.2.2.2.2.2.2.2.1, w_62.2.2.2.2.2.2.2.2.2.1, (0 : Int32), w_62.2.2.2.2.2.2.2.2.2.2.2.1, w_62.2.2.2.2.2.2.2.2.2.2.2.2.1, w_62.2.2.2.2.2.2.2.2.2.2.2.2.2)) rfl dX6_land_130 (fun H locs hW => ?_)
            refine lv_iload_n hx hb dX6_land_133 rfl (lv_at hl 1 rfl) ?_
            refine lv_bipush (v := (-9 : Int32)) hx hb dX6_land_134 (by decide) ?_
            obtain ⟨ht_136, hf_136⟩ := of_ite h
            refine lv_icmp_ne (tgt := 143) hx hb dX6_land_136 (by decide) (fun c_136 => ?_) (fun c_136 => ?_)
            · have h := hf_136 c_136
              refine lv_iload_n hx hb dX6_land_143 rfl (lv_at hl 1 rfl) ?_
              obtain rfl := Option.some.inj h
              exact x_reti F hr hW rfl dX6_land_144
            · have h := ht_136 c_136
              refine lv_iload_n hx hb dX6_land_139 rfl (lv_at hl 0 rfl) ?_
              refine lv_goto (tgt := 144) hx hb dX6_land_140 (by decide) ?_
              obtain rfl := Option.some.inj h
              exact x_reti F hr hW rfl dX6_land_144
          · have h := hf_76 c_76
            refine lv_aload_n hx hb dX6_land_79 rfl (lv_at hl 2 rfl) ?_
            refine x_get F hW 0 rfl fa_X6_97 rfl dX6_land_80 ?_
            obtain ⟨x_83, e_x_83, h⟩ := of_nm h
            refine x_topi e_x_83 ?_
            refine lv_istore_n (lv' := [(3, .int x_83), (1, .int v1_46), (2, .int v2_62), (0, .ref (q 0))]) hx hb dX6_land_83 rfl hl (by decide) rfl (fun ls hl => ?_)
            refine lv_aload_n hx hb dX6_land_84 rfl (lv_at hl 3 rfl) ?_
            obtain ⟨p_85, hc_85, h⟩ := of_bind h
            refine x_Vi (av := [.ref (q 0)]) (As := []) F hW (c_X6_here l G q w_62 _ hc_85) [0, 1, 2, 3, 4, 5, 6, 7, 8, 9] rfl rfl (by intro q; cases q) cv_X6_100 rfl ⟨_, rfl, rfl⟩ rfl rfl rfl hl (Nat.le_of_ble_eq_true rfl) ⟨Nat.le_of_ble_eq_true rfl, Nat.le_of_ble_eq_true rfl⟩ ⟨rfl, rfl⟩ ⟨Nat.le_of_ble_eq_true rfl, Nat.le_of_ble_eq_true rfl⟩ dX6_land_85 rfl [some 0, some 1, some 2, some 3, some 4, some 5, some 6, some 7, some 8, some 9] rfl (ws' := cMW G q w_62) rfl (fun H locs hW => ?_)
            refine lv_istore (lv' := [(4, .int p_85), (3, .int x_83), (1, .int v1_46), (2, .int v2_62), (0, .ref (q 0))]) hx hb dX6_land_88 hl (by decide) rfl (fun ls hl => ?_)
            refine lv_aload_n hx hb dX6_land_90 rfl (lv_at hl 4 rfl) ?_
            obtain ⟨p_91, hc_91, h⟩ := of_bind h
            refine x_Vi (av := [.ref (q 0)]) (As := []) F hW (c_X6_readsStatement l G q w_62 _ hc_91) [0, 1, 2, 3, 4, 5, 6, 7, 8, 9] rfl rfl (by intro q; cases q) cv_X6_131 rfl ⟨_, rfl, rfl⟩ rfl rfl rfl hl (Nat.le_of_ble_eq_true rfl) ⟨Nat.le_of_ble_eq_true rfl, Nat.le_of_ble_eq_true rfl⟩ ⟨rfl, rfl⟩ ⟨Nat.le_of_ble_eq_true rfl, Nat.le_of_ble_eq_true rfl⟩ dX6_land_91 rfl [some 0, some 1, some 2, some 3, some 4, some 5, some 6, some 7, some 8, some 9] rfl (ws' := cMW G q p_91.2) rfl (fun H locs hW => ?_)
            obtain ⟨x_94, e_x_94, h⟩ := of_nm h
            refine x_topi e_x_94 ?_
            refine lv_istore (lv' := [(5, .int x_94), (4, .int p_85), (3, .int x_83), (1, .int v1_46), (2, .int v2_62), (0, .ref (q 0))]) hx hb dX6_land_94 hl (by decide) rfl (fun ls hl => ?_)
            refine lv_aload_n hx hb dX6_land_96 rfl (lv_at hl 5 rfl) ?_
            refine lv_iload hx hb dX6_land_97 (lv_at hl 1 rfl) ?_
            obtain ⟨p_99, hc_99, h⟩ := of_bind h
            refine x_Vi (av := [.ref (q 0), .int p_85]) (As := [.int p_85]) F hW (c_X6_isDone l G q p_91.2 p_85 _ hc_99) [0, 1, 2, 3, 4, 5, 6, 7, 8, 9] rfl rfl (by intro q; cases q) cv_X6_138 rfl ⟨_, rfl, rfl⟩ rfl rfl rfl hl (Nat.le_of_ble_eq_true rfl) ⟨Nat.le_of_ble_eq_true rfl, Nat.le_of_ble_eq_true rfl⟩ ⟨rfl, rfl⟩ ⟨Nat.le_of_ble_eq_true rfl, Nat.le_of_ble_eq_true rfl⟩ dX6_land_99 rfl [some 0, some 1, some 2, some 3, some 4, some 5, some 6, some 7, some 8, some 9] rfl (ws' := cMW G q p_99.2) rfl (fun H locs hW => ?_)
            obtain ⟨ht_102, hf_102⟩ := of_ite h
            refine lv_if_eq (tgt := 108) hx hb dX6_land_102 (by decide) (fun c_102 => ?_) (fun c_102 => ?_)
            · have h := ht_102 c_102
              refine lv_sipush (v := (-2000 : Int32)) hx hb dX6_land_108 (by decide) ?_
              refine lv_iload_n hx hb dX6_land_111 rfl (lv_at hl 2 rfl) ?_
              refine lv_isub hx hb dX6_land_112 ?_
              obtain ⟨x_113, e_x_113, h⟩ := of_nm h
              refine x_topi e_x_113 ?_
              refine lv_istore_n (lv' := [(2, .int x_113), (5, .int x_94), (4, .int p_85), (3, .int x_83), (1, .int v1_46), (0, .ref (q 0))]) hx hb dX6_land_113 rfl hl (by decide) rfl (fun ls hl => ?_)
              refine lv_aload_n hx hb dX6_land_114 rfl (lv_at hl 5 rfl) ?_
              refine x_get F hW 0 rfl fa_X6_19 rfl dX6_land_115 ?_
              refine lv_aload_n hx hb dX6_land_118 rfl (lv_at hl 5 rfl) ?_
              refine x_get F hW 0 rfl fa_X6_9 rfl dX6_land_119 ?_
              obtain ⟨p_122, hc_122, h⟩ := of_bind h
              refine x_Sv (av := [.ref (q 4), .ref (q 1)]) F hW (c_X6_copies l G (fun i => q (i + 4)) p_99.2.2.2.2.1 (fun i => q (i + 1)) p_99.2.1 _ hc_122) [4, 1] rfl rfl (by intro q; cases q) cs_X6_134 rfl rfl hl (Nat.le_of_ble_eq_true rfl) ⟨Nat.le_of_ble_eq_true rfl, Nat.le_of_ble_eq_true rfl⟩ ⟨rfl, rfl⟩ ⟨Nat.le_of_ble_eq_true rfl, Nat.le_of_ble_eq_true rfl⟩ dX6_land_122 rfl [none, some 1, none, none, some 0, none, none, none, none, none] rfl (ws' := cMW G q (p_122, p_99.2.2.1, p_99.2.2.2.1, p_99.2.2.2.2.1, p_99.2.2.2.2.2.1, p_99.2.2.2.2.2.2.1, p_99.2.2.2.2.2.2.2.1, p_99.2.2.2.2.2.2.2.2.1, p_99.2.2.2.2.2.2.2.2.2.1, p_99.2.2.2.2.2.2.2.2.2.2.1, p_99.2.2.2.2.2.2.2.2.2.2.2.1, p_99.2.2.2.2.2.2.2.2.2.2.2.2.1, p_99.2.2.2.2.2.2.2.2.2.2.2.2.2.1, p_99.2.2.2.2.2.2.2.2.2.2.2.2.2.2)) rfl (fun H locs hW => ?_)
              refine lv_goto (tgt := 62) hx hb dX6_land_125 (by decide) ?_
              exact ih1 x_113 (p_122, p_99.2.2.1, p_99.2.2.2.1, p_99.2.2.2.2.1, p_99.2.2.2.2.2.1, p_99.2.2.2.2.2.2.1, p_99.2.2.2.2.2.2.2.1, p_99.2.2.2.2.2.2.2.2.1, p_99.2.2.2.2.2.2.2.2.2.1, p_99.2.2.2.2.2.2.2.2.2.2.1, p_99.2.2.2.2.2.2.2.2.2.2.2.1, p_99.2.2.2.2.2.2.2.2.2.2.2.2.1, p_99.2.2.2.2.2.2.2.2.2.2.2.2.2.1, p_99.2.2.2.2.2.2.2.2.2.2.2.2.2.2) _ _ _ h hW (lv_sub hl [4, 0, 5] rfl)
            · have h := hf_102 c_102
              refine lv_goto (tgt := 62) hx hb dX6_land_105 (by decide) ?_
              exact ih1 v2_62 p_99.2 _ _ _ h hW (lv_sub hl [3, 4, 5] rfl)
    exact L1 200 v2_46 (w_46.1, w_46.2.1, w_46.2.2.1, p_54, w_46.2.2.2.2.1, w_46.2.2.2.2.2.1, w_46.2.2.2.2.2.2.1, w_46.2.2.2.2.2.2.2.1, w_46.2.2.2.2.2.2.2.2.1, w_46.2.2.2.2.2.2.2.2.2.1, w_46.2.2.2.2.2.2.2.2.2.2.1, w_46.2.2.2.2.2.2.2.2.2.2.2.1, (0 : Int32), w_46.2.2.2.2.2.2.2.2.2.2.2.2.2) _ _ _ h hW (lv_sub hl [0, 1, 2] rfl)
  refine lv_aload_n hx hb dX6_land_0 rfl (lv_at hl 0 rfl) ?_
  refine lv_iconst (v := (0 : Int32)) hx hb dX6_land_1 (by decide) ?_
  refine x_put F hW 0 rfl fp_X6_97 rfl rfl (Nat.le_of_ble_eq_true rfl) (ws' := cMW G q (w.1, w.2.1, w.2.2.1, w.2.2.2.1, w.2.2.2.2.1, w.2.2.2.2.2.1, w.2.2.2.2.2.2.1, w.2.2.2.2.2.2.2.1, w.2.2.2.2.2.2.2.2.1, w.2.2.2.2.2.2.2.2.2.1, w.2.2.2.2.2.2.2.2.2.2.1, w.2.2.2.2.2.2.2.2.2.2.2.1, (0 : Int32), w.2.2.2.2.2.2.2.2.2.2.2.2.2)) rfl dX6_land_2 (fun H locs hW => ?_)
  refine lv_iconst (v := (0 : Int32)) hx hb dX6_land_5 (by decide) ?_
  refine lv_istore_n (lv' := [(1, .int (0 : Int32)), (0, .ref (q 0))]) hx hb dX6_land_6 rfl hl (by decide) rfl (fun ls hl => ?_)
  refine lv_bipush (v := (-9 : Int32)) hx hb dX6_land_7 (by decide) ?_
  refine lv_istore_n (lv' := [(2, .int (-9 : Int32)), (1, .int (0 : Int32)), (0, .ref (q 0))]) hx hb dX6_land_9 rfl hl (by decide) rfl (fun ls hl => ?_)
  have L2 : ∀ (n2 : Nat) (v2_10 : Int32) (v1_10 : Int32) (w_10 : MW) (H : Heap) (locs : List Loc) (ls : Array Slot), f_X6_land_10 n2 v2_10 v1_10 w_10 = some o → Wd G A0 s (cMW G q w_10) H locs → lv_has ls 6 [(2, .int v2_10), (1, .int v1_10), (0, .ref (q 0))] → W p l e rmX6_land s m ([.ref (q 0)] : List Value).toArray below meth c H locs 0 0 (Qi below G (cMW G q o.2) o.1 A0 ([.ref (q 0)] : List Value).toArray s) (F0 m 10 ls []) := by
    intro n2
    induction n2 with
    | zero => intro v2_10 v1_10 w_10 H locs ls h; cases (show (none : Option (Int32 × MW)) = some o from h)
    | succ n2 ih2 =>
      intro v2_10 v1_10 w_10 H locs ls h hW hl
      have J3 : ∀ (v2_26 : Int32) (v1_26 : Int32) (w_26 : MW) (H : Heap) (locs : List Loc) (ls : Array Slot), f_X6_land_26 (fun a0 a1 a2 => f_X6_land_10 n2 a0 a1 a2) v2_26 v1_26 w_26 = some o → Wd G A0 s (cMW G q w_26) H locs → lv_has ls 6 [(2, .int v2_26), (1, .int v1_26), (0, .ref (q 0))] → W p l e rmX6_land s m ([.ref (q 0)] : List Value).toArray below meth c H locs 0 0 (Qi below G (cMW G q o.2) o.1 A0 ([.ref (q 0)] : List Value).toArray s) (F0 m 26 ls []) := by
        intro v2_26 v1_26 w_26 H locs ls h hW hl
        refine lv_iinc (v := (v1_26 + (1 : Int32))) (lv' := [(1, .int (v1_26 + (1 : Int32))), (2, .int v2_26), (0, .ref (q 0))]) hx hb dX6_land_26 hl (k := 1) rfl rfl (by decide) rfl (fun ls hl => ?_)
        refine lv_iload_n hx hb dX6_land_29 rfl (lv_at hl 1 rfl) ?_
        refine lv_bipush (v := (-9 : Int32)) hx hb dX6_land_30 (by decide) ?_
        obtain ⟨ht_32, hf_32⟩ := of_ite h
        refine lv_icmp_ne (tgt := 46) hx hb dX6_land_32 (by decide) (fun c_32 => ?_) (fun c_32 => ?_)
        · have h := hf_32 c_32
          exact J0 (v1_26 + (1 : Int32)) v2_26 w_26 _ _ _ h hW (lv_sub hl [0, 1, 2] rfl)
        · have h := ht_32 c_32
          refine lv_aload_n hx hb dX6_land_35 rfl (lv_at hl 2 rfl) ?_
          refine x_get F hW 0 rfl fa_X6_97 rfl dX6_land_36 ?_
          refine lv_aload_n hx hb dX6_land_39 rfl (lv_at hl 2 rfl) ?_
          refine x_get F hW 0 rfl fa_X6_93 rfl dX6_land_40 ?_
          obtain ⟨ht_43, hf_43⟩ := of_ite h
          refine lv_icmp_lt (tgt := 10) hx hb dX6_land_43 (by decide) (fun c_43 => ?_) (fun c_43 => ?_)
          · have h := ht_43 c_43
            exact ih2 v2_26 (v1_26 + (1 : Int32)) w_26 _ _ _ h hW (lv_sub hl [1, 0, 2] rfl)
          · have h := hf_43 c_43
            exact J0 (v1_26 + (1 : Int32)) v2_26 w_26 _ _ _ h hW (lv_sub hl [0, 1, 2] rfl)
      refine lv_aload_n hx hb dX6_land_10 rfl (lv_at hl 2 rfl) ?_
      obtain ⟨p_11, hc_11, h⟩ := of_bind h
      refine x_Vi (av := [.ref (q 0)]) (As := []) F hW (c_X6_readsStatement l G q w_10 _ hc_11) [0, 1, 2, 3, 4, 5, 6, 7, 8, 9] rfl rfl (by intro q; cases q) cv_X6_131 rfl ⟨_, rfl, rfl⟩ rfl rfl rfl hl (Nat.le_of_ble_eq_true rfl) ⟨Nat.le_of_ble_eq_true rfl, Nat.le_of_ble_eq_true rfl⟩ ⟨rfl, rfl⟩ ⟨Nat.le_of_ble_eq_true rfl, Nat.le_of_ble_eq_true rfl⟩ dX6_land_11 rfl [some 0, some 1, some 2, some 3, some 4, some 5, some 6, some 7, some 8, some 9] rfl (ws' := cMW G q p_11.2) rfl (fun H locs hW => ?_)
      obtain ⟨ht_14, hf_14⟩ := of_ite h
      refine lv_if_ne (tgt := 26) hx hb dX6_land_14 (by decide) (fun c_14 => ?_) (fun c_14 => ?_)
      · have h := hf_14 c_14
        exact J3 v2_10 v1_10 p_11.2 _ _ _ h hW (lv_sub hl [0, 1, 2] rfl)
      · have h := ht_14 c_14
        refine lv_sipush (v := (-1000 : Int32)) hx hb dX6_land_17 (by decide) ?_
        refine lv_aload_n hx hb dX6_land_20 rfl (lv_at hl 2 rfl) ?_
        refine x_get F hW 0 rfl fa_X6_97 rfl dX6_land_21 ?_
        refine lv_isub hx hb dX6_land_24 ?_
        obtain ⟨x_25, e_x_25, h⟩ := of_nm h
        refine x_topi e_x_25 ?_
        refine lv_istore_n (lv' := [(2, .int x_25), (1, .int v1_10), (0, .ref (q 0))]) hx hb dX6_land_25 rfl hl (by decide) rfl (fun ls hl => ?_)
        exact J3 x_25 v1_10 p_11.2 _ _ _ h hW (lv_sub hl [0, 1, 2] rfl)
  exact L2 200 (-9 : Int32) (0 : Int32) (w.1, w.2.1, w.2.2.1, w.2.2.2.1, w.2.2.2.2.1, w.2.2.2.2.2.1, w.2.2.2.2.2.2.1, w.2.2.2.2.2.2.2.1, w.2.2.2.2.2.2.2.2.1, w.2.2.2.2.2.2.2.2.2.1, w.2.2.2.2.2.2.2.2.2.2.1, w.2.2.2.2.2.2.2.2.2.2.2.1, (0 : Int32), w.2.2.2.2.2.2.2.2.2.2.2.2.2) _ _ _ h hW (lv_sub hl [0, 1, 2] rfl)
def f_X6_house (w : MW) (x1 : Int32) (x2 : Int32) : Option (Int32 × MW) :=
  Option.bind (f_X6_isHouse w x1) fun p_2 =>
    if p_2 = 0 then
    Option.bind (f_X6_no w (-1 : Int32)) fun p_10 =>
    some (p_10.1, p_10.2)
    else
    Option.bind (f_X6_isIn x2 (0 : Int32) (4 : Int32)) fun p_17 =>
    if p_17 = 0 then
    if x2 = (5 : Int32) then
    Option.bind (f_X6_isLit w.1 x1) fun p_65 =>
    if p_65 = 0 then
    some ((0 : Int32), w)
    else
    some ((1 : Int32), w)
    else
    if x2 = (6 : Int32) then
    Option.bind (f_X6_eye w.1 x1) fun p_82 =>
    some (p_82, w)
    else
    if x2 = (7 : Int32) then
    Option.bind (f_X6_of x1 (0 : Int32)) fun p_92 =>
    if inR p_92 71 then
    Option.bind (f_X6_burnsBy (w.1 p_92.toNatClampNeg)) fun p_96 =>
    some (p_96, w)
    else none
    else
    Option.bind (f_X6_no w (-2 : Int32)) fun p_103 =>
    some (p_103.1, p_103.2)
    else
    Option.bind (f_X6_of x1 x2) fun p_29 =>
    if inR p_29 71 then
    some ((w.1 p_29.toNatClampNeg), w)
    else none
abbrev rmX6_house : Room := { frames := 2, cells := 0, slots := 0, locals := 45 }
set_option maxRecDepth 100000 in
set_option maxHeartbeats 4000000 in
theorem c_X6_house (l : Launch) (G : EnT) (q : Nat → Nat) (w : MW) (x1 : Int32) (x2 : Int32) (o : Int32 × MW) (h : f_X6_house w x1 x2 = some o) : Mi l yX6_house rmX6_house cX6_house 3 (some .int) G false [.ref (q 0), .int x1, .int x2] (cMW G q w) o.1 (cMW G q o.2) := by
  refine Mi_of (by decide) (Nat.le_of_ble_eq_true rfl) ?_
  intro p e s m below meth c A0 F hr hW ls hl
  obtain ⟨hx, hb, hml, hown, hts, hK, hNW, hlocks, hA, hSX⟩ := id F
  have hl : lv_has ls 3 [(0, .ref (q 0)), (1, .int x1), (2, .int x2)] := hl
  have hW : Wd G A0 s (cMW G q w) s.heap [] := hW
  show W p l e rmX6_house s m ([.ref (q 0), .int x1, .int x2] : List Value).toArray below meth c s.heap [] 0 0 (Qi below G (cMW G q o.2) o.1 A0 ([.ref (q 0), .int x1, .int x2] : List Value).toArray s) (F0 m 0 ls [])
  refine lv_aload_n hx hb dX6_house_0 rfl (lv_at hl 0 rfl) ?_
  refine lv_iload_n hx hb dX6_house_1 rfl (lv_at hl 1 rfl) ?_
  obtain ⟨p_2, hc_2, h⟩ := of_bind h
  refine x_Vi (av := [.ref (q 0), .int x1]) (As := [.int x1]) F hW (c_X6_isHouse l G q w x1 _ hc_2) [0, 1, 2, 3, 4, 5, 6, 7, 8, 9] rfl rfl (by intro q; cases q) cv_X6_122 rfl ⟨_, rfl, rfl⟩ rfl rfl rfl hl (Nat.le_of_ble_eq_true rfl) ⟨Nat.le_of_ble_eq_true rfl, Nat.le_of_ble_eq_true rfl⟩ ⟨rfl, rfl⟩ ⟨Nat.le_of_ble_eq_true rfl, Nat.le_of_ble_eq_true rfl⟩ dX6_house_2 rfl [some 0, some 1, some 2, some 3, some 4, some 5, some 6, some 7, some 8, some 9] rfl (ws' := cMW G q w) rfl (fun H locs hW => ?_)
  obtain ⟨ht_5, hf_5⟩ := of_ite h
  refine lv_if_ne (tgt := 14) hx hb dX6_house_5 (by decide) (fun c_5 => ?_) (fun c_5 => ?_)
  · have h := hf_5 c_5
    refine lv_iload_n hx hb dX6_house_14 rfl (lv_at hl 2 rfl) ?_
    refine lv_iconst (v := (0 : Int32)) hx hb dX6_house_15 (by decide) ?_
    refine lv_iconst (v := (4 : Int32)) hx hb dX6_house_16 (by decide) ?_
    obtain ⟨p_17, hc_17, h⟩ := of_bind h
    refine x_Si (av := [.int x2, .int (0 : Int32), .int (4 : Int32)]) F hW (c_X6_isIn l G x2 (0 : Int32) (4 : Int32) _ hc_17) [] rfl rfl (by intro q; cases q) cs_X6_43 rfl rfl hl (Nat.le_of_ble_eq_true rfl) ⟨Nat.le_of_ble_eq_true rfl, Nat.le_of_ble_eq_true rfl⟩ ⟨rfl, rfl⟩ ⟨Nat.le_of_ble_eq_true rfl, Nat.le_of_ble_eq_true rfl⟩ dX6_house_17 rfl [none, none, none, none, none, none, none, none, none, none] rfl (ws' := cMW G q w) rfl (fun H locs hW => ?_)
    obtain ⟨ht_20, hf_20⟩ := of_ite h
    refine lv_if_eq (tgt := 34) hx hb dX6_house_20 (by decide) (fun c_20 => ?_) (fun c_20 => ?_)
    · have h := ht_20 c_20
      refine lv_iload_n hx hb dX6_house_34 rfl (lv_at hl 2 rfl) ?_
      obtain ⟨ht_35_0, h⟩ := of_ite h
      by_cases c_35_0 : x2 = (5 : Int32)
      · have h := ht_35_0 c_35_0
        refine x_tableIn c_35_0 hx hb dX6_house_35 (by decide) (by decide) (off := (25)) rfl (tgt := 60) (by decide) ?_
        refine lv_aload_n hx hb dX6_house_60 rfl (lv_at hl 0 rfl) ?_
        refine x_get F hW 0 rfl fa_X6_9 rfl dX6_house_61 ?_
        refine lv_iload_n hx hb dX6_house_64 rfl (lv_at hl 1 rfl) ?_
        obtain ⟨p_65, hc_65, h⟩ := of_bind h
        refine x_Si (av := [.ref (q 1), .int x1]) F hW (c_X6_isLit l G (fun i => q (i + 1)) w.1 x1 _ hc_65) [1] rfl rfl (by intro q; cases q) cs_X6_71 rfl rfl hl (Nat.le_of_ble_eq_true rfl) ⟨Nat.le_of_ble_eq_true rfl, Nat.le_of_ble_eq_true rfl⟩ ⟨rfl, rfl⟩ ⟨Nat.le_of_ble_eq_true rfl, Nat.le_of_ble_eq_true rfl⟩ dX6_house_65 rfl [none, some 0, none, none, none, none, none, none, none, none] rfl (ws' := cMW G q w) rfl (fun H locs hW => ?_)
        obtain ⟨ht_68, hf_68⟩ := of_ite h
        refine lv_if_eq (tgt := 75) hx hb dX6_house_68 (by decide) (fun c_68 => ?_) (fun c_68 => ?_)
        · have h := ht_68 c_68
          refine lv_iconst (v := (0 : Int32)) hx hb dX6_house_75 (by decide) ?_
          obtain rfl := Option.some.inj h
          exact x_reti F hr hW rfl dX6_house_76
        · have h := hf_68 c_68
          refine lv_iconst (v := (1 : Int32)) hx hb dX6_house_71 (by decide) ?_
          refine lv_goto (tgt := 76) hx hb dX6_house_72 (by decide) ?_
          obtain rfl := Option.some.inj h
          exact x_reti F hr hW rfl dX6_house_76
      have h := h c_35_0
      obtain ⟨ht_35_1, h⟩ := of_ite h
      by_cases c_35_1 : x2 = (6 : Int32)
      · have h := ht_35_1 c_35_1
        refine x_tableIn c_35_1 hx hb dX6_house_35 (by decide) (by decide) (off := (42)) rfl (tgt := 77) (by decide) ?_
        refine lv_aload_n hx hb dX6_house_77 rfl (lv_at hl 0 rfl) ?_
        refine x_get F hW 0 rfl fa_X6_9 rfl dX6_house_78 ?_
        refine lv_iload_n hx hb dX6_house_81 rfl (lv_at hl 1 rfl) ?_
        obtain ⟨p_82, hc_82, h⟩ := of_bind h
        refine x_Si (av := [.ref (q 1), .int x1]) F hW (c_X6_eye l G (fun i => q (i + 1)) w.1 x1 _ hc_82) [1] rfl rfl (by intro q; cases q) cs_X6_64 rfl rfl hl (Nat.le_of_ble_eq_true rfl) ⟨Nat.le_of_ble_eq_true rfl, Nat.le_of_ble_eq_true rfl⟩ ⟨rfl, rfl⟩ ⟨Nat.le_of_ble_eq_true rfl, Nat.le_of_ble_eq_true rfl⟩ dX6_house_82 rfl [none, some 0, none, none, none, none, none, none, none, none] rfl (ws' := cMW G q w) rfl (fun H locs hW => ?_)
        obtain rfl := Option.some.inj h
        exact x_reti F hr hW rfl dX6_house_85
      have h := h c_35_1
      obtain ⟨ht_35_2, h⟩ := of_ite h
      by_cases c_35_2 : x2 = (7 : Int32)
      · have h := ht_35_2 c_35_2
        refine x_tableIn c_35_2 hx hb dX6_house_35 (by decide) (by decide) (off := (51)) rfl (tgt := 86) (by decide) ?_
        refine lv_aload_n hx hb dX6_house_86 rfl (lv_at hl 0 rfl) ?_
        refine x_get F hW 0 rfl fa_X6_9 rfl dX6_house_87 ?_
        refine lv_iload_n hx hb dX6_house_90 rfl (lv_at hl 1 rfl) ?_
        refine lv_iconst (v := (0 : Int32)) hx hb dX6_house_91 (by decide) ?_
        obtain ⟨p_92, hc_92, h⟩ := of_bind h
        refine x_Si (av := [.int x1, .int (0 : Int32)]) F hW (c_X6_of l G x1 (0 : Int32) _ hc_92) [] rfl rfl (by intro q; cases q) cs_X6_47 rfl rfl hl (Nat.le_of_ble_eq_true rfl) ⟨Nat.le_of_ble_eq_true rfl, Nat.le_of_ble_eq_true rfl⟩ ⟨rfl, rfl⟩ ⟨Nat.le_of_ble_eq_true rfl, Nat.le_of_ble_eq_true rfl⟩ dX6_house_92 rfl [none, none, none, none, none, none, none, none, none, none] rfl (ws' := cMW G q w) rfl (fun H locs hW => ?_)
        obtain ⟨g_95, h⟩ := of_guard h
        refine x_iald F hW 1 rfl g_95 dX6_house_95 ?_
        obtain ⟨p_96, hc_96, h⟩ := of_bind h
        refine x_Si (av := [.int (w.1 p_92.toNatClampNeg)]) F hW (c_X6_burnsBy l G (w.1 p_92.toNatClampNeg) _ hc_96) [] rfl rfl (by intro q; cases q) cs_X6_51 rfl rfl hl (Nat.le_of_ble_eq_true rfl) ⟨Nat.le_of_ble_eq_true rfl, Nat.le_of_ble_eq_true rfl⟩ ⟨rfl, rfl⟩ ⟨Nat.le_of_ble_eq_true rfl, Nat.le_of_ble_eq_true rfl⟩ dX6_house_96 rfl [none, none, none, none, none, none, none, none, none, none] rfl (ws' := cMW G q w) rfl (fun H locs hW => ?_)
        obtain rfl := Option.some.inj h
        exact x_reti F hr hW rfl dX6_house_99
      have h := h c_35_2
      refine lv_tableOut hx hb dX6_house_35 (by have z0 := x_ne c_35_0 (z := 5) (by decide); have z1 := x_ne c_35_1 (z := 6) (by decide); have z2 := x_ne c_35_2 (z := 7) (by decide); omega) (tgt := 100) (by decide) ?_
      refine lv_aload_n hx hb dX6_house_100 rfl (lv_at hl 0 rfl) ?_
      refine lv_bipush (v := (-2 : Int32)) hx hb dX6_house_101 (by decide) ?_
      obtain ⟨p_103, hc_103, h⟩ := of_bind h
      refine x_Vi (av := [.ref (q 0), .int (-2 : Int32)]) (As := [.int (-2 : Int32)]) F hW (c_X6_no l G q w (-2 : Int32) _ hc_103) [0, 1, 2, 3, 4, 5, 6, 7, 8, 9] rfl rfl (by intro q; cases q) cv_X6_39 rfl ⟨_, rfl, rfl⟩ rfl rfl rfl hl (Nat.le_of_ble_eq_true rfl) ⟨Nat.le_of_ble_eq_true rfl, Nat.le_of_ble_eq_true rfl⟩ ⟨rfl, rfl⟩ ⟨Nat.le_of_ble_eq_true rfl, Nat.le_of_ble_eq_true rfl⟩ dX6_house_103 rfl [some 0, some 1, some 2, some 3, some 4, some 5, some 6, some 7, some 8, some 9] rfl (ws' := cMW G q p_103.2) rfl (fun H locs hW => ?_)
      obtain rfl := Option.some.inj h
      exact x_reti F hr hW rfl dX6_house_106
    · have h := hf_20 c_20
      refine lv_aload_n hx hb dX6_house_23 rfl (lv_at hl 0 rfl) ?_
      refine x_get F hW 0 rfl fa_X6_9 rfl dX6_house_24 ?_
      refine lv_iload_n hx hb dX6_house_27 rfl (lv_at hl 1 rfl) ?_
      refine lv_iload_n hx hb dX6_house_28 rfl (lv_at hl 2 rfl) ?_
      obtain ⟨p_29, hc_29, h⟩ := of_bind h
      refine x_Si (av := [.int x1, .int x2]) F hW (c_X6_of l G x1 x2 _ hc_29) [] rfl rfl (by intro q; cases q) cs_X6_47 rfl rfl hl (Nat.le_of_ble_eq_true rfl) ⟨Nat.le_of_ble_eq_true rfl, Nat.le_of_ble_eq_true rfl⟩ ⟨rfl, rfl⟩ ⟨Nat.le_of_ble_eq_true rfl, Nat.le_of_ble_eq_true rfl⟩ dX6_house_29 rfl [none, none, none, none, none, none, none, none, none, none] rfl (ws' := cMW G q w) rfl (fun H locs hW => ?_)
      obtain ⟨g_32, h⟩ := of_guard h
      refine x_iald F hW 1 rfl g_32 dX6_house_32 ?_
      obtain rfl := Option.some.inj h
      exact x_reti F hr hW rfl dX6_house_33
  · have h := ht_5 c_5
    refine lv_aload_n hx hb dX6_house_8 rfl (lv_at hl 0 rfl) ?_
    refine lv_iconst (v := (-1 : Int32)) hx hb dX6_house_9 (by decide) ?_
    obtain ⟨p_10, hc_10, h⟩ := of_bind h
    refine x_Vi (av := [.ref (q 0), .int (-1 : Int32)]) (As := [.int (-1 : Int32)]) F hW (c_X6_no l G q w (-1 : Int32) _ hc_10) [0, 1, 2, 3, 4, 5, 6, 7, 8, 9] rfl rfl (by intro q; cases q) cv_X6_39 rfl ⟨_, rfl, rfl⟩ rfl rfl rfl hl (Nat.le_of_ble_eq_true rfl) ⟨Nat.le_of_ble_eq_true rfl, Nat.le_of_ble_eq_true rfl⟩ ⟨rfl, rfl⟩ ⟨Nat.le_of_ble_eq_true rfl, Nat.le_of_ble_eq_true rfl⟩ dX6_house_10 rfl [some 0, some 1, some 2, some 3, some 4, some 5, some 6, some 7, some 8, some 9] rfl (ws' := cMW G q p_10.2) rfl (fun H locs hW => ?_)
    obtain rfl := Option.some.inj h
    exact x_reti F hr hW rfl dX6_house_13
def f_X6_height (w : MW) (x1 : Int32) : Option (Int32 × MW) :=
  Option.bind (f_X6_isCell x1) fun p_1 =>
    if p_1 = 0 then
    Option.bind (f_X6_no w (-1 : Int32)) fun p_20 =>
    some (p_20.1, p_20.2)
    else
    if inR ((3 : Int32) + x1) 71 then
    some ((w.1 ((3 : Int32) + x1).toNatClampNeg), w)
    else none
abbrev rmX6_height : Room := { frames := 2, cells := 0, slots := 0, locals := 42 }
set_option maxRecDepth 100000 in
set_option maxHeartbeats 4000000 in
theorem c_X6_height (l : Launch) (G : EnT) (q : Nat → Nat) (w : MW) (x1 : Int32) (o : Int32 × MW) (h : f_X6_height w x1 = some o) : Mi l yX6_height rmX6_height cX6_height 2 (some .int) G false [.ref (q 0), .int x1] (cMW G q w) o.1 (cMW G q o.2) := by
  refine Mi_of (by decide) (Nat.le_of_ble_eq_true rfl) ?_
  intro p e s m below meth c A0 F hr hW ls hl
  obtain ⟨hx, hb, hml, hown, hts, hK, hNW, hlocks, hA, hSX⟩ := id F
  have hl : lv_has ls 2 [(0, .ref (q 0)), (1, .int x1)] := hl
  have hW : Wd G A0 s (cMW G q w) s.heap [] := hW
  show W p l e rmX6_height s m ([.ref (q 0), .int x1] : List Value).toArray below meth c s.heap [] 0 0 (Qi below G (cMW G q o.2) o.1 A0 ([.ref (q 0), .int x1] : List Value).toArray s) (F0 m 0 ls [])
  refine lv_iload_n hx hb dX6_height_0 rfl (lv_at hl 1 rfl) ?_
  obtain ⟨p_1, hc_1, h⟩ := of_bind h
  refine x_Si (av := [.int x1]) F hW (c_X6_isCell l G x1 _ hc_1) [] rfl rfl (by intro q; cases q) cs_X6_114 rfl rfl hl (Nat.le_of_ble_eq_true rfl) ⟨Nat.le_of_ble_eq_true rfl, Nat.le_of_ble_eq_true rfl⟩ ⟨rfl, rfl⟩ ⟨Nat.le_of_ble_eq_true rfl, Nat.le_of_ble_eq_true rfl⟩ dX6_height_1 rfl [none, none, none, none, none, none, none, none, none, none] rfl (ws' := cMW G q w) rfl (fun H locs hW => ?_)
  obtain ⟨ht_4, hf_4⟩ := of_ite h
  refine lv_if_eq (tgt := 18) hx hb dX6_height_4 (by decide) (fun c_4 => ?_) (fun c_4 => ?_)
  · have h := ht_4 c_4
    refine lv_aload_n hx hb dX6_height_18 rfl (lv_at hl 0 rfl) ?_
    refine lv_iconst (v := (-1 : Int32)) hx hb dX6_height_19 (by decide) ?_
    obtain ⟨p_20, hc_20, h⟩ := of_bind h
    refine x_Vi (av := [.ref (q 0), .int (-1 : Int32)]) (As := [.int (-1 : Int32)]) F hW (c_X6_no l G q w (-1 : Int32) _ hc_20) [0, 1, 2, 3, 4, 5, 6, 7, 8, 9] rfl rfl (by intro q; cases q) cv_X6_39 rfl ⟨_, rfl, rfl⟩ rfl rfl rfl hl (Nat.le_of_ble_eq_true rfl) ⟨Nat.le_of_ble_eq_true rfl, Nat.le_of_ble_eq_true rfl⟩ ⟨rfl, rfl⟩ ⟨Nat.le_of_ble_eq_true rfl, Nat.le_of_ble_eq_true rfl⟩ dX6_height_20 rfl [some 0, some 1, some 2, some 3, some 4, some 5, some 6, some 7, some 8, some 9] rfl (ws' := cMW G q p_20.2) rfl (fun H locs hW => ?_)
    obtain rfl := Option.some.inj h
    exact x_reti F hr hW rfl dX6_height_23
  · have h := hf_4 c_4
    refine lv_aload_n hx hb dX6_height_7 rfl (lv_at hl 0 rfl) ?_
    refine x_get F hW 0 rfl fa_X6_9 rfl dX6_height_8 ?_
    refine lv_iconst (v := (3 : Int32)) hx hb dX6_height_11 (by decide) ?_
    refine lv_iload_n hx hb dX6_height_12 rfl (lv_at hl 1 rfl) ?_
    refine lv_iadd hx hb dX6_height_13 ?_
    obtain ⟨g_14, h⟩ := of_guard h
    refine x_iald F hW 1 rfl g_14 dX6_height_14 ?_
    refine lv_goto (tgt := 23) hx hb dX6_height_15 (by decide) ?_
    obtain rfl := Option.some.inj h
    exact x_reti F hr hW rfl dX6_height_23
def f_X6_wrongBy (x1 : Int32) (x2 : Int32) (x3 : Int32) : Option (Int32) :=
  if x2 ≤ x1 then
    if x1 ≤ x3 then
    some (0 : Int32)
    else
    some (-6 : Int32)
    else
    some (-4 : Int32)
abbrev rmX6_wrongBy : Room := { frames := 0, cells := 0, slots := 0, locals := 0 }
set_option maxRecDepth 100000 in
set_option maxHeartbeats 4000000 in
theorem c_X6_wrongBy (l : Launch) (G : EnT) (x1 : Int32) (x2 : Int32) (x3 : Int32) (o : Int32) (h : f_X6_wrongBy x1 x2 x3 = some o) : Mi l yX6_wrongBy rmX6_wrongBy cX6_wrongBy 3 (some .int) G false [.int x1, .int x2, .int x3] ([]) o ([]) := by
  refine Mi_of (by decide) (Nat.le_of_ble_eq_true rfl) ?_
  intro p e s m below meth c A0 F hr hW ls hl
  obtain ⟨hx, hb, hml, hown, hts, hK, hNW, hlocks, hA, hSX⟩ := id F
  have hl : lv_has ls 3 [(0, .int x1), (1, .int x2), (2, .int x3)] := hl
  have hW : Wd G A0 s ([]) s.heap [] := hW
  show W p l e rmX6_wrongBy s m ([.int x1, .int x2, .int x3] : List Value).toArray below meth c s.heap [] 0 0 (Qi below G ([]) o A0 ([.int x1, .int x2, .int x3] : List Value).toArray s) (F0 m 0 ls [])
  refine lv_iload_n hx hb dX6_wrongBy_0 rfl (lv_at hl 0 rfl) ?_
  refine lv_iload_n hx hb dX6_wrongBy_1 rfl (lv_at hl 1 rfl) ?_
  obtain ⟨ht_2, hf_2⟩ := of_ite h
  refine lv_icmp_ge (tgt := 10) hx hb dX6_wrongBy_2 (by decide) (fun c_2 => ?_) (fun c_2 => ?_)
  · have h := ht_2 c_2
    refine lv_iload_n hx hb dX6_wrongBy_10 rfl (lv_at hl 0 rfl) ?_
    refine lv_iload_n hx hb dX6_wrongBy_11 rfl (lv_at hl 2 rfl) ?_
    obtain ⟨ht_12, hf_12⟩ := of_ite h
    refine lv_icmp_le (tgt := 20) hx hb dX6_wrongBy_12 (by decide) (fun c_12 => ?_) (fun c_12 => ?_)
    · have h := ht_12 c_12
      refine lv_iconst (v := (0 : Int32)) hx hb dX6_wrongBy_20 (by decide) ?_
      obtain rfl := Option.some.inj h
      exact x_reti F hr hW rfl dX6_wrongBy_21
    · have h := hf_12 c_12
      refine lv_bipush (v := (-6 : Int32)) hx hb dX6_wrongBy_15 (by decide) ?_
      refine lv_goto (tgt := 21) hx hb dX6_wrongBy_17 (by decide) ?_
      obtain rfl := Option.some.inj h
      exact x_reti F hr hW rfl dX6_wrongBy_21
  · have h := hf_2 c_2
    refine lv_bipush (v := (-4 : Int32)) hx hb dX6_wrongBy_5 (by decide) ?_
    refine lv_goto (tgt := 21) hx hb dX6_wrongBy_7 (by decide) ?_
    obtain rfl := Option.some.inj h
    exact x_reti F hr hW rfl dX6_wrongBy_21
def f_X6_heaps_18 (x1 : Int32) (x2 : Int32) (t0_18 : Int32) (w_18 : MW) : Option (Int32 × MW) :=
  if t0_18 = 0 then
    if inR ((3 : Int32) + x1) 71 then
    nm (w_18.1 ((3 : Int32) + x1).toNatClampNeg) fun x_37 =>
    if inR ((3 : Int32) + x1) 71 then
    some (x_37, ((upd w_18.1 ((3 : Int32) + x1).toNatClampNeg x2), w_18.2.1, w_18.2.2.1, w_18.2.2.2.1, w_18.2.2.2.2.1, w_18.2.2.2.2.2.1, w_18.2.2.2.2.2.2.1, w_18.2.2.2.2.2.2.2.1, w_18.2.2.2.2.2.2.2.2.1, w_18.2.2.2.2.2.2.2.2.2.1, w_18.2.2.2.2.2.2.2.2.2.2.1, w_18.2.2.2.2.2.2.2.2.2.2.2.1, w_18.2.2.2.2.2.2.2.2.2.2.2.2.1, w_18.2.2.2.2.2.2.2.2.2.2.2.2.2))
    else none
    else none
    else
    Option.bind (f_X6_no w_18 t0_18) fun p_25 =>
    some (p_25.1, p_25.2)
def f_X6_heaps (w : MW) (x1 : Int32) (x2 : Int32) : Option (Int32 × MW) :=
  Option.bind (f_X6_isCell x1) fun p_1 =>
    if p_1 = 0 then
    f_X6_heaps_18 x1 x2 (-1 : Int32) w
    else
    Option.bind (f_X6_wrongBy x2 (0 : Int32) (9 : Int32)) fun p_11 =>
    f_X6_heaps_18 x1 x2 p_11 w
abbrev rmX6_heaps : Room := { frames := 2, cells := 0, slots := 0, locals := 42 }
set_option maxRecDepth 100000 in
set_option maxHeartbeats 4000000 in
theorem c_X6_heaps (l : Launch) (G : EnT) (q : Nat → Nat) (w : MW) (x1 : Int32) (x2 : Int32) (o : Int32 × MW) (h : f_X6_heaps w x1 x2 = some o) : Mi l yX6_heaps rmX6_heaps cX6_heaps 5 (some .int) G false [.ref (q 0), .int x1, .int x2] (cMW G q w) o.1 (cMW G q o.2) := by
  refine Mi_of (by decide) (Nat.le_of_ble_eq_true rfl) ?_
  intro p e s m below meth c A0 F hr hW ls hl
  obtain ⟨hx, hb, hml, hown, hts, hK, hNW, hlocks, hA, hSX⟩ := id F
  have hl : lv_has ls 5 [(0, .ref (q 0)), (1, .int x1), (2, .int x2)] := hl
  have hW : Wd G A0 s (cMW G q w) s.heap [] := hW
  show W p l e rmX6_heaps s m ([.ref (q 0), .int x1, .int x2] : List Value).toArray below meth c s.heap [] 0 0 (Qi below G (cMW G q o.2) o.1 A0 ([.ref (q 0), .int x1, .int x2] : List Value).toArray s) (F0 m 0 ls [])
  have J0 : ∀ (t0_18 : Int32) (w_18 : MW) (H : Heap) (locs : List Loc) (ls : Array Slot), f_X6_heaps_18 x1 x2 t0_18 w_18 = some o → Wd G A0 s (cMW G q w_18) H locs → lv_has ls 5 [(0, .ref (q 0)), (1, .int x1), (2, .int x2)] → W p l e rmX6_heaps s m ([.ref (q 0), .int x1, .int x2] : List Value).toArray below meth c H locs 0 0 (Qi below G (cMW G q o.2) o.1 A0 ([.ref (q 0), .int x1, .int x2] : List Value).toArray s) (F0 m 18 ls [.int t0_18]) := by
    intro t0_18 w_18 H locs ls h hW hl
    refine lv_istore_n (lv' := [(3, .int t0_18), (0, .ref (q 0)), (1, .int x1), (2, .int x2)]) hx hb dX6_heaps_18 rfl hl (by decide) rfl (fun ls hl => ?_)
    refine lv_iload_n hx hb dX6_heaps_19 rfl (lv_at hl 0 rfl) ?_
    obtain ⟨ht_20, hf_20⟩ := of_ite h
    refine lv_if_eq (tgt := 29) hx hb dX6_heaps_20 (by decide) (fun c_20 => ?_) (fun c_20 => ?_)
    · have h := ht_20 c_20
      refine lv_aload_n hx hb dX6_heaps_29 rfl (lv_at hl 1 rfl) ?_
      refine x_get F hW 0 rfl fa_X6_9 rfl dX6_heaps_30 ?_
      refine lv_iconst (v := (3 : Int32)) hx hb dX6_heaps_33 (by decide) ?_
      refine lv_iload_n hx hb dX6_heaps_34 rfl (lv_at hl 2 rfl) ?_
      refine lv_iadd hx hb dX6_heaps_35 ?_
      obtain ⟨g_36, h⟩ := of_guard h
      refine x_iald F hW 1 rfl g_36 dX6_heaps_36 ?_
      obtain ⟨x_37, e_x_37, h⟩ := of_nm h
      refine x_topi e_x_37 ?_
      refine lv_istore (lv' := [(4, .int x_37), (3, .int t0_18), (0, .ref (q 0)), (1, .int x1), (2, .int x2)]) hx hb dX6_heaps_37 hl (by decide) rfl (fun ls hl => ?_)
      refine lv_aload_n hx hb dX6_heaps_39 rfl (lv_at hl 2 rfl) ?_
      refine x_get F hW 0 rfl fa_X6_9 rfl dX6_heaps_40 ?_
      refine lv_iconst (v := (3 : Int32)) hx hb dX6_heaps_43 (by decide) ?_
      refine lv_iload_n hx hb dX6_heaps_44 rfl (lv_at hl 3 rfl) ?_
      refine lv_iadd hx hb dX6_heaps_45 ?_
      refine lv_iload_n hx hb dX6_heaps_46 rfl (lv_at hl 4 rfl) ?_
      obtain ⟨g_47, h⟩ := of_guard h
      refine x_iast F hW 1 rfl g_47 (ws' := cMW G q ((upd w_18.1 ((3 : Int32) + x1).toNatClampNeg x2), w_18.2.1, w_18.2.2.1, w_18.2.2.2.1, w_18.2.2.2.2.1, w_18.2.2.2.2.2.1, w_18.2.2.2.2.2.2.1, w_18.2.2.2.2.2.2.2.1, w_18.2.2.2.2.2.2.2.2.1, w_18.2.2.2.2.2.2.2.2.2.1, w_18.2.2.2.2.2.2.2.2.2.2.1, w_18.2.2.2.2.2.2.2.2.2.2.2.1, w_18.2.2.2.2.2.2.2.2.2.2.2.2.1, w_18.2.2.2.2.2.2.2.2.2.2.2.2.2)) rfl dX6_heaps_47 (fun H locs hW => ?_)
      refine lv_iload hx hb dX6_heaps_48 (lv_at hl 0 rfl) ?_
      obtain rfl := Option.some.inj h
      exact x_reti F hr hW rfl dX6_heaps_50
    · have h := hf_20 c_20
      refine lv_aload_n hx hb dX6_heaps_23 rfl (lv_at hl 1 rfl) ?_
      refine lv_iload_n hx hb dX6_heaps_24 rfl (lv_at hl 0 rfl) ?_
      obtain ⟨p_25, hc_25, h⟩ := of_bind h
      refine x_Vi (av := [.ref (q 0), .int t0_18]) (As := [.int t0_18]) F hW (c_X6_no l G q w_18 t0_18 _ hc_25) [0, 1, 2, 3, 4, 5, 6, 7, 8, 9] rfl rfl (by intro q; cases q) cv_X6_39 rfl ⟨_, rfl, rfl⟩ rfl rfl rfl hl (Nat.le_of_ble_eq_true rfl) ⟨Nat.le_of_ble_eq_true rfl, Nat.le_of_ble_eq_true rfl⟩ ⟨rfl, rfl⟩ ⟨Nat.le_of_ble_eq_true rfl, Nat.le_of_ble_eq_true rfl⟩ dX6_heaps_25 rfl [some 0, some 1, some 2, some 3, some 4, some 5, some 6, some 7, some 8, some 9] rfl (ws' := cMW G q p_25.2) rfl (fun H locs hW => ?_)
      obtain rfl := Option.some.inj h
      exact x_reti F hr hW rfl dX6_heaps_28
  refine lv_iload_n hx hb dX6_heaps_0 rfl (lv_at hl 1 rfl) ?_
  obtain ⟨p_1, hc_1, h⟩ := of_bind h
  refine x_Si (av := [.int x1]) F hW (c_X6_isCell l G x1 _ hc_1) [] rfl rfl (by intro q; cases q) cs_X6_114 rfl rfl hl (Nat.le_of_ble_eq_true rfl) ⟨Nat.le_of_ble_eq_true rfl, Nat.le_of_ble_eq_true rfl⟩ ⟨rfl, rfl⟩ ⟨Nat.le_of_ble_eq_true rfl, Nat.le_of_ble_eq_true rfl⟩ dX6_heaps_1 rfl [none, none, none, none, none, none, none, none, none, none] rfl (ws' := cMW G q w) rfl (fun H locs hW => ?_)
  obtain ⟨ht_4, hf_4⟩ := of_ite h
  refine lv_if_eq (tgt := 17) hx hb dX6_heaps_4 (by decide) (fun c_4 => ?_) (fun c_4 => ?_)
  · have h := ht_4 c_4
    refine lv_iconst (v := (-1 : Int32)) hx hb dX6_heaps_17 (by decide) ?_
    exact J0 (-1 : Int32) w _ _ _ h hW (lv_sub hl [0, 1, 2] rfl)
  · have h := hf_4 c_4
    refine lv_iload_n hx hb dX6_heaps_7 rfl (lv_at hl 2 rfl) ?_
    refine lv_iconst (v := (0 : Int32)) hx hb dX6_heaps_8 (by decide) ?_
    refine lv_bipush (v := (9 : Int32)) hx hb dX6_heaps_9 (by decide) ?_
    obtain ⟨p_11, hc_11, h⟩ := of_bind h
    refine x_Si (av := [.int x2, .int (0 : Int32), .int (9 : Int32)]) F hW (c_X6_wrongBy l G x2 (0 : Int32) (9 : Int32) _ hc_11) [] rfl rfl (by intro q; cases q) cs_X6_141 rfl rfl hl (Nat.le_of_ble_eq_true rfl) ⟨Nat.le_of_ble_eq_true rfl, Nat.le_of_ble_eq_true rfl⟩ ⟨rfl, rfl⟩ ⟨Nat.le_of_ble_eq_true rfl, Nat.le_of_ble_eq_true rfl⟩ dX6_heaps_11 rfl [none, none, none, none, none, none, none, none, none, none] rfl (ws' := cMW G q w) rfl (fun H locs hW => ?_)
    refine lv_goto (tgt := 18) hx hb dX6_heaps_14 (by decide) ?_
    exact J0 p_11 w _ _ _ h hW (lv_sub hl [0, 1, 2] rfl)
def f_X6_moves (w : MW) (x1 : Int32) (x2 : Int32) : Option (Int32 × MW) :=
  Option.bind (f_X6_isHouse w x1) fun p_2 =>
    if p_2 = 0 then
    Option.bind (f_X6_no w (-1 : Int32)) fun p_17 =>
    some (p_17.1, p_17.2)
    else
    Option.bind (f_X6_isCell x2) fun p_9 =>
    if p_9 = 0 then
    Option.bind (f_X6_no w (-1 : Int32)) fun p_17_2 =>
    some (p_17_2.1, p_17_2.2)
    else
    Option.bind (f_X6_of x1 (2 : Int32)) fun p_27 =>
    if inR p_27 71 then
    nm (w.1 p_27.toNatClampNeg) fun x_31 =>
    Option.bind (f_X6_of x1 (2 : Int32)) fun p_38 =>
    if inR p_38 71 then
    some (x_31, ((upd w.1 p_38.toNatClampNeg x2), w.2.1, w.2.2.1, w.2.2.2.1, w.2.2.2.2.1, w.2.2.2.2.2.1, w.2.2.2.2.2.2.1, w.2.2.2.2.2.2.2.1, w.2.2.2.2.2.2.2.2.1, w.2.2.2.2.2.2.2.2.2.1, w.2.2.2.2.2.2.2.2.2.2.1, w.2.2.2.2.2.2.2.2.2.2.2.1, w.2.2.2.2.2.2.2.2.2.2.2.2.1, w.2.2.2.2.2.2.2.2.2.2.2.2.2))
    else none
    else none
abbrev rmX6_moves : Room := { frames := 2, cells := 0, slots := 0, locals := 43 }
set_option maxRecDepth 100000 in
set_option maxHeartbeats 4000000 in
theorem c_X6_moves (l : Launch) (G : EnT) (q : Nat → Nat) (w : MW) (x1 : Int32) (x2 : Int32) (o : Int32 × MW) (h : f_X6_moves w x1 x2 = some o) : Mi l yX6_moves rmX6_moves cX6_moves 4 (some .int) G false [.ref (q 0), .int x1, .int x2] (cMW G q w) o.1 (cMW G q o.2) := by
  refine Mi_of (by decide) (Nat.le_of_ble_eq_true rfl) ?_
  intro p e s m below meth c A0 F hr hW ls hl
  obtain ⟨hx, hb, hml, hown, hts, hK, hNW, hlocks, hA, hSX⟩ := id F
  have hl : lv_has ls 4 [(0, .ref (q 0)), (1, .int x1), (2, .int x2)] := hl
  have hW : Wd G A0 s (cMW G q w) s.heap [] := hW
  show W p l e rmX6_moves s m ([.ref (q 0), .int x1, .int x2] : List Value).toArray below meth c s.heap [] 0 0 (Qi below G (cMW G q o.2) o.1 A0 ([.ref (q 0), .int x1, .int x2] : List Value).toArray s) (F0 m 0 ls [])
  refine lv_aload_n hx hb dX6_moves_0 rfl (lv_at hl 0 rfl) ?_
  refine lv_iload_n hx hb dX6_moves_1 rfl (lv_at hl 1 rfl) ?_
  obtain ⟨p_2, hc_2, h⟩ := of_bind h
  refine x_Vi (av := [.ref (q 0), .int x1]) (As := [.int x1]) F hW (c_X6_isHouse l G q w x1 _ hc_2) [0, 1, 2, 3, 4, 5, 6, 7, 8, 9] rfl rfl (by intro q; cases q) cv_X6_122 rfl ⟨_, rfl, rfl⟩ rfl rfl rfl hl (Nat.le_of_ble_eq_true rfl) ⟨Nat.le_of_ble_eq_true rfl, Nat.le_of_ble_eq_true rfl⟩ ⟨rfl, rfl⟩ ⟨Nat.le_of_ble_eq_true rfl, Nat.le_of_ble_eq_true rfl⟩ dX6_moves_2 rfl [some 0, some 1, some 2, some 3, some 4, some 5, some 6, some 7, some 8, some 9] rfl (ws' := cMW G q w) rfl (fun H locs hW => ?_)
  obtain ⟨ht_5, hf_5⟩ := of_ite h
  refine lv_if_eq (tgt := 15) hx hb dX6_moves_5 (by decide) (fun c_5 => ?_) (fun c_5 => ?_)
  · have h := ht_5 c_5
    refine lv_aload_n hx hb dX6_moves_15 rfl (lv_at hl 0 rfl) ?_
    refine lv_iconst (v := (-1 : Int32)) hx hb dX6_moves_16 (by decide) ?_
    obtain ⟨p_17, hc_17, h⟩ := of_bind h
    refine x_Vi (av := [.ref (q 0), .int (-1 : Int32)]) (As := [.int (-1 : Int32)]) F hW (c_X6_no l G q w (-1 : Int32) _ hc_17) [0, 1, 2, 3, 4, 5, 6, 7, 8, 9] rfl rfl (by intro q; cases q) cv_X6_39 rfl ⟨_, rfl, rfl⟩ rfl rfl rfl hl (Nat.le_of_ble_eq_true rfl) ⟨Nat.le_of_ble_eq_true rfl, Nat.le_of_ble_eq_true rfl⟩ ⟨rfl, rfl⟩ ⟨Nat.le_of_ble_eq_true rfl, Nat.le_of_ble_eq_true rfl⟩ dX6_moves_17 rfl [some 0, some 1, some 2, some 3, some 4, some 5, some 6, some 7, some 8, some 9] rfl (ws' := cMW G q p_17.2) rfl (fun H locs hW => ?_)
    obtain rfl := Option.some.inj h
    exact x_reti F hr hW rfl dX6_moves_20
  · have h := hf_5 c_5
    refine lv_iload_n hx hb dX6_moves_8 rfl (lv_at hl 2 rfl) ?_
    obtain ⟨p_9, hc_9, h⟩ := of_bind h
    refine x_Si (av := [.int x2]) F hW (c_X6_isCell l G x2 _ hc_9) [] rfl rfl (by intro q; cases q) cs_X6_114 rfl rfl hl (Nat.le_of_ble_eq_true rfl) ⟨Nat.le_of_ble_eq_true rfl, Nat.le_of_ble_eq_true rfl⟩ ⟨rfl, rfl⟩ ⟨Nat.le_of_ble_eq_true rfl, Nat.le_of_ble_eq_true rfl⟩ dX6_moves_9 rfl [none, none, none, none, none, none, none, none, none, none] rfl (ws' := cMW G q w) rfl (fun H locs hW => ?_)
    obtain ⟨ht_12, hf_12⟩ := of_ite h
    refine lv_if_ne (tgt := 21) hx hb dX6_moves_12 (by decide) (fun c_12 => ?_) (fun c_12 => ?_)
    · have h := hf_12 c_12
      refine lv_aload_n hx hb dX6_moves_21 rfl (lv_at hl 0 rfl) ?_
      refine x_get F hW 0 rfl fa_X6_9 rfl dX6_moves_22 ?_
      refine lv_iload_n hx hb dX6_moves_25 rfl (lv_at hl 1 rfl) ?_
      refine lv_iconst (v := (2 : Int32)) hx hb dX6_moves_26 (by decide) ?_
      obtain ⟨p_27, hc_27, h⟩ := of_bind h
      refine x_Si (av := [.int x1, .int (2 : Int32)]) F hW (c_X6_of l G x1 (2 : Int32) _ hc_27) [] rfl rfl (by intro q; cases q) cs_X6_47 rfl rfl hl (Nat.le_of_ble_eq_true rfl) ⟨Nat.le_of_ble_eq_true rfl, Nat.le_of_ble_eq_true rfl⟩ ⟨rfl, rfl⟩ ⟨Nat.le_of_ble_eq_true rfl, Nat.le_of_ble_eq_true rfl⟩ dX6_moves_27 rfl [none, none, none, none, none, none, none, none, none, none] rfl (ws' := cMW G q w) rfl (fun H locs hW => ?_)
      obtain ⟨g_30, h⟩ := of_guard h
      refine x_iald F hW 1 rfl g_30 dX6_moves_30 ?_
      obtain ⟨x_31, e_x_31, h⟩ := of_nm h
      refine x_topi e_x_31 ?_
      refine lv_istore_n (lv' := [(3, .int x_31), (0, .ref (q 0)), (1, .int x1), (2, .int x2)]) hx hb dX6_moves_31 rfl hl (by decide) rfl (fun ls hl => ?_)
      refine lv_aload_n hx hb dX6_moves_32 rfl (lv_at hl 1 rfl) ?_
      refine x_get F hW 0 rfl fa_X6_9 rfl dX6_moves_33 ?_
      refine lv_iload_n hx hb dX6_moves_36 rfl (lv_at hl 2 rfl) ?_
      refine lv_iconst (v := (2 : Int32)) hx hb dX6_moves_37 (by decide) ?_
      obtain ⟨p_38, hc_38, h⟩ := of_bind h
      refine x_Si (av := [.int x1, .int (2 : Int32)]) F hW (c_X6_of l G x1 (2 : Int32) _ hc_38) [] rfl rfl (by intro q; cases q) cs_X6_47 rfl rfl hl (Nat.le_of_ble_eq_true rfl) ⟨Nat.le_of_ble_eq_true rfl, Nat.le_of_ble_eq_true rfl⟩ ⟨rfl, rfl⟩ ⟨Nat.le_of_ble_eq_true rfl, Nat.le_of_ble_eq_true rfl⟩ dX6_moves_38 rfl [none, none, none, none, none, none, none, none, none, none] rfl (ws' := cMW G q w) rfl (fun H locs hW => ?_)
      refine lv_iload_n hx hb dX6_moves_41 rfl (lv_at hl 3 rfl) ?_
      obtain ⟨g_42, h⟩ := of_guard h
      refine x_iast F hW 1 rfl g_42 (ws' := cMW G q ((upd w.1 p_38.toNatClampNeg x2), w.2.1, w.2.2.1, w.2.2.2.1, w.2.2.2.2.1, w.2.2.2.2.2.1, w.2.2.2.2.2.2.1, w.2.2.2.2.2.2.2.1, w.2.2.2.2.2.2.2.2.1, w.2.2.2.2.2.2.2.2.2.1, w.2.2.2.2.2.2.2.2.2.2.1, w.2.2.2.2.2.2.2.2.2.2.2.1, w.2.2.2.2.2.2.2.2.2.2.2.2.1, w.2.2.2.2.2.2.2.2.2.2.2.2.2)) rfl dX6_moves_42 (fun H locs hW => ?_)
      refine lv_iload_n hx hb dX6_moves_43 rfl (lv_at hl 0 rfl) ?_
      obtain rfl := Option.some.inj h
      exact x_reti F hr hW rfl dX6_moves_44
    · have h := ht_12 c_12
      refine lv_aload_n hx hb dX6_moves_15 rfl (lv_at hl 0 rfl) ?_
      refine lv_iconst (v := (-1 : Int32)) hx hb dX6_moves_16 (by decide) ?_
      obtain ⟨p_17_2, hc_17, h⟩ := of_bind h
      refine x_Vi (av := [.ref (q 0), .int (-1 : Int32)]) (As := [.int (-1 : Int32)]) F hW (c_X6_no l G q w (-1 : Int32) _ hc_17) [0, 1, 2, 3, 4, 5, 6, 7, 8, 9] rfl rfl (by intro q; cases q) cv_X6_39 rfl ⟨_, rfl, rfl⟩ rfl rfl rfl hl (Nat.le_of_ble_eq_true rfl) ⟨Nat.le_of_ble_eq_true rfl, Nat.le_of_ble_eq_true rfl⟩ ⟨rfl, rfl⟩ ⟨Nat.le_of_ble_eq_true rfl, Nat.le_of_ble_eq_true rfl⟩ dX6_moves_17 rfl [some 0, some 1, some 2, some 3, some 4, some 5, some 6, some 7, some 8, some 9] rfl (ws' := cMW G q p_17_2.2) rfl (fun H locs hW => ?_)
      obtain rfl := Option.some.inj h
      exact x_reti F hr hW rfl dX6_moves_20
def f_X6_gives_19 (x1 : Int32) (x2 : Int32) (t0_19 : Int32) (w_19 : MW) : Option (Int32 × MW) :=
  if t0_19 = 0 then
    Option.bind (f_X6_of x1 (3 : Int32)) fun p_36 =>
    Option.bind (f_X6_of x1 (3 : Int32)) fun p_47 =>
    if inR p_47 71 then
    Option.bind (f_X6_least (99 : Int32) ((w_19.1 p_47.toNatClampNeg) + x2)) fun p_53 =>
    if inR p_36 71 then
    Option.bind (f_X6_of x1 (3 : Int32)) fun p_63 =>
    if inR p_63 71 then
    some (((upd w_19.1 p_36.toNatClampNeg p_53) p_63.toNatClampNeg), ((upd w_19.1 p_36.toNatClampNeg p_53), w_19.2.1, w_19.2.2.1, w_19.2.2.2.1, w_19.2.2.2.2.1, w_19.2.2.2.2.2.1, w_19.2.2.2.2.2.2.1, w_19.2.2.2.2.2.2.2.1, w_19.2.2.2.2.2.2.2.2.1, w_19.2.2.2.2.2.2.2.2.2.1, w_19.2.2.2.2.2.2.2.2.2.2.1, w_19.2.2.2.2.2.2.2.2.2.2.2.1, w_19.2.2.2.2.2.2.2.2.2.2.2.2.1, w_19.2.2.2.2.2.2.2.2.2.2.2.2.2))
    else none
    else none
    else none
    else
    Option.bind (f_X6_no w_19 t0_19) fun p_26 =>
    some (p_26.1, p_26.2)
def f_X6_gives (w : MW) (x1 : Int32) (x2 : Int32) : Option (Int32 × MW) :=
  Option.bind (f_X6_isHouse w x1) fun p_2 =>
    if p_2 = 0 then
    f_X6_gives_19 x1 x2 (-1 : Int32) w
    else
    Option.bind (f_X6_wrongBy x2 (0 : Int32) (99 : Int32)) fun p_12 =>
    f_X6_gives_19 x1 x2 p_12 w
abbrev rmX6_gives : Room := { frames := 2, cells := 0, slots := 0, locals := 43 }
set_option maxRecDepth 100000 in
set_option maxHeartbeats 4000000 in
theorem c_X6_gives (l : Launch) (G : EnT) (q : Nat → Nat) (w : MW) (x1 : Int32) (x2 : Int32) (o : Int32 × MW) (h : f_X6_gives w x1 x2 = some o) : Mi l yX6_gives rmX6_gives cX6_gives 4 (some .int) G false [.ref (q 0), .int x1, .int x2] (cMW G q w) o.1 (cMW G q o.2) := by
  refine Mi_of (by decide) (Nat.le_of_ble_eq_true rfl) ?_
  intro p e s m below meth c A0 F hr hW ls hl
  obtain ⟨hx, hb, hml, hown, hts, hK, hNW, hlocks, hA, hSX⟩ := id F
  have hl : lv_has ls 4 [(0, .ref (q 0)), (1, .int x1), (2, .int x2)] := hl
  have hW : Wd G A0 s (cMW G q w) s.heap [] := hW
  show W p l e rmX6_gives s m ([.ref (q 0), .int x1, .int x2] : List Value).toArray below meth c s.heap [] 0 0 (Qi below G (cMW G q o.2) o.1 A0 ([.ref (q 0), .int x1, .int x2] : List Value).toArray s) (F0 m 0 ls [])
  have J0 : ∀ (t0_19 : Int32) (w_19 : MW) (H : Heap) (locs : List Loc) (ls : Array Slot), f_X6_gives_19 x1 x2 t0_19 w_19 = some o → Wd G A0 s (cMW G q w_19) H locs → lv_has ls 4 [(0, .ref (q 0)), (1, .int x1), (2, .int x2)] → W p l e rmX6_gives s m ([.ref (q 0), .int x1, .int x2] : List Value).toArray below meth c H locs 0 0 (Qi below G (cMW G q o.2) o.1 A0 ([.ref (q 0), .int x1, .int x2] : List Value).toArray s) (F0 m 19 ls [.int t0_19]) := by
    intro t0_19 w_19 H locs ls h hW hl
    refine lv_istore_n (lv' := [(3, .int t0_19), (0, .ref (q 0)), (1, .int x1), (2, .int x2)]) hx hb dX6_gives_19 rfl hl (by decide) rfl (fun ls hl => ?_)
    refine lv_iload_n hx hb dX6_gives_20 rfl (lv_at hl 0 rfl) ?_
    obtain ⟨ht_21, hf_21⟩ := of_ite h
    refine lv_if_eq (tgt := 30) hx hb dX6_gives_21 (by decide) (fun c_21 => ?_) (fun c_21 => ?_)
    · have h := ht_21 c_21
      refine lv_aload_n hx hb dX6_gives_30 rfl (lv_at hl 1 rfl) ?_
      refine x_get F hW 0 rfl fa_X6_9 rfl dX6_gives_31 ?_
      refine lv_iload_n hx hb dX6_gives_34 rfl (lv_at hl 2 rfl) ?_
      refine lv_iconst (v := (3 : Int32)) hx hb dX6_gives_35 (by decide) ?_
      obtain ⟨p_36, hc_36, h⟩ := of_bind h
      refine x_Si (av := [.int x1, .int (3 : Int32)]) F hW (c_X6_of l G x1 (3 : Int32) _ hc_36) [] rfl rfl (by intro q; cases q) cs_X6_47 rfl rfl hl (Nat.le_of_ble_eq_true rfl) ⟨Nat.le_of_ble_eq_true rfl, Nat.le_of_ble_eq_true rfl⟩ ⟨rfl, rfl⟩ ⟨Nat.le_of_ble_eq_true rfl, Nat.le_of_ble_eq_true rfl⟩ dX6_gives_36 rfl [none, none, none, none, none, none, none, none, none, none] rfl (ws' := cMW G q w_19) rfl (fun H locs hW => ?_)
      refine lv_bipush (v := (99 : Int32)) hx hb dX6_gives_39 (by decide) ?_
      refine lv_aload_n hx hb dX6_gives_41 rfl (lv_at hl 1 rfl) ?_
      refine x_get F hW 0 rfl fa_X6_9 rfl dX6_gives_42 ?_
      refine lv_iload_n hx hb dX6_gives_45 rfl (lv_at hl 2 rfl) ?_
      refine lv_iconst (v := (3 : Int32)) hx hb dX6_gives_46 (by decide) ?_
      obtain ⟨p_47, hc_47, h⟩ := of_bind h
      refine x_Si (av := [.int x1, .int (3 : Int32)]) F hW (c_X6_of l G x1 (3 : Int32) _ hc_47) [] rfl rfl (by intro q; cases q) cs_X6_47 rfl rfl hl (Nat.le_of_ble_eq_true rfl) ⟨Nat.le_of_ble_eq_true rfl, Nat.le_of_ble_eq_true rfl⟩ ⟨rfl, rfl⟩ ⟨Nat.le_of_ble_eq_true rfl, Nat.le_of_ble_eq_true rfl⟩ dX6_gives_47 rfl [none, none, none, none, none, none, none, none, none, none] rfl (ws' := cMW G q w_19) rfl (fun H locs hW => ?_)
      obtain ⟨g_50, h⟩ := of_guard h
      refine x_iald F hW 1 rfl g_50 dX6_gives_50 ?_
      refine lv_iload_n hx hb dX6_gives_51 rfl (lv_at hl 3 rfl) ?_
      refine lv_iadd hx hb dX6_gives_52 ?_
      obtain ⟨p_53, hc_53, h⟩ := of_bind h
      refine x_Si (av := [.int (99 : Int32), .int ((w_19.1 p_47.toNatClampNeg) + x2)]) F hW (c_X6_least l G (99 : Int32) ((w_19.1 p_47.toNatClampNeg) + x2) _ hc_53) [] rfl rfl (by intro q; cases q) cs_X6_125 rfl rfl hl (Nat.le_of_ble_eq_true rfl) ⟨Nat.le_of_ble_eq_true rfl, Nat.le_of_ble_eq_true rfl⟩ ⟨rfl, rfl⟩ ⟨Nat.le_of_ble_eq_true rfl, Nat.le_of_ble_eq_true rfl⟩ dX6_gives_53 rfl [none, none, none, none, none, none, none, none, none, none] rfl (ws' := cMW G q w_19) rfl (fun H locs hW => ?_)
      obtain ⟨g_56, h⟩ := of_guard h
      refine x_iast F hW 1 rfl g_56 (ws' := cMW G q ((upd w_19.1 p_36.toNatClampNeg p_53), w_19.2.1, w_19.2.2.1, w_19.2.2.2.1, w_19.2.2.2.2.1, w_19.2.2.2.2.2.1, w_19.2.2.2.2.2.2.1, w_19.2.2.2.2.2.2.2.1, w_19.2.2.2.2.2.2.2.2.1, w_19.2.2.2.2.2.2.2.2.2.1, w_19.2.2.2.2.2.2.2.2.2.2.1, w_19.2.2.2.2.2.2.2.2.2.2.2.1, w_19.2.2.2.2.2.2.2.2.2.2.2.2.1, w_19.2.2.2.2.2.2.2.2.2.2.2.2.2)) rfl dX6_gives_56 (fun H locs hW => ?_)
      refine lv_aload_n hx hb dX6_gives_57 rfl (lv_at hl 1 rfl) ?_
      refine x_get F hW 0 rfl fa_X6_9 rfl dX6_gives_58 ?_
      refine lv_iload_n hx hb dX6_gives_61 rfl (lv_at hl 2 rfl) ?_
      refine lv_iconst (v := (3 : Int32)) hx hb dX6_gives_62 (by decide) ?_
      obtain ⟨p_63, hc_63, h⟩ := of_bind h
      refine x_Si (av := [.int x1, .int (3 : Int32)]) F hW (c_X6_of l G x1 (3 : Int32) _ hc_63) [] rfl rfl (by intro q; cases q) cs_X6_47 rfl rfl hl (Nat.le_of_ble_eq_true rfl) ⟨Nat.le_of_ble_eq_true rfl, Nat.le_of_ble_eq_true rfl⟩ ⟨rfl, rfl⟩ ⟨Nat.le_of_ble_eq_true rfl, Nat.le_of_ble_eq_true rfl⟩ dX6_gives_63 rfl [none, none, none, none, none, none, none, none, none, none] rfl (ws' := cMW G q ((upd w_19.1 p_36.toNatClampNeg p_53), w_19.2.1, w_19.2.2.1, w_19.2.2.2.1, w_19.2.2.2.2.1, w_19.2.2.2.2.2.1, w_19.2.2.2.2.2.2.1, w_19.2.2.2.2.2.2.2.1, w_19.2.2.2.2.2.2.2.2.1, w_19.2.2.2.2.2.2.2.2.2.1, w_19.2.2.2.2.2.2.2.2.2.2.1, w_19.2.2.2.2.2.2.2.2.2.2.2.1, w_19.2.2.2.2.2.2.2.2.2.2.2.2.1, w_19.2.2.2.2.2.2.2.2.2.2.2.2.2)) rfl (fun H locs hW => ?_)
      obtain ⟨g_66, h⟩ := of_guard h
      refine x_iald F hW 1 rfl g_66 dX6_gives_66 ?_
      obtain rfl := Option.some.inj h
      exact x_reti F hr hW rfl dX6_gives_67
    · have h := hf_21 c_21
      refine lv_aload_n hx hb dX6_gives_24 rfl (lv_at hl 1 rfl) ?_
      refine lv_iload_n hx hb dX6_gives_25 rfl (lv_at hl 0 rfl) ?_
      obtain ⟨p_26, hc_26, h⟩ := of_bind h
      refine x_Vi (av := [.ref (q 0), .int t0_19]) (As := [.int t0_19]) F hW (c_X6_no l G q w_19 t0_19 _ hc_26) [0, 1, 2, 3, 4, 5, 6, 7, 8, 9] rfl rfl (by intro q; cases q) cv_X6_39 rfl ⟨_, rfl, rfl⟩ rfl rfl rfl hl (Nat.le_of_ble_eq_true rfl) ⟨Nat.le_of_ble_eq_true rfl, Nat.le_of_ble_eq_true rfl⟩ ⟨rfl, rfl⟩ ⟨Nat.le_of_ble_eq_true rfl, Nat.le_of_ble_eq_true rfl⟩ dX6_gives_26 rfl [some 0, some 1, some 2, some 3, some 4, some 5, some 6, some 7, some 8, some 9] rfl (ws' := cMW G q p_26.2) rfl (fun H locs hW => ?_)
      obtain rfl := Option.some.inj h
      exact x_reti F hr hW rfl dX6_gives_29
  refine lv_aload_n hx hb dX6_gives_0 rfl (lv_at hl 0 rfl) ?_
  refine lv_iload_n hx hb dX6_gives_1 rfl (lv_at hl 1 rfl) ?_
  obtain ⟨p_2, hc_2, h⟩ := of_bind h
  refine x_Vi (av := [.ref (q 0), .int x1]) (As := [.int x1]) F hW (c_X6_isHouse l G q w x1 _ hc_2) [0, 1, 2, 3, 4, 5, 6, 7, 8, 9] rfl rfl (by intro q; cases q) cv_X6_122 rfl ⟨_, rfl, rfl⟩ rfl rfl rfl hl (Nat.le_of_ble_eq_true rfl) ⟨Nat.le_of_ble_eq_true rfl, Nat.le_of_ble_eq_true rfl⟩ ⟨rfl, rfl⟩ ⟨Nat.le_of_ble_eq_true rfl, Nat.le_of_ble_eq_true rfl⟩ dX6_gives_2 rfl [some 0, some 1, some 2, some 3, some 4, some 5, some 6, some 7, some 8, some 9] rfl (ws' := cMW G q w) rfl (fun H locs hW => ?_)
  obtain ⟨ht_5, hf_5⟩ := of_ite h
  refine lv_if_eq (tgt := 18) hx hb dX6_gives_5 (by decide) (fun c_5 => ?_) (fun c_5 => ?_)
  · have h := ht_5 c_5
    refine lv_iconst (v := (-1 : Int32)) hx hb dX6_gives_18 (by decide) ?_
    exact J0 (-1 : Int32) w _ _ _ h hW (lv_sub hl [0, 1, 2] rfl)
  · have h := hf_5 c_5
    refine lv_iload_n hx hb dX6_gives_8 rfl (lv_at hl 2 rfl) ?_
    refine lv_iconst (v := (0 : Int32)) hx hb dX6_gives_9 (by decide) ?_
    refine lv_bipush (v := (99 : Int32)) hx hb dX6_gives_10 (by decide) ?_
    obtain ⟨p_12, hc_12, h⟩ := of_bind h
    refine x_Si (av := [.int x2, .int (0 : Int32), .int (99 : Int32)]) F hW (c_X6_wrongBy l G x2 (0 : Int32) (99 : Int32) _ hc_12) [] rfl rfl (by intro q; cases q) cs_X6_141 rfl rfl hl (Nat.le_of_ble_eq_true rfl) ⟨Nat.le_of_ble_eq_true rfl, Nat.le_of_ble_eq_true rfl⟩ ⟨rfl, rfl⟩ ⟨Nat.le_of_ble_eq_true rfl, Nat.le_of_ble_eq_true rfl⟩ dX6_gives_12 rfl [none, none, none, none, none, none, none, none, none, none] rfl (ws' := cMW G q w) rfl (fun H locs hW => ?_)
    refine lv_goto (tgt := 19) hx hb dX6_gives_15 (by decide) ?_
    exact J0 p_12 w _ _ _ h hW (lv_sub hl [0, 1, 2] rfl)
def f_X6_calls (w : MW) (x1 : Int32) : Option (Int32 × MW) :=
  Option.bind (f_X6_isHouse w x1) fun p_2 =>
    if p_2 = 0 then
    Option.bind (f_X6_no w (-1 : Int32)) fun p_10 =>
    some (p_10.1, p_10.2)
    else
    Option.bind (f_X6_of x1 (4 : Int32)) fun p_20 =>
    if inR p_20 71 then
    if inR p_20 71 then
    Option.bind (f_X6_of x1 (4 : Int32)) fun p_34 =>
    if inR p_34 71 then
    some (((upd w.1 p_20.toNatClampNeg ((w.1 p_20.toNatClampNeg) ^^^ (1 : Int32))) p_34.toNatClampNeg), ((upd w.1 p_20.toNatClampNeg ((w.1 p_20.toNatClampNeg) ^^^ (1 : Int32))), w.2.1, w.2.2.1, w.2.2.2.1, w.2.2.2.2.1, w.2.2.2.2.2.1, w.2.2.2.2.2.2.1, w.2.2.2.2.2.2.2.1, w.2.2.2.2.2.2.2.2.1, w.2.2.2.2.2.2.2.2.2.1, w.2.2.2.2.2.2.2.2.2.2.1, w.2.2.2.2.2.2.2.2.2.2.2.1, w.2.2.2.2.2.2.2.2.2.2.2.2.1, w.2.2.2.2.2.2.2.2.2.2.2.2.2))
    else none
    else none
    else none
abbrev rmX6_calls : Room := { frames := 2, cells := 0, slots := 0, locals := 43 }
set_option maxRecDepth 100000 in
set_option maxHeartbeats 4000000 in
theorem c_X6_calls (l : Launch) (G : EnT) (q : Nat → Nat) (w : MW) (x1 : Int32) (o : Int32 × MW) (h : f_X6_calls w x1 = some o) : Mi l yX6_calls rmX6_calls cX6_calls 2 (some .int) G false [.ref (q 0), .int x1] (cMW G q w) o.1 (cMW G q o.2) := by
  refine Mi_of (by decide) (Nat.le_of_ble_eq_true rfl) ?_
  intro p e s m below meth c A0 F hr hW ls hl
  obtain ⟨hx, hb, hml, hown, hts, hK, hNW, hlocks, hA, hSX⟩ := id F
  have hl : lv_has ls 2 [(0, .ref (q 0)), (1, .int x1)] := hl
  have hW : Wd G A0 s (cMW G q w) s.heap [] := hW
  show W p l e rmX6_calls s m ([.ref (q 0), .int x1] : List Value).toArray below meth c s.heap [] 0 0 (Qi below G (cMW G q o.2) o.1 A0 ([.ref (q 0), .int x1] : List Value).toArray s) (F0 m 0 ls [])
  refine lv_aload_n hx hb dX6_calls_0 rfl (lv_at hl 0 rfl) ?_
  refine lv_iload_n hx hb dX6_calls_1 rfl (lv_at hl 1 rfl) ?_
  obtain ⟨p_2, hc_2, h⟩ := of_bind h
  refine x_Vi (av := [.ref (q 0), .int x1]) (As := [.int x1]) F hW (c_X6_isHouse l G q w x1 _ hc_2) [0, 1, 2, 3, 4, 5, 6, 7, 8, 9] rfl rfl (by intro q; cases q) cv_X6_122 rfl ⟨_, rfl, rfl⟩ rfl rfl rfl hl (Nat.le_of_ble_eq_true rfl) ⟨Nat.le_of_ble_eq_true rfl, Nat.le_of_ble_eq_true rfl⟩ ⟨rfl, rfl⟩ ⟨Nat.le_of_ble_eq_true rfl, Nat.le_of_ble_eq_true rfl⟩ dX6_calls_2 rfl [some 0, some 1, some 2, some 3, some 4, some 5, some 6, some 7, some 8, some 9] rfl (ws' := cMW G q w) rfl (fun H locs hW => ?_)
  obtain ⟨ht_5, hf_5⟩ := of_ite h
  refine lv_if_ne (tgt := 14) hx hb dX6_calls_5 (by decide) (fun c_5 => ?_) (fun c_5 => ?_)
  · have h := hf_5 c_5
    refine lv_aload_n hx hb dX6_calls_14 rfl (lv_at hl 0 rfl) ?_
    refine x_get F hW 0 rfl fa_X6_9 rfl dX6_calls_15 ?_
    refine lv_iload_n hx hb dX6_calls_18 rfl (lv_at hl 1 rfl) ?_
    refine lv_iconst (v := (4 : Int32)) hx hb dX6_calls_19 (by decide) ?_
    obtain ⟨p_20, hc_20, h⟩ := of_bind h
    refine x_Si (av := [.int x1, .int (4 : Int32)]) F hW (c_X6_of l G x1 (4 : Int32) _ hc_20) [] rfl rfl (by intro q; cases q) cs_X6_47 rfl rfl hl (Nat.le_of_ble_eq_true rfl) ⟨Nat.le_of_ble_eq_true rfl, Nat.le_of_ble_eq_true rfl⟩ ⟨rfl, rfl⟩ ⟨Nat.le_of_ble_eq_true rfl, Nat.le_of_ble_eq_true rfl⟩ dX6_calls_20 rfl [none, none, none, none, none, none, none, none, none, none] rfl (ws' := cMW G q w) rfl (fun H locs hW => ?_)
    refine lv_dup2_11 hx hb dX6_calls_23 rfl rfl ?_
    obtain ⟨g_24, h⟩ := of_guard h
    refine x_iald F hW 1 rfl g_24 dX6_calls_24 ?_
    refine lv_iconst (v := (1 : Int32)) hx hb dX6_calls_25 (by decide) ?_
    refine lv_ixor hx hb dX6_calls_26 ?_
    obtain ⟨g_27, h⟩ := of_guard h
    refine x_iast F hW 1 rfl g_27 (ws' := cMW G q ((upd w.1 p_20.toNatClampNeg ((w.1 p_20.toNatClampNeg) ^^^ (1 : Int32))), w.2.1, w.2.2.1, w.2.2.2.1, w.2.2.2.2.1, w.2.2.2.2.2.1, w.2.2.2.2.2.2.1, w.2.2.2.2.2.2.2.1, w.2.2.2.2.2.2.2.2.1, w.2.2.2.2.2.2.2.2.2.1, w.2.2.2.2.2.2.2.2.2.2.1, w.2.2.2.2.2.2.2.2.2.2.2.1, w.2.2.2.2.2.2.2.2.2.2.2.2.1, w.2.2.2.2.2.2.2.2.2.2.2.2.2)) rfl dX6_calls_27 (fun H locs hW => ?_)
    refine lv_aload_n hx hb dX6_calls_28 rfl (lv_at hl 0 rfl) ?_
    refine x_get F hW 0 rfl fa_X6_9 rfl dX6_calls_29 ?_
    refine lv_iload_n hx hb dX6_calls_32 rfl (lv_at hl 1 rfl) ?_
    refine lv_iconst (v := (4 : Int32)) hx hb dX6_calls_33 (by decide) ?_
    obtain ⟨p_34, hc_34, h⟩ := of_bind h
    refine x_Si (av := [.int x1, .int (4 : Int32)]) F hW (c_X6_of l G x1 (4 : Int32) _ hc_34) [] rfl rfl (by intro q; cases q) cs_X6_47 rfl rfl hl (Nat.le_of_ble_eq_true rfl) ⟨Nat.le_of_ble_eq_true rfl, Nat.le_of_ble_eq_true rfl⟩ ⟨rfl, rfl⟩ ⟨Nat.le_of_ble_eq_true rfl, Nat.le_of_ble_eq_true rfl⟩ dX6_calls_34 rfl [none, none, none, none, none, none, none, none, none, none] rfl (ws' := cMW G q ((upd w.1 p_20.toNatClampNeg ((w.1 p_20.toNatClampNeg) ^^^ (1 : Int32))), w.2.1, w.2.2.1, w.2.2.2.1, w.2.2.2.2.1, w.2.2.2.2.2.1, w.2.2.2.2.2.2.1, w.2.2.2.2.2.2.2.1, w.2.2.2.2.2.2.2.2.1, w.2.2.2.2.2.2.2.2.2.1, w.2.2.2.2.2.2.2.2.2.2.1, w.2.2.2.2.2.2.2.2.2.2.2.1, w.2.2.2.2.2.2.2.2.2.2.2.2.1, w.2.2.2.2.2.2.2.2.2.2.2.2.2)) rfl (fun H locs hW => ?_)
    obtain ⟨g_37, h⟩ := of_guard h
    refine x_iald F hW 1 rfl g_37 dX6_calls_37 ?_
    obtain rfl := Option.some.inj h
    exact x_reti F hr hW rfl dX6_calls_38
  · have h := ht_5 c_5
    refine lv_aload_n hx hb dX6_calls_8 rfl (lv_at hl 0 rfl) ?_
    refine lv_iconst (v := (-1 : Int32)) hx hb dX6_calls_9 (by decide) ?_
    obtain ⟨p_10, hc_10, h⟩ := of_bind h
    refine x_Vi (av := [.ref (q 0), .int (-1 : Int32)]) (As := [.int (-1 : Int32)]) F hW (c_X6_no l G q w (-1 : Int32) _ hc_10) [0, 1, 2, 3, 4, 5, 6, 7, 8, 9] rfl rfl (by intro q; cases q) cv_X6_39 rfl ⟨_, rfl, rfl⟩ rfl rfl rfl hl (Nat.le_of_ble_eq_true rfl) ⟨Nat.le_of_ble_eq_true rfl, Nat.le_of_ble_eq_true rfl⟩ ⟨rfl, rfl⟩ ⟨Nat.le_of_ble_eq_true rfl, Nat.le_of_ble_eq_true rfl⟩ dX6_calls_10 rfl [some 0, some 1, some 2, some 3, some 4, some 5, some 6, some 7, some 8, some 9] rfl (ws' := cMW G q p_10.2) rfl (fun H locs hW => ?_)
    obtain rfl := Option.some.inj h
    exact x_reti F hr hW rfl dX6_calls_13
def f_X6_fog (w : MW) (x1 : Int32) : Option (Int32 × MW) :=
  Option.bind (f_X6_wrongBy x1 (0 : Int32) (9 : Int32)) fun p_4 =>
    if p_4 = 0 then
    if inR (2 : Int32) 71 then
    nm (w.1 (2 : Int32).toNatClampNeg) fun x_24 =>
    if inR (2 : Int32) 71 then
    some (x_24, ((upd w.1 (2 : Int32).toNatClampNeg x1), w.2.1, w.2.2.1, w.2.2.2.1, w.2.2.2.2.1, w.2.2.2.2.2.1, w.2.2.2.2.2.2.1, w.2.2.2.2.2.2.2.1, w.2.2.2.2.2.2.2.2.1, w.2.2.2.2.2.2.2.2.2.1, w.2.2.2.2.2.2.2.2.2.2.1, w.2.2.2.2.2.2.2.2.2.2.2.1, w.2.2.2.2.2.2.2.2.2.2.2.2.1, w.2.2.2.2.2.2.2.2.2.2.2.2.2))
    else none
    else none
    else
    Option.bind (f_X6_no w p_4) fun p_14 =>
    some (p_14.1, p_14.2)
abbrev rmX6_fog : Room := { frames := 1, cells := 0, slots := 0, locals := 22 }
set_option maxRecDepth 100000 in
set_option maxHeartbeats 4000000 in
theorem c_X6_fog (l : Launch) (G : EnT) (q : Nat → Nat) (w : MW) (x1 : Int32) (o : Int32 × MW) (h : f_X6_fog w x1 = some o) : Mi l yX6_fog rmX6_fog cX6_fog 4 (some .int) G false [.ref (q 0), .int x1] (cMW G q w) o.1 (cMW G q o.2) := by
  refine Mi_of (by decide) (Nat.le_of_ble_eq_true rfl) ?_
  intro p e s m below meth c A0 F hr hW ls hl
  obtain ⟨hx, hb, hml, hown, hts, hK, hNW, hlocks, hA, hSX⟩ := id F
  have hl : lv_has ls 4 [(0, .ref (q 0)), (1, .int x1)] := hl
  have hW : Wd G A0 s (cMW G q w) s.heap [] := hW
  show W p l e rmX6_fog s m ([.ref (q 0), .int x1] : List Value).toArray below meth c s.heap [] 0 0 (Qi below G (cMW G q o.2) o.1 A0 ([.ref (q 0), .int x1] : List Value).toArray s) (F0 m 0 ls [])
  refine lv_iload_n hx hb dX6_fog_0 rfl (lv_at hl 1 rfl) ?_
  refine lv_iconst (v := (0 : Int32)) hx hb dX6_fog_1 (by decide) ?_
  refine lv_bipush (v := (9 : Int32)) hx hb dX6_fog_2 (by decide) ?_
  obtain ⟨p_4, hc_4, h⟩ := of_bind h
  refine x_Si (av := [.int x1, .int (0 : Int32), .int (9 : Int32)]) F hW (c_X6_wrongBy l G x1 (0 : Int32) (9 : Int32) _ hc_4) [] rfl rfl (by intro q; cases q) cs_X6_141 rfl rfl hl (Nat.le_of_ble_eq_true rfl) ⟨Nat.le_of_ble_eq_true rfl, Nat.le_of_ble_eq_true rfl⟩ ⟨rfl, rfl⟩ ⟨Nat.le_of_ble_eq_true rfl, Nat.le_of_ble_eq_true rfl⟩ dX6_fog_4 rfl [none, none, none, none, none, none, none, none, none, none] rfl (ws' := cMW G q w) rfl (fun H locs hW => ?_)
  refine lv_istore_n (lv' := [(2, .int p_4), (0, .ref (q 0)), (1, .int x1)]) hx hb dX6_fog_7 rfl hl (by decide) rfl (fun ls hl => ?_)
  refine lv_iload_n hx hb dX6_fog_8 rfl (lv_at hl 0 rfl) ?_
  obtain ⟨ht_9, hf_9⟩ := of_ite h
  refine lv_if_eq (tgt := 18) hx hb dX6_fog_9 (by decide) (fun c_9 => ?_) (fun c_9 => ?_)
  · have h := ht_9 c_9
    refine lv_aload_n hx hb dX6_fog_18 rfl (lv_at hl 1 rfl) ?_
    refine x_get F hW 0 rfl fa_X6_9 rfl dX6_fog_19 ?_
    refine lv_iconst (v := (2 : Int32)) hx hb dX6_fog_22 (by decide) ?_
    obtain ⟨g_23, h⟩ := of_guard h
    refine x_iald F hW 1 rfl g_23 dX6_fog_23 ?_
    obtain ⟨x_24, e_x_24, h⟩ := of_nm h
    refine x_topi e_x_24 ?_
    refine lv_istore_n (lv' := [(3, .int x_24), (2, .int p_4), (0, .ref (q 0)), (1, .int x1)]) hx hb dX6_fog_24 rfl hl (by decide) rfl (fun ls hl => ?_)
    refine lv_aload_n hx hb dX6_fog_25 rfl (lv_at hl 2 rfl) ?_
    refine x_get F hW 0 rfl fa_X6_9 rfl dX6_fog_26 ?_
    refine lv_iconst (v := (2 : Int32)) hx hb dX6_fog_29 (by decide) ?_
    refine lv_iload_n hx hb dX6_fog_30 rfl (lv_at hl 3 rfl) ?_
    obtain ⟨g_31, h⟩ := of_guard h
    refine x_iast F hW 1 rfl g_31 (ws' := cMW G q ((upd w.1 (2 : Int32).toNatClampNeg x1), w.2.1, w.2.2.1, w.2.2.2.1, w.2.2.2.2.1, w.2.2.2.2.2.1, w.2.2.2.2.2.2.1, w.2.2.2.2.2.2.2.1, w.2.2.2.2.2.2.2.2.1, w.2.2.2.2.2.2.2.2.2.1, w.2.2.2.2.2.2.2.2.2.2.1, w.2.2.2.2.2.2.2.2.2.2.2.1, w.2.2.2.2.2.2.2.2.2.2.2.2.1, w.2.2.2.2.2.2.2.2.2.2.2.2.2)) rfl dX6_fog_31 (fun H locs hW => ?_)
    refine lv_iload_n hx hb dX6_fog_32 rfl (lv_at hl 0 rfl) ?_
    obtain rfl := Option.some.inj h
    exact x_reti F hr hW rfl dX6_fog_33
  · have h := hf_9 c_9
    refine lv_aload_n hx hb dX6_fog_12 rfl (lv_at hl 1 rfl) ?_
    refine lv_iload_n hx hb dX6_fog_13 rfl (lv_at hl 0 rfl) ?_
    obtain ⟨p_14, hc_14, h⟩ := of_bind h
    refine x_Vi (av := [.ref (q 0), .int p_4]) (As := [.int p_4]) F hW (c_X6_no l G q w p_4 _ hc_14) [0, 1, 2, 3, 4, 5, 6, 7, 8, 9] rfl rfl (by intro q; cases q) cv_X6_39 rfl ⟨_, rfl, rfl⟩ rfl rfl rfl hl (Nat.le_of_ble_eq_true rfl) ⟨Nat.le_of_ble_eq_true rfl, Nat.le_of_ble_eq_true rfl⟩ ⟨rfl, rfl⟩ ⟨Nat.le_of_ble_eq_true rfl, Nat.le_of_ble_eq_true rfl⟩ dX6_fog_14 rfl [some 0, some 1, some 2, some 3, some 4, some 5, some 6, some 7, some 8, some 9] rfl (ws' := cMW G q p_14.2) rfl (fun H locs hW => ?_)
    obtain rfl := Option.some.inj h
    exact x_reti F hr hW rfl dX6_fog_17
def f_X6_turn_33 (x1 : Int32) (x2 : Int32) (x3 : Int32) (t0_33 : Int32) (w_33 : MW) : Option (Int32 × MW) :=
  if t0_33 = 0 then
    Option.bind (f_X6_of x1 (0 : Int32)) fun p_55 =>
    if inR p_55 71 then
    Option.bind (f_X6_of x1 (1 : Int32)) fun p_66 =>
    if inR p_66 71 then
    nm (((10 : Int32) * (w_33.1 p_55.toNatClampNeg)) + (w_33.1 p_66.toNatClampNeg)) fun x_71 =>
    Option.bind (f_X6_of x1 (0 : Int32)) fun p_79 =>
    if inR p_79 71 then
    Option.bind (f_X6_of x1 (1 : Int32)) fun p_90 =>
    if inR p_90 71 then
    some (x_71, ((upd (upd w_33.1 p_79.toNatClampNeg x2) p_90.toNatClampNeg x3), w_33.2.1, w_33.2.2.1, w_33.2.2.2.1, w_33.2.2.2.2.1, w_33.2.2.2.2.2.1, w_33.2.2.2.2.2.2.1, w_33.2.2.2.2.2.2.2.1, w_33.2.2.2.2.2.2.2.2.1, w_33.2.2.2.2.2.2.2.2.2.1, w_33.2.2.2.2.2.2.2.2.2.2.1, w_33.2.2.2.2.2.2.2.2.2.2.2.1, w_33.2.2.2.2.2.2.2.2.2.2.2.2.1, w_33.2.2.2.2.2.2.2.2.2.2.2.2.2))
    else none
    else none
    else none
    else none
    else
    Option.bind (f_X6_no w_33 t0_33) fun p_43 =>
    some (p_43.1, p_43.2)
def f_X6_turn (w : MW) (x1 : Int32) (x2 : Int32) (x3 : Int32) : Option (Int32 × MW) :=
  Option.bind (f_X6_isHouse w x1) fun p_2 =>
    if p_2 = 0 then
    f_X6_turn_33 x1 x2 x3 (-1 : Int32) w
    else
    Option.bind (f_X6_isIn x2 (0 : Int32) (5 : Int32)) fun p_15 =>
    if p_15 = 0 then
    f_X6_turn_33 x1 x2 x3 (-2 : Int32) w
    else
    Option.bind (f_X6_wrongBy x3 (0 : Int32) (9 : Int32)) fun p_30 =>
    f_X6_turn_33 x1 x2 x3 p_30 w
abbrev rmX6_turn : Room := { frames := 2, cells := 0, slots := 0, locals := 43 }
set_option maxRecDepth 100000 in
set_option maxHeartbeats 4000000 in
theorem c_X6_turn (l : Launch) (G : EnT) (q : Nat → Nat) (w : MW) (x1 : Int32) (x2 : Int32) (x3 : Int32) (o : Int32 × MW) (h : f_X6_turn w x1 x2 x3 = some o) : Mi l yX6_turn rmX6_turn cX6_turn 6 (some .int) G false [.ref (q 0), .int x1, .int x2, .int x3] (cMW G q w) o.1 (cMW G q o.2) := by
  refine Mi_of (by decide) (Nat.le_of_ble_eq_true rfl) ?_
  intro p e s m below meth c A0 F hr hW ls hl
  obtain ⟨hx, hb, hml, hown, hts, hK, hNW, hlocks, hA, hSX⟩ := id F
  have hl : lv_has ls 6 [(0, .ref (q 0)), (1, .int x1), (2, .int x2), (3, .int x3)] := hl
  have hW : Wd G A0 s (cMW G q w) s.heap [] := hW
  show W p l e rmX6_turn s m ([.ref (q 0), .int x1, .int x2, .int x3] : List Value).toArray below meth c s.heap [] 0 0 (Qi below G (cMW G q o.2) o.1 A0 ([.ref (q 0), .int x1, .int x2, .int x3] : List Value).toArray s) (F0 m 0 ls [])
  have J0 : ∀ (t0_33 : Int32) (w_33 : MW) (H : Heap) (locs : List Loc) (ls : Array Slot), f_X6_turn_33 x1 x2 x3 t0_33 w_33 = some o → Wd G A0 s (cMW G q w_33) H locs → lv_has ls 6 [(0, .ref (q 0)), (1, .int x1), (2, .int x2), (3, .int x3)] → W p l e rmX6_turn s m ([.ref (q 0), .int x1, .int x2, .int x3] : List Value).toArray below meth c H locs 0 0 (Qi below G (cMW G q o.2) o.1 A0 ([.ref (q 0), .int x1, .int x2, .int x3] : List Value).toArray s) (F0 m 33 ls [.int t0_33]) := by
    intro t0_33 w_33 H locs ls h hW hl
    refine lv_istore (lv' := [(4, .int t0_33), (0, .ref (q 0)), (1, .int x1), (2, .int x2), (3, .int x3)]) hx hb dX6_turn_33 hl (by decide) rfl (fun ls hl => ?_)
    refine lv_iload hx hb dX6_turn_35 (lv_at hl 0 rfl) ?_
    obtain ⟨ht_37, hf_37⟩ := of_ite h
    refine lv_if_eq (tgt := 47) hx hb dX6_turn_37 (by decide) (fun c_37 => ?_) (fun c_37 => ?_)
    · have h := ht_37 c_37
      refine lv_bipush (v := (10 : Int32)) hx hb dX6_turn_47 (by decide) ?_
      refine lv_aload_n hx hb dX6_turn_49 rfl (lv_at hl 1 rfl) ?_
      refine x_get F hW 0 rfl fa_X6_9 rfl dX6_turn_50 ?_
      refine lv_iload_n hx hb dX6_turn_53 rfl (lv_at hl 2 rfl) ?_
      refine lv_iconst (v := (0 : Int32)) hx hb dX6_turn_54 (by decide) ?_
      obtain ⟨p_55, hc_55, h⟩ := of_bind h
      refine x_Si (av := [.int x1, .int (0 : Int32)]) F hW (c_X6_of l G x1 (0 : Int32) _ hc_55) [] rfl rfl (by intro q; cases q) cs_X6_47 rfl rfl hl (Nat.le_of_ble_eq_true rfl) ⟨Nat.le_of_ble_eq_true rfl, Nat.le_of_ble_eq_true rfl⟩ ⟨rfl, rfl⟩ ⟨Nat.le_of_ble_eq_true rfl, Nat.le_of_ble_eq_true rfl⟩ dX6_turn_55 rfl [none, none, none, none, none, none, none, none, none, none] rfl (ws' := cMW G q w_33) rfl (fun H locs hW => ?_)
      obtain ⟨g_58, h⟩ := of_guard h
      refine x_iald F hW 1 rfl g_58 dX6_turn_58 ?_
      refine lv_imul hx hb dX6_turn_59 ?_
      refine lv_aload_n hx hb dX6_turn_60 rfl (lv_at hl 1 rfl) ?_
      refine x_get F hW 0 rfl fa_X6_9 rfl dX6_turn_61 ?_
      refine lv_iload_n hx hb dX6_turn_64 rfl (lv_at hl 2 rfl) ?_
      refine lv_iconst (v := (1 : Int32)) hx hb dX6_turn_65 (by decide) ?_
      obtain ⟨p_66, hc_66, h⟩ := of_bind h
      refine x_Si (av := [.int x1, .int (1 : Int32)]) F hW (c_X6_of l G x1 (1 : Int32) _ hc_66) [] rfl rfl (by intro q; cases q) cs_X6_47 rfl rfl hl (Nat.le_of_ble_eq_true rfl) ⟨Nat.le_of_ble_eq_true rfl, Nat.le_of_ble_eq_true rfl⟩ ⟨rfl, rfl⟩ ⟨Nat.le_of_ble_eq_true rfl, Nat.le_of_ble_eq_true rfl⟩ dX6_turn_66 rfl [none, none, none, none, none, none, none, none, none, none] rfl (ws' := cMW G q w_33) rfl (fun H locs hW => ?_)
      obtain ⟨g_69, h⟩ := of_guard h
      refine x_iald F hW 1 rfl g_69 dX6_turn_69 ?_
      refine lv_iadd hx hb dX6_turn_70 ?_
      obtain ⟨x_71, e_x_71, h⟩ := of_nm h
      refine x_topi e_x_71 ?_
      refine lv_istore (lv' := [(5, .int x_71), (4, .int t0_33), (0, .ref (q 0)), (1, .int x1), (2, .int x2), (3, .int x3)]) hx hb dX6_turn_71 hl (by decide) rfl (fun ls hl => ?_)
      refine lv_aload_n hx hb dX6_turn_73 rfl (lv_at hl 2 rfl) ?_
      refine x_get F hW 0 rfl fa_X6_9 rfl dX6_turn_74 ?_
      refine lv_iload_n hx hb dX6_turn_77 rfl (lv_at hl 3 rfl) ?_
      refine lv_iconst (v := (0 : Int32)) hx hb dX6_turn_78 (by decide) ?_
      obtain ⟨p_79, hc_79, h⟩ := of_bind h
      refine x_Si (av := [.int x1, .int (0 : Int32)]) F hW (c_X6_of l G x1 (0 : Int32) _ hc_79) [] rfl rfl (by intro q; cases q) cs_X6_47 rfl rfl hl (Nat.le_of_ble_eq_true rfl) ⟨Nat.le_of_ble_eq_true rfl, Nat.le_of_ble_eq_true rfl⟩ ⟨rfl, rfl⟩ ⟨Nat.le_of_ble_eq_true rfl, Nat.le_of_ble_eq_true rfl⟩ dX6_turn_79 rfl [none, none, none, none, none, none, none, none, none, none] rfl (ws' := cMW G q w_33) rfl (fun H locs hW => ?_)
      refine lv_iload_n hx hb dX6_turn_82 rfl (lv_at hl 4 rfl) ?_
      obtain ⟨g_83, h⟩ := of_guard h
      refine x_iast F hW 1 rfl g_83 (ws' := cMW G q ((upd w_33.1 p_79.toNatClampNeg x2), w_33.2.1, w_33.2.2.1, w_33.2.2.2.1, w_33.2.2.2.2.1, w_33.2.2.2.2.2.1, w_33.2.2.2.2.2.2.1, w_33.2.2.2.2.2.2.2.1, w_33.2.2.2.2.2.2.2.2.1, w_33.2.2.2.2.2.2.2.2.2.1, w_33.2.2.2.2.2.2.2.2.2.2.1, w_33.2.2.2.2.2.2.2.2.2.2.2.1, w_33.2.2.2.2.2.2.2.2.2.2.2.2.1, w_33.2.2.2.2.2.2.2.2.2.2.2.2.2)) rfl dX6_turn_83 (fun H locs hW => ?_)
      refine lv_aload_n hx hb dX6_turn_84 rfl (lv_at hl 2 rfl) ?_
      refine x_get F hW 0 rfl fa_X6_9 rfl dX6_turn_85 ?_
      refine lv_iload_n hx hb dX6_turn_88 rfl (lv_at hl 3 rfl) ?_
      refine lv_iconst (v := (1 : Int32)) hx hb dX6_turn_89 (by decide) ?_
      obtain ⟨p_90, hc_90, h⟩ := of_bind h
      refine x_Si (av := [.int x1, .int (1 : Int32)]) F hW (c_X6_of l G x1 (1 : Int32) _ hc_90) [] rfl rfl (by intro q; cases q) cs_X6_47 rfl rfl hl (Nat.le_of_ble_eq_true rfl) ⟨Nat.le_of_ble_eq_true rfl, Nat.le_of_ble_eq_true rfl⟩ ⟨rfl, rfl⟩ ⟨Nat.le_of_ble_eq_true rfl, Nat.le_of_ble_eq_true rfl⟩ dX6_turn_90 rfl [none, none, none, none, none, none, none, none, none, none] rfl (ws' := cMW G q ((upd w_33.1 p_79.toNatClampNeg x2), w_33.2.1, w_33.2.2.1, w_33.2.2.2.1, w_33.2.2.2.2.1, w_33.2.2.2.2.2.1, w_33.2.2.2.2.2.2.1, w_33.2.2.2.2.2.2.2.1, w_33.2.2.2.2.2.2.2.2.1, w_33.2.2.2.2.2.2.2.2.2.1, w_33.2.2.2.2.2.2.2.2.2.2.1, w_33.2.2.2.2.2.2.2.2.2.2.2.1, w_33.2.2.2.2.2.2.2.2.2.2.2.2.1, w_33.2.2.2.2.2.2.2.2.2.2.2.2.2)) rfl (fun H locs hW => ?_)
      refine lv_iload_n hx hb dX6_turn_93 rfl (lv_at hl 5 rfl) ?_
      obtain ⟨g_94, h⟩ := of_guard h
      refine x_iast F hW 1 rfl g_94 (ws' := cMW G q ((upd (upd w_33.1 p_79.toNatClampNeg x2) p_90.toNatClampNeg x3), w_33.2.1, w_33.2.2.1, w_33.2.2.2.1, w_33.2.2.2.2.1, w_33.2.2.2.2.2.1, w_33.2.2.2.2.2.2.1, w_33.2.2.2.2.2.2.2.1, w_33.2.2.2.2.2.2.2.2.1, w_33.2.2.2.2.2.2.2.2.2.1, w_33.2.2.2.2.2.2.2.2.2.2.1, w_33.2.2.2.2.2.2.2.2.2.2.2.1, w_33.2.2.2.2.2.2.2.2.2.2.2.2.1, w_33.2.2.2.2.2.2.2.2.2.2.2.2.2)) rfl dX6_turn_94 (fun H locs hW => ?_)
      refine lv_iload hx hb dX6_turn_95 (lv_at hl 0 rfl) ?_
      obtain rfl := Option.some.inj h
      exact x_reti F hr hW rfl dX6_turn_97
    · have h := hf_37 c_37
      refine lv_aload_n hx hb dX6_turn_40 rfl (lv_at hl 1 rfl) ?_
      refine lv_iload hx hb dX6_turn_41 (lv_at hl 0 rfl) ?_
      obtain ⟨p_43, hc_43, h⟩ := of_bind h
      refine x_Vi (av := [.ref (q 0), .int t0_33]) (As := [.int t0_33]) F hW (c_X6_no l G q w_33 t0_33 _ hc_43) [0, 1, 2, 3, 4, 5, 6, 7, 8, 9] rfl rfl (by intro q; cases q) cv_X6_39 rfl ⟨_, rfl, rfl⟩ rfl rfl rfl hl (Nat.le_of_ble_eq_true rfl) ⟨Nat.le_of_ble_eq_true rfl, Nat.le_of_ble_eq_true rfl⟩ ⟨rfl, rfl⟩ ⟨Nat.le_of_ble_eq_true rfl, Nat.le_of_ble_eq_true rfl⟩ dX6_turn_43 rfl [some 0, some 1, some 2, some 3, some 4, some 5, some 6, some 7, some 8, some 9] rfl (ws' := cMW G q p_43.2) rfl (fun H locs hW => ?_)
      obtain rfl := Option.some.inj h
      exact x_reti F hr hW rfl dX6_turn_46
  refine lv_aload_n hx hb dX6_turn_0 rfl (lv_at hl 0 rfl) ?_
  refine lv_iload_n hx hb dX6_turn_1 rfl (lv_at hl 1 rfl) ?_
  obtain ⟨p_2, hc_2, h⟩ := of_bind h
  refine x_Vi (av := [.ref (q 0), .int x1]) (As := [.int x1]) F hW (c_X6_isHouse l G q w x1 _ hc_2) [0, 1, 2, 3, 4, 5, 6, 7, 8, 9] rfl rfl (by intro q; cases q) cv_X6_122 rfl ⟨_, rfl, rfl⟩ rfl rfl rfl hl (Nat.le_of_ble_eq_true rfl) ⟨Nat.le_of_ble_eq_true rfl, Nat.le_of_ble_eq_true rfl⟩ ⟨rfl, rfl⟩ ⟨Nat.le_of_ble_eq_true rfl, Nat.le_of_ble_eq_true rfl⟩ dX6_turn_2 rfl [some 0, some 1, some 2, some 3, some 4, some 5, some 6, some 7, some 8, some 9] rfl (ws' := cMW G q w) rfl (fun H locs hW => ?_)
  obtain ⟨ht_5, hf_5⟩ := of_ite h
  refine lv_if_ne (tgt := 12) hx hb dX6_turn_5 (by decide) (fun c_5 => ?_) (fun c_5 => ?_)
  · have h := hf_5 c_5
    refine lv_iload_n hx hb dX6_turn_12 rfl (lv_at hl 2 rfl) ?_
    refine lv_iconst (v := (0 : Int32)) hx hb dX6_turn_13 (by decide) ?_
    refine lv_iconst (v := (5 : Int32)) hx hb dX6_turn_14 (by decide) ?_
    obtain ⟨p_15, hc_15, h⟩ := of_bind h
    refine x_Si (av := [.int x2, .int (0 : Int32), .int (5 : Int32)]) F hW (c_X6_isIn l G x2 (0 : Int32) (5 : Int32) _ hc_15) [] rfl rfl (by intro q; cases q) cs_X6_43 rfl rfl hl (Nat.le_of_ble_eq_true rfl) ⟨Nat.le_of_ble_eq_true rfl, Nat.le_of_ble_eq_true rfl⟩ ⟨rfl, rfl⟩ ⟨Nat.le_of_ble_eq_true rfl, Nat.le_of_ble_eq_true rfl⟩ dX6_turn_15 rfl [none, none, none, none, none, none, none, none, none, none] rfl (ws' := cMW G q w) rfl (fun H locs hW => ?_)
    obtain ⟨ht_18, hf_18⟩ := of_ite h
    refine lv_if_ne (tgt := 26) hx hb dX6_turn_18 (by decide) (fun c_18 => ?_) (fun c_18 => ?_)
    · have h := hf_18 c_18
      refine lv_iload_n hx hb dX6_turn_26 rfl (lv_at hl 3 rfl) ?_
      refine lv_iconst (v := (0 : Int32)) hx hb dX6_turn_27 (by decide) ?_
      refine lv_bipush (v := (9 : Int32)) hx hb dX6_turn_28 (by decide) ?_
      obtain ⟨p_30, hc_30, h⟩ := of_bind h
      refine x_Si (av := [.int x3, .int (0 : Int32), .int (9 : Int32)]) F hW (c_X6_wrongBy l G x3 (0 : Int32) (9 : Int32) _ hc_30) [] rfl rfl (by intro q; cases q) cs_X6_141 rfl rfl hl (Nat.le_of_ble_eq_true rfl) ⟨Nat.le_of_ble_eq_true rfl, Nat.le_of_ble_eq_true rfl⟩ ⟨rfl, rfl⟩ ⟨Nat.le_of_ble_eq_true rfl, Nat.le_of_ble_eq_true rfl⟩ dX6_turn_30 rfl [none, none, none, none, none, none, none, none, none, none] rfl (ws' := cMW G q w) rfl (fun H locs hW => ?_)
      exact J0 p_30 w _ _ _ h hW (lv_sub hl [0, 1, 2, 3] rfl)
    · have h := ht_18 c_18
      refine lv_bipush (v := (-2 : Int32)) hx hb dX6_turn_21 (by decide) ?_
      refine lv_goto (tgt := 33) hx hb dX6_turn_23 (by decide) ?_
      exact J0 (-2 : Int32) w _ _ _ h hW (lv_sub hl [0, 1, 2, 3] rfl)
  · have h := ht_5 c_5
    refine lv_iconst (v := (-1 : Int32)) hx hb dX6_turn_8 (by decide) ?_
    refine lv_goto (tgt := 33) hx hb dX6_turn_9 (by decide) ?_
    exact J0 (-1 : Int32) w _ _ _ h hW (lv_sub hl [0, 1, 2, 3] rfl)
def f_X6_nights (w : MW) (x1 : Int32) : Option (Int32 × MW) :=
  if (1 : Int32) ≤ x1 then
    if (60 : Int32) < x1 then
    Option.bind (f_X6_no w (-6 : Int32)) fun p_35 =>
    some (p_35.1, p_35.2)
    else
    if inR (1 : Int32) 71 then
    if ((w.1 (1 : Int32).toNatClampNeg) + x1) ≤ (999 : Int32) then
    Option.bind (f_X6_nightsOn w.1 x1) fun p_44 =>
    nm p_44.1 fun x_47 =>
    Option.bind (f_X6_hangIn p_44.2) fun p_52 =>
    Option.bind (f_X6_bits p_52) fun p_55 =>
    some (p_55, (p_44.2, w.2.1, w.2.2.1, w.2.2.2.1, w.2.2.2.2.1, w.2.2.2.2.2.1, w.2.2.2.2.2.2.1, w.2.2.2.2.2.2.2.1, w.2.2.2.2.2.2.2.2.1, w.2.2.2.2.2.2.2.2.2.1, w.2.2.2.2.2.2.2.2.2.2.1, w.2.2.2.2.2.2.2.2.2.2.2.1, w.2.2.2.2.2.2.2.2.2.2.2.2.1, w.2.2.2.2.2.2.2.2.2.2.2.2.2))
    else
    Option.bind (f_X6_no w (-6 : Int32)) fun p_35_2 =>
    some (p_35_2.1, p_35_2.2)
    else none
    else
    Option.bind (f_X6_no w (-4 : Int32)) fun p_8 =>
    some (p_8.1, p_8.2)
abbrev rmX6_nights : Room := { frames := 5, cells := 0, slots := 0, locals := 115 }
set_option maxRecDepth 100000 in
set_option maxHeartbeats 4000000 in
theorem c_X6_nights (l : Launch) (G : EnT) (q : Nat → Nat) (w : MW) (x1 : Int32) (o : Int32 × MW) (h : f_X6_nights w x1 = some o) : Mi l yX6_nights rmX6_nights cX6_nights 3 (some .int) G false [.ref (q 0), .int x1] (cMW G q w) o.1 (cMW G q o.2) := by
  refine Mi_of (by decide) (Nat.le_of_ble_eq_true rfl) ?_
  intro p e s m below meth c A0 F hr hW ls hl
  obtain ⟨hx, hb, hml, hown, hts, hK, hNW, hlocks, hA, hSX⟩ := id F
  have hl : lv_has ls 3 [(0, .ref (q 0)), (1, .int x1)] := hl
  have hW : Wd G A0 s (cMW G q w) s.heap [] := hW
  show W p l e rmX6_nights s m ([.ref (q 0), .int x1] : List Value).toArray below meth c s.heap [] 0 0 (Qi below G (cMW G q o.2) o.1 A0 ([.ref (q 0), .int x1] : List Value).toArray s) (F0 m 0 ls [])
  refine lv_iload_n hx hb dX6_nights_0 rfl (lv_at hl 1 rfl) ?_
  refine lv_iconst (v := (1 : Int32)) hx hb dX6_nights_1 (by decide) ?_
  obtain ⟨ht_2, hf_2⟩ := of_ite h
  refine lv_icmp_ge (tgt := 12) hx hb dX6_nights_2 (by decide) (fun c_2 => ?_) (fun c_2 => ?_)
  · have h := ht_2 c_2
    refine lv_iload_n hx hb dX6_nights_12 rfl (lv_at hl 1 rfl) ?_
    refine lv_bipush (v := (60 : Int32)) hx hb dX6_nights_13 (by decide) ?_
    obtain ⟨ht_15, hf_15⟩ := of_ite h
    refine lv_icmp_gt (tgt := 32) hx hb dX6_nights_15 (by decide) (fun c_15 => ?_) (fun c_15 => ?_)
    · have h := ht_15 c_15
      refine lv_aload_n hx hb dX6_nights_32 rfl (lv_at hl 0 rfl) ?_
      refine lv_bipush (v := (-6 : Int32)) hx hb dX6_nights_33 (by decide) ?_
      obtain ⟨p_35, hc_35, h⟩ := of_bind h
      refine x_Vi (av := [.ref (q 0), .int (-6 : Int32)]) (As := [.int (-6 : Int32)]) F hW (c_X6_no l G q w (-6 : Int32) _ hc_35) [0, 1, 2, 3, 4, 5, 6, 7, 8, 9] rfl rfl (by intro q; cases q) cv_X6_39 rfl ⟨_, rfl, rfl⟩ rfl rfl rfl hl (Nat.le_of_ble_eq_true rfl) ⟨Nat.le_of_ble_eq_true rfl, Nat.le_of_ble_eq_true rfl⟩ ⟨rfl, rfl⟩ ⟨Nat.le_of_ble_eq_true rfl, Nat.le_of_ble_eq_true rfl⟩ dX6_nights_35 rfl [some 0, some 1, some 2, some 3, some 4, some 5, some 6, some 7, some 8, some 9] rfl (ws' := cMW G q p_35.2) rfl (fun H locs hW => ?_)
      obtain rfl := Option.some.inj h
      exact x_reti F hr hW rfl dX6_nights_38
    · have h := hf_15 c_15
      refine lv_aload_n hx hb dX6_nights_18 rfl (lv_at hl 0 rfl) ?_
      refine x_get F hW 0 rfl fa_X6_9 rfl dX6_nights_19 ?_
      refine lv_iconst (v := (1 : Int32)) hx hb dX6_nights_22 (by decide) ?_
      obtain ⟨g_23, h⟩ := of_guard h
      refine x_iald F hW 1 rfl g_23 dX6_nights_23 ?_
      refine lv_iload_n hx hb dX6_nights_24 rfl (lv_at hl 1 rfl) ?_
      refine lv_iadd hx hb dX6_nights_25 ?_
      refine lv_sipush (v := (999 : Int32)) hx hb dX6_nights_26 (by decide) ?_
      obtain ⟨ht_29, hf_29⟩ := of_ite h
      refine lv_icmp_le (tgt := 39) hx hb dX6_nights_29 (by decide) (fun c_29 => ?_) (fun c_29 => ?_)
      · have h := ht_29 c_29
        refine lv_aload_n hx hb dX6_nights_39 rfl (lv_at hl 0 rfl) ?_
        refine x_get F hW 0 rfl fa_X6_9 rfl dX6_nights_40 ?_
        refine lv_iload_n hx hb dX6_nights_43 rfl (lv_at hl 1 rfl) ?_
        obtain ⟨p_44, hc_44, h⟩ := of_bind h
        refine x_Si (av := [.ref (q 1), .int x1]) F hW (c_X6_nightsOn l G (fun i => q (i + 1)) w.1 x1 _ hc_44) [1] rfl rfl (by intro q; cases q) cs_X6_128 rfl rfl hl (Nat.le_of_ble_eq_true rfl) ⟨Nat.le_of_ble_eq_true rfl, Nat.le_of_ble_eq_true rfl⟩ ⟨rfl, rfl⟩ ⟨Nat.le_of_ble_eq_true rfl, Nat.le_of_ble_eq_true rfl⟩ dX6_nights_44 rfl [none, some 0, none, none, none, none, none, none, none, none] rfl (ws' := cMW G q (p_44.2, w.2.1, w.2.2.1, w.2.2.2.1, w.2.2.2.2.1, w.2.2.2.2.2.1, w.2.2.2.2.2.2.1, w.2.2.2.2.2.2.2.1, w.2.2.2.2.2.2.2.2.1, w.2.2.2.2.2.2.2.2.2.1, w.2.2.2.2.2.2.2.2.2.2.1, w.2.2.2.2.2.2.2.2.2.2.2.1, w.2.2.2.2.2.2.2.2.2.2.2.2.1, w.2.2.2.2.2.2.2.2.2.2.2.2.2)) rfl (fun H locs hW => ?_)
        obtain ⟨x_47, e_x_47, h⟩ := of_nm h
        refine x_topi e_x_47 ?_
        refine lv_istore_n (lv' := [(2, .int x_47), (0, .ref (q 0)), (1, .int x1)]) hx hb dX6_nights_47 rfl hl (by decide) rfl (fun ls hl => ?_)
        refine lv_aload_n hx hb dX6_nights_48 rfl (lv_at hl 1 rfl) ?_
        refine x_get F hW 0 rfl fa_X6_9 rfl dX6_nights_49 ?_
        obtain ⟨p_52, hc_52, h⟩ := of_bind h
        refine x_Si (av := [.ref (q 1)]) F hW (c_X6_hangIn l G (fun i => q (i + 1)) p_44.2 _ hc_52) [1] rfl rfl (by intro q; cases q) cs_X6_145 rfl rfl hl (Nat.le_of_ble_eq_true rfl) ⟨Nat.le_of_ble_eq_true rfl, Nat.le_of_ble_eq_true rfl⟩ ⟨rfl, rfl⟩ ⟨Nat.le_of_ble_eq_true rfl, Nat.le_of_ble_eq_true rfl⟩ dX6_nights_52 rfl [none, some 0, none, none, none, none, none, none, none, none] rfl (ws' := cMW G q (p_44.2, w.2.1, w.2.2.1, w.2.2.2.1, w.2.2.2.2.1, w.2.2.2.2.2.1, w.2.2.2.2.2.2.1, w.2.2.2.2.2.2.2.1, w.2.2.2.2.2.2.2.2.1, w.2.2.2.2.2.2.2.2.2.1, w.2.2.2.2.2.2.2.2.2.2.1, w.2.2.2.2.2.2.2.2.2.2.2.1, w.2.2.2.2.2.2.2.2.2.2.2.2.1, w.2.2.2.2.2.2.2.2.2.2.2.2.2)) rfl (fun H locs hW => ?_)
        obtain ⟨p_55, hc_55, h⟩ := of_bind h
        refine x_Si (av := [.int p_52]) F hW (c_X6_bits l G p_52 _ hc_55) [] rfl rfl (by intro q; cases q) cs_X6_148 rfl rfl hl (Nat.le_of_ble_eq_true rfl) ⟨Nat.le_of_ble_eq_true rfl, Nat.le_of_ble_eq_true rfl⟩ ⟨rfl, rfl⟩ ⟨Nat.le_of_ble_eq_true rfl, Nat.le_of_ble_eq_true rfl⟩ dX6_nights_55 rfl [none, none, none, none, none, none, none, none, none, none] rfl (ws' := cMW G q (p_44.2, w.2.1, w.2.2.1, w.2.2.2.1, w.2.2.2.2.1, w.2.2.2.2.2.1, w.2.2.2.2.2.2.1, w.2.2.2.2.2.2.2.1, w.2.2.2.2.2.2.2.2.1, w.2.2.2.2.2.2.2.2.2.1, w.2.2.2.2.2.2.2.2.2.2.1, w.2.2.2.2.2.2.2.2.2.2.2.1, w.2.2.2.2.2.2.2.2.2.2.2.2.1, w.2.2.2.2.2.2.2.2.2.2.2.2.2)) rfl (fun H locs hW => ?_)
        obtain rfl := Option.some.inj h
        exact x_reti F hr hW rfl dX6_nights_58
      · have h := hf_29 c_29
        refine lv_aload_n hx hb dX6_nights_32 rfl (lv_at hl 0 rfl) ?_
        refine lv_bipush (v := (-6 : Int32)) hx hb dX6_nights_33 (by decide) ?_
        obtain ⟨p_35_2, hc_35, h⟩ := of_bind h
        refine x_Vi (av := [.ref (q 0), .int (-6 : Int32)]) (As := [.int (-6 : Int32)]) F hW (c_X6_no l G q w (-6 : Int32) _ hc_35) [0, 1, 2, 3, 4, 5, 6, 7, 8, 9] rfl rfl (by intro q; cases q) cv_X6_39 rfl ⟨_, rfl, rfl⟩ rfl rfl rfl hl (Nat.le_of_ble_eq_true rfl) ⟨Nat.le_of_ble_eq_true rfl, Nat.le_of_ble_eq_true rfl⟩ ⟨rfl, rfl⟩ ⟨Nat.le_of_ble_eq_true rfl, Nat.le_of_ble_eq_true rfl⟩ dX6_nights_35 rfl [some 0, some 1, some 2, some 3, some 4, some 5, some 6, some 7, some 8, some 9] rfl (ws' := cMW G q p_35_2.2) rfl (fun H locs hW => ?_)
        obtain rfl := Option.some.inj h
        exact x_reti F hr hW rfl dX6_nights_38
  · have h := hf_2 c_2
    refine lv_aload_n hx hb dX6_nights_5 rfl (lv_at hl 0 rfl) ?_
    refine lv_bipush (v := (-4 : Int32)) hx hb dX6_nights_6 (by decide) ?_
    obtain ⟨p_8, hc_8, h⟩ := of_bind h
    refine x_Vi (av := [.ref (q 0), .int (-4 : Int32)]) (As := [.int (-4 : Int32)]) F hW (c_X6_no l G q w (-4 : Int32) _ hc_8) [0, 1, 2, 3, 4, 5, 6, 7, 8, 9] rfl rfl (by intro q; cases q) cv_X6_39 rfl ⟨_, rfl, rfl⟩ rfl rfl rfl hl (Nat.le_of_ble_eq_true rfl) ⟨Nat.le_of_ble_eq_true rfl, Nat.le_of_ble_eq_true rfl⟩ ⟨rfl, rfl⟩ ⟨Nat.le_of_ble_eq_true rfl, Nat.le_of_ble_eq_true rfl⟩ dX6_nights_8 rfl [some 0, some 1, some 2, some 3, some 4, some 5, some 6, some 7, some 8, some 9] rfl (ws' := cMW G q p_8.2) rfl (fun H locs hW => ?_)
    obtain rfl := Option.some.inj h
    exact x_reti F hr hW rfl dX6_nights_11
def f_X6_takes (w : MW) (x1 : Int32) : Option (Int32 × MW) :=
  Option.bind (f_X6_copies w.1 w.2.1) fun p_8 =>
    Option.bind (f_X6_nightsOn p_8 x1) fun p_16 =>
    some (p_16.1, (w.1, p_16.2, w.2.2.1, w.2.2.2.1, w.2.2.2.2.1, w.2.2.2.2.2.1, w.2.2.2.2.2.2.1, w.2.2.2.2.2.2.2.1, w.2.2.2.2.2.2.2.2.1, w.2.2.2.2.2.2.2.2.2.1, w.2.2.2.2.2.2.2.2.2.2.1, w.2.2.2.2.2.2.2.2.2.2.2.1, w.2.2.2.2.2.2.2.2.2.2.2.2.1, w.2.2.2.2.2.2.2.2.2.2.2.2.2))
abbrev rmX6_takes : Room := { frames := 5, cells := 0, slots := 0, locals := 114 }
set_option maxRecDepth 100000 in
set_option maxHeartbeats 4000000 in
theorem c_X6_takes (l : Launch) (G : EnT) (q : Nat → Nat) (w : MW) (x1 : Int32) (o : Int32 × MW) (h : f_X6_takes w x1 = some o) : Mi l yX6_takes rmX6_takes cX6_takes 2 (some .int) G false [.ref (q 0), .int x1] (cMW G q w) o.1 (cMW G q o.2) := by
  refine Mi_of (by decide) (Nat.le_of_ble_eq_true rfl) ?_
  intro p e s m below meth c A0 F hr hW ls hl
  obtain ⟨hx, hb, hml, hown, hts, hK, hNW, hlocks, hA, hSX⟩ := id F
  have hl : lv_has ls 2 [(0, .ref (q 0)), (1, .int x1)] := hl
  have hW : Wd G A0 s (cMW G q w) s.heap [] := hW
  show W p l e rmX6_takes s m ([.ref (q 0), .int x1] : List Value).toArray below meth c s.heap [] 0 0 (Qi below G (cMW G q o.2) o.1 A0 ([.ref (q 0), .int x1] : List Value).toArray s) (F0 m 0 ls [])
  refine lv_aload_n hx hb dX6_takes_0 rfl (lv_at hl 0 rfl) ?_
  refine x_get F hW 0 rfl fa_X6_9 rfl dX6_takes_1 ?_
  refine lv_aload_n hx hb dX6_takes_4 rfl (lv_at hl 0 rfl) ?_
  refine x_get F hW 0 rfl fa_X6_13 rfl dX6_takes_5 ?_
  obtain ⟨p_8, hc_8, h⟩ := of_bind h
  refine x_Sv (av := [.ref (q 1), .ref (q 2)]) F hW (c_X6_copies l G (fun i => q (i + 1)) w.1 (fun i => q (i + 2)) w.2.1 _ hc_8) [1, 2] rfl rfl (by intro q; cases q) cs_X6_134 rfl rfl hl (Nat.le_of_ble_eq_true rfl) ⟨Nat.le_of_ble_eq_true rfl, Nat.le_of_ble_eq_true rfl⟩ ⟨rfl, rfl⟩ ⟨Nat.le_of_ble_eq_true rfl, Nat.le_of_ble_eq_true rfl⟩ dX6_takes_8 rfl [none, some 0, some 1, none, none, none, none, none, none, none] rfl (ws' := cMW G q (w.1, p_8, w.2.2.1, w.2.2.2.1, w.2.2.2.2.1, w.2.2.2.2.2.1, w.2.2.2.2.2.2.1, w.2.2.2.2.2.2.2.1, w.2.2.2.2.2.2.2.2.1, w.2.2.2.2.2.2.2.2.2.1, w.2.2.2.2.2.2.2.2.2.2.1, w.2.2.2.2.2.2.2.2.2.2.2.1, w.2.2.2.2.2.2.2.2.2.2.2.2.1, w.2.2.2.2.2.2.2.2.2.2.2.2.2)) rfl (fun H locs hW => ?_)
  refine lv_aload_n hx hb dX6_takes_11 rfl (lv_at hl 0 rfl) ?_
  refine x_get F hW 0 rfl fa_X6_13 rfl dX6_takes_12 ?_
  refine lv_iload_n hx hb dX6_takes_15 rfl (lv_at hl 1 rfl) ?_
  obtain ⟨p_16, hc_16, h⟩ := of_bind h
  refine x_Si (av := [.ref (q 2), .int x1]) F hW (c_X6_nightsOn l G (fun i => q (i + 2)) p_8 x1 _ hc_16) [2] rfl rfl (by intro q; cases q) cs_X6_128 rfl rfl hl (Nat.le_of_ble_eq_true rfl) ⟨Nat.le_of_ble_eq_true rfl, Nat.le_of_ble_eq_true rfl⟩ ⟨rfl, rfl⟩ ⟨Nat.le_of_ble_eq_true rfl, Nat.le_of_ble_eq_true rfl⟩ dX6_takes_16 rfl [none, none, some 0, none, none, none, none, none, none, none] rfl (ws' := cMW G q (w.1, p_16.2, w.2.2.1, w.2.2.2.1, w.2.2.2.2.1, w.2.2.2.2.2.1, w.2.2.2.2.2.2.1, w.2.2.2.2.2.2.2.1, w.2.2.2.2.2.2.2.2.1, w.2.2.2.2.2.2.2.2.2.1, w.2.2.2.2.2.2.2.2.2.2.1, w.2.2.2.2.2.2.2.2.2.2.2.1, w.2.2.2.2.2.2.2.2.2.2.2.2.1, w.2.2.2.2.2.2.2.2.2.2.2.2.2)) rfl (fun H locs hW => ?_)
  obtain rfl := Option.some.inj h
  exact x_reti F hr hW rfl dX6_takes_19
def f_X6_litThen (w : MW) (x1 : Int32) : Option (Int32 × MW) :=
  Option.bind (f_X6_wrongBy x1 (0 : Int32) (60 : Int32)) fun p_4 =>
    if p_4 = 0 then
    Option.bind (f_X6_takes w x1) fun p_20 =>
    nm p_20.1 fun x_23 =>
    Option.bind (f_X6_litIn p_20.2.2.1) fun p_28 =>
    some (p_28, p_20.2)
    else
    Option.bind (f_X6_no w p_4) fun p_14 =>
    some (p_14.1, p_14.2)
abbrev rmX6_litThen : Room := { frames := 6, cells := 0, slots := 0, locals := 135 }
set_option maxRecDepth 100000 in
set_option maxHeartbeats 4000000 in
theorem c_X6_litThen (l : Launch) (G : EnT) (q : Nat → Nat) (w : MW) (x1 : Int32) (o : Int32 × MW) (h : f_X6_litThen w x1 = some o) : Mi l yX6_litThen rmX6_litThen cX6_litThen 4 (some .int) G false [.ref (q 0), .int x1] (cMW G q w) o.1 (cMW G q o.2) := by
  refine Mi_of (by decide) (Nat.le_of_ble_eq_true rfl) ?_
  intro p e s m below meth c A0 F hr hW ls hl
  obtain ⟨hx, hb, hml, hown, hts, hK, hNW, hlocks, hA, hSX⟩ := id F
  have hl : lv_has ls 4 [(0, .ref (q 0)), (1, .int x1)] := hl
  have hW : Wd G A0 s (cMW G q w) s.heap [] := hW
  show W p l e rmX6_litThen s m ([.ref (q 0), .int x1] : List Value).toArray below meth c s.heap [] 0 0 (Qi below G (cMW G q o.2) o.1 A0 ([.ref (q 0), .int x1] : List Value).toArray s) (F0 m 0 ls [])
  refine lv_iload_n hx hb dX6_litThen_0 rfl (lv_at hl 1 rfl) ?_
  refine lv_iconst (v := (0 : Int32)) hx hb dX6_litThen_1 (by decide) ?_
  refine lv_bipush (v := (60 : Int32)) hx hb dX6_litThen_2 (by decide) ?_
  obtain ⟨p_4, hc_4, h⟩ := of_bind h
  refine x_Si (av := [.int x1, .int (0 : Int32), .int (60 : Int32)]) F hW (c_X6_wrongBy l G x1 (0 : Int32) (60 : Int32) _ hc_4) [] rfl rfl (by intro q; cases q) cs_X6_141 rfl rfl hl (Nat.le_of_ble_eq_true rfl) ⟨Nat.le_of_ble_eq_true rfl, Nat.le_of_ble_eq_true rfl⟩ ⟨rfl, rfl⟩ ⟨Nat.le_of_ble_eq_true rfl, Nat.le_of_ble_eq_true rfl⟩ dX6_litThen_4 rfl [none, none, none, none, none, none, none, none, none, none] rfl (ws' := cMW G q w) rfl (fun H locs hW => ?_)
  refine lv_istore_n (lv' := [(2, .int p_4), (0, .ref (q 0)), (1, .int x1)]) hx hb dX6_litThen_7 rfl hl (by decide) rfl (fun ls hl => ?_)
  refine lv_iload_n hx hb dX6_litThen_8 rfl (lv_at hl 0 rfl) ?_
  obtain ⟨ht_9, hf_9⟩ := of_ite h
  refine lv_if_eq (tgt := 18) hx hb dX6_litThen_9 (by decide) (fun c_9 => ?_) (fun c_9 => ?_)
  · have h := ht_9 c_9
    refine lv_aload_n hx hb dX6_litThen_18 rfl (lv_at hl 1 rfl) ?_
    refine lv_iload_n hx hb dX6_litThen_19 rfl (lv_at hl 2 rfl) ?_
    obtain ⟨p_20, hc_20, h⟩ := of_bind h
    refine x_Vi (av := [.ref (q 0), .int x1]) (As := [.int x1]) F hW (c_X6_takes l G q w x1 _ hc_20) [0, 1, 2, 3, 4, 5, 6, 7, 8, 9] rfl rfl (by intro q; cases q) cv_X6_151 rfl ⟨_, rfl, rfl⟩ rfl rfl rfl hl (Nat.le_of_ble_eq_true rfl) ⟨Nat.le_of_ble_eq_true rfl, Nat.le_of_ble_eq_true rfl⟩ ⟨rfl, rfl⟩ ⟨Nat.le_of_ble_eq_true rfl, Nat.le_of_ble_eq_true rfl⟩ dX6_litThen_20 rfl [some 0, some 1, some 2, some 3, some 4, some 5, some 6, some 7, some 8, some 9] rfl (ws' := cMW G q p_20.2) rfl (fun H locs hW => ?_)
    obtain ⟨x_23, e_x_23, h⟩ := of_nm h
    refine x_topi e_x_23 ?_
    refine lv_istore_n (lv' := [(3, .int x_23), (2, .int p_4), (0, .ref (q 0)), (1, .int x1)]) hx hb dX6_litThen_23 rfl hl (by decide) rfl (fun ls hl => ?_)
    refine lv_aload_n hx hb dX6_litThen_24 rfl (lv_at hl 2 rfl) ?_
    refine x_get F hW 0 rfl fa_X6_13 rfl dX6_litThen_25 ?_
    obtain ⟨p_28, hc_28, h⟩ := of_bind h
    refine x_Si (av := [.ref (q 2)]) F hW (c_X6_litIn l G (fun i => q (i + 2)) p_20.2.2.1 _ hc_28) [2] rfl rfl (by intro q; cases q) cs_X6_83 rfl rfl hl (Nat.le_of_ble_eq_true rfl) ⟨Nat.le_of_ble_eq_true rfl, Nat.le_of_ble_eq_true rfl⟩ ⟨rfl, rfl⟩ ⟨Nat.le_of_ble_eq_true rfl, Nat.le_of_ble_eq_true rfl⟩ dX6_litThen_28 rfl [none, none, some 0, none, none, none, none, none, none, none] rfl (ws' := cMW G q p_20.2) rfl (fun H locs hW => ?_)
    obtain rfl := Option.some.inj h
    exact x_reti F hr hW rfl dX6_litThen_31
  · have h := hf_9 c_9
    refine lv_aload_n hx hb dX6_litThen_12 rfl (lv_at hl 1 rfl) ?_
    refine lv_iload_n hx hb dX6_litThen_13 rfl (lv_at hl 0 rfl) ?_
    obtain ⟨p_14, hc_14, h⟩ := of_bind h
    refine x_Vi (av := [.ref (q 0), .int p_4]) (As := [.int p_4]) F hW (c_X6_no l G q w p_4 _ hc_14) [0, 1, 2, 3, 4, 5, 6, 7, 8, 9] rfl rfl (by intro q; cases q) cv_X6_39 rfl ⟨_, rfl, rfl⟩ rfl rfl rfl hl (Nat.le_of_ble_eq_true rfl) ⟨Nat.le_of_ble_eq_true rfl, Nat.le_of_ble_eq_true rfl⟩ ⟨rfl, rfl⟩ ⟨Nat.le_of_ble_eq_true rfl, Nat.le_of_ble_eq_true rfl⟩ dX6_litThen_14 rfl [some 0, some 1, some 2, some 3, some 4, some 5, some 6, some 7, some 8, some 9] rfl (ws' := cMW G q p_14.2) rfl (fun H locs hW => ?_)
    obtain rfl := Option.some.inj h
    exact x_reti F hr hW rfl dX6_litThen_17
def f_X6_hangThen (w : MW) (x1 : Int32) : Option (Int32 × MW) :=
  Option.bind (f_X6_wrongBy x1 (0 : Int32) (60 : Int32)) fun p_4 =>
    if p_4 = 0 then
    Option.bind (f_X6_takes w x1) fun p_20 =>
    nm p_20.1 fun x_23 =>
    Option.bind (f_X6_hangIn p_20.2.2.1) fun p_28 =>
    some (p_28, p_20.2)
    else
    Option.bind (f_X6_no w p_4) fun p_14 =>
    some (p_14.1, p_14.2)
abbrev rmX6_hangThen : Room := { frames := 6, cells := 0, slots := 0, locals := 135 }
set_option maxRecDepth 100000 in
set_option maxHeartbeats 4000000 in
theorem c_X6_hangThen (l : Launch) (G : EnT) (q : Nat → Nat) (w : MW) (x1 : Int32) (o : Int32 × MW) (h : f_X6_hangThen w x1 = some o) : Mi l yX6_hangThen rmX6_hangThen cX6_hangThen 4 (some .int) G false [.ref (q 0), .int x1] (cMW G q w) o.1 (cMW G q o.2) := by
  refine Mi_of (by decide) (Nat.le_of_ble_eq_true rfl) ?_
  intro p e s m below meth c A0 F hr hW ls hl
  obtain ⟨hx, hb, hml, hown, hts, hK, hNW, hlocks, hA, hSX⟩ := id F
  have hl : lv_has ls 4 [(0, .ref (q 0)), (1, .int x1)] := hl
  have hW : Wd G A0 s (cMW G q w) s.heap [] := hW
  show W p l e rmX6_hangThen s m ([.ref (q 0), .int x1] : List Value).toArray below meth c s.heap [] 0 0 (Qi below G (cMW G q o.2) o.1 A0 ([.ref (q 0), .int x1] : List Value).toArray s) (F0 m 0 ls [])
  refine lv_iload_n hx hb dX6_hangThen_0 rfl (lv_at hl 1 rfl) ?_
  refine lv_iconst (v := (0 : Int32)) hx hb dX6_hangThen_1 (by decide) ?_
  refine lv_bipush (v := (60 : Int32)) hx hb dX6_hangThen_2 (by decide) ?_
  obtain ⟨p_4, hc_4, h⟩ := of_bind h
  refine x_Si (av := [.int x1, .int (0 : Int32), .int (60 : Int32)]) F hW (c_X6_wrongBy l G x1 (0 : Int32) (60 : Int32) _ hc_4) [] rfl rfl (by intro q; cases q) cs_X6_141 rfl rfl hl (Nat.le_of_ble_eq_true rfl) ⟨Nat.le_of_ble_eq_true rfl, Nat.le_of_ble_eq_true rfl⟩ ⟨rfl, rfl⟩ ⟨Nat.le_of_ble_eq_true rfl, Nat.le_of_ble_eq_true rfl⟩ dX6_hangThen_4 rfl [none, none, none, none, none, none, none, none, none, none] rfl (ws' := cMW G q w) rfl (fun H locs hW => ?_)
  refine lv_istore_n (lv' := [(2, .int p_4), (0, .ref (q 0)), (1, .int x1)]) hx hb dX6_hangThen_7 rfl hl (by decide) rfl (fun ls hl => ?_)
  refine lv_iload_n hx hb dX6_hangThen_8 rfl (lv_at hl 0 rfl) ?_
  obtain ⟨ht_9, hf_9⟩ := of_ite h
  refine lv_if_eq (tgt := 18) hx hb dX6_hangThen_9 (by decide) (fun c_9 => ?_) (fun c_9 => ?_)
  · have h := ht_9 c_9
    refine lv_aload_n hx hb dX6_hangThen_18 rfl (lv_at hl 1 rfl) ?_
    refine lv_iload_n hx hb dX6_hangThen_19 rfl (lv_at hl 2 rfl) ?_
    obtain ⟨p_20, hc_20, h⟩ := of_bind h
    refine x_Vi (av := [.ref (q 0), .int x1]) (As := [.int x1]) F hW (c_X6_takes l G q w x1 _ hc_20) [0, 1, 2, 3, 4, 5, 6, 7, 8, 9] rfl rfl (by intro q; cases q) cv_X6_151 rfl ⟨_, rfl, rfl⟩ rfl rfl rfl hl (Nat.le_of_ble_eq_true rfl) ⟨Nat.le_of_ble_eq_true rfl, Nat.le_of_ble_eq_true rfl⟩ ⟨rfl, rfl⟩ ⟨Nat.le_of_ble_eq_true rfl, Nat.le_of_ble_eq_true rfl⟩ dX6_hangThen_20 rfl [some 0, some 1, some 2, some 3, some 4, some 5, some 6, some 7, some 8, some 9] rfl (ws' := cMW G q p_20.2) rfl (fun H locs hW => ?_)
    obtain ⟨x_23, e_x_23, h⟩ := of_nm h
    refine x_topi e_x_23 ?_
    refine lv_istore_n (lv' := [(3, .int x_23), (2, .int p_4), (0, .ref (q 0)), (1, .int x1)]) hx hb dX6_hangThen_23 rfl hl (by decide) rfl (fun ls hl => ?_)
    refine lv_aload_n hx hb dX6_hangThen_24 rfl (lv_at hl 2 rfl) ?_
    refine x_get F hW 0 rfl fa_X6_13 rfl dX6_hangThen_25 ?_
    obtain ⟨p_28, hc_28, h⟩ := of_bind h
    refine x_Si (av := [.ref (q 2)]) F hW (c_X6_hangIn l G (fun i => q (i + 2)) p_20.2.2.1 _ hc_28) [2] rfl rfl (by intro q; cases q) cs_X6_145 rfl rfl hl (Nat.le_of_ble_eq_true rfl) ⟨Nat.le_of_ble_eq_true rfl, Nat.le_of_ble_eq_true rfl⟩ ⟨rfl, rfl⟩ ⟨Nat.le_of_ble_eq_true rfl, Nat.le_of_ble_eq_true rfl⟩ dX6_hangThen_28 rfl [none, none, some 0, none, none, none, none, none, none, none] rfl (ws' := cMW G q p_20.2) rfl (fun H locs hW => ?_)
    obtain rfl := Option.some.inj h
    exact x_reti F hr hW rfl dX6_hangThen_31
  · have h := hf_9 c_9
    refine lv_aload_n hx hb dX6_hangThen_12 rfl (lv_at hl 1 rfl) ?_
    refine lv_iload_n hx hb dX6_hangThen_13 rfl (lv_at hl 0 rfl) ?_
    obtain ⟨p_14, hc_14, h⟩ := of_bind h
    refine x_Vi (av := [.ref (q 0), .int p_4]) (As := [.int p_4]) F hW (c_X6_no l G q w p_4 _ hc_14) [0, 1, 2, 3, 4, 5, 6, 7, 8, 9] rfl rfl (by intro q; cases q) cv_X6_39 rfl ⟨_, rfl, rfl⟩ rfl rfl rfl hl (Nat.le_of_ble_eq_true rfl) ⟨Nat.le_of_ble_eq_true rfl, Nat.le_of_ble_eq_true rfl⟩ ⟨rfl, rfl⟩ ⟨Nat.le_of_ble_eq_true rfl, Nat.le_of_ble_eq_true rfl⟩ dX6_hangThen_14 rfl [some 0, some 1, some 2, some 3, some 4, some 5, some 6, some 7, some 8, some 9] rfl (ws' := cMW G q p_14.2) rfl (fun H locs hW => ?_)
    obtain rfl := Option.some.inj h
    exact x_reti F hr hW rfl dX6_hangThen_17
