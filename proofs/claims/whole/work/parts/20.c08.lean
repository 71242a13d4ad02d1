def f_X5_sees (w : EW) (x1 : Int32) : Option (Int32 × EW) :=
  Option.bind (f_X1_isHouse w.1.1 x1) fun p_5 =>
    if p_5 = 0 then
    Option.bind (f_X5_refuse w (-1 : Int32)) fun p_24 =>
    some (p_24.1, p_24.2)
    else
    Option.bind (f_X4_seenBy w.1 x1) fun p_16 =>
    some (p_16.1, (p_16.2, w.2.1, w.2.2.1, w.2.2.2.1, w.2.2.2.2.1, w.2.2.2.2.2.1, w.2.2.2.2.2.2.1, w.2.2.2.2.2.2.2))
abbrev rmX5_sees : Room := { frames := 5, cells := 0, slots := 0, locals := 126 }
set_option maxRecDepth 100000 in
set_option maxHeartbeats 4000000 in
theorem c_X5_sees (l : Launch) (G : EnT) (q : Nat → Nat) (w : EW) (x1 : Int32) (o : Int32 × EW) (h : f_X5_sees w x1 = some o) : Mi l yX5_sees rmX5_sees cX5_sees 2 (some .int) G false [.ref (q 0), .int x1] (cEW G q w) o.1 (cEW G q o.2) := by
  refine Mi_of (by decide) (Nat.le_of_ble_eq_true rfl) ?_
  intro p e s m below meth c A0 F hr hW ls hl
  obtain ⟨hx, hb, hml, hown, hts, hK, hNW, hlocks, hA, hSX⟩ := id F
  have hl : lv_has ls 2 [(0, .ref (q 0)), (1, .int x1)] := hl
  have hW : Wd G A0 s (cEW G q w) s.heap [] := hW
  show W p l e rmX5_sees s m ([.ref (q 0), .int x1] : List Value).toArray below meth c s.heap [] 0 0 (Qi below G (cEW G q o.2) o.1 A0 ([.ref (q 0), .int x1] : List Value).toArray s) (F0 m 0 ls [])
  refine lv_aload_n hx hb dX5_sees_0 rfl (lv_at hl 0 rfl) ?_
  refine x_get F hW 0 rfl fa_X5_20 rfl dX5_sees_1 ?_
  refine lv_iload_n hx hb dX5_sees_4 rfl (lv_at hl 1 rfl) ?_
  obtain ⟨p_5, hc_5, h⟩ := of_bind h
  refine x_Vi (av := [.ref (q 2), .int x1]) (As := [.int x1]) F hW (c_X1_isHouse l G (fun i => q (i + 2)) w.1.1 x1 _ hc_5) [2, 3, 4, 5, 6, 7] rfl rfl (by intro q; cases q) cv_X5_74 rfl ⟨_, rfl, rfl⟩ rfl rfl rfl hl (Nat.le_of_ble_eq_true rfl) ⟨Nat.le_of_ble_eq_true rfl, Nat.le_of_ble_eq_true rfl⟩ ⟨rfl, rfl⟩ ⟨Nat.le_of_ble_eq_true rfl, Nat.le_of_ble_eq_true rfl⟩ dX5_sees_5 rfl [none, none, some 0, some 1, some 2, some 3, some 4, some 5, none, none, none, none, none, none, none, none, none, none, none, none, none, none, none, none, none, none, none, none, none, none, none, none, none, none, none, none, none, none, none] rfl (ws' := cEW G q w) rfl (fun H locs hW => ?_)
  obtain ⟨ht_8, hf_8⟩ := of_ite h
  refine lv_if_eq (tgt := 22) hx hb dX5_sees_8 (by decide) (fun c_8 => ?_) (fun c_8 => ?_)
  · have h := ht_8 c_8
    refine lv_aload_n hx hb dX5_sees_22 rfl (lv_at hl 0 rfl) ?_
    refine lv_iconst (v := (-1 : Int32)) hx hb dX5_sees_23 (by decide) ?_
    obtain ⟨p_24, hc_24, h⟩ := of_bind h
    refine x_Vi (av := [.ref (q 0), .int (-1 : Int32)]) (As := [.int (-1 : Int32)]) F hW (c_X5_refuse l G q w (-1 : Int32) _ hc_24) [0, 1, 2, 3, 4, 5, 6, 7, 8, 9, 10, 11, 12, 13, 14, 15, 16, 17, 18, 19, 20, 21, 22, 23, 24, 25, 26, 27, 28, 29, 30, 31, 32, 33, 34, 35, 36, 37, 38] rfl rfl (by intro q; cases q) cv_X5_44 rfl ⟨_, rfl, rfl⟩ rfl rfl rfl hl (Nat.le_of_ble_eq_true rfl) ⟨Nat.le_of_ble_eq_true rfl, Nat.le_of_ble_eq_true rfl⟩ ⟨rfl, rfl⟩ ⟨Nat.le_of_ble_eq_true rfl, Nat.le_of_ble_eq_true rfl⟩ dX5_sees_24 rfl [some 0, some 1, some 2, some 3, some 4, some 5, some 6, some 7, some 8, some 9, some 10, some 11, some 12, some 13, some 14, some 15, some 16, some 17, some 18, some 19, some 20, some 21, some 22, some 23, some 24, some 25, some 26, some 27, some 28, some 29, some 30, some 31, some 32, some 33, some 34, some 35, some 36, some 37, some 38] rfl (ws' := cEW G q p_24.2) rfl (fun H locs hW => ?_)
    obtain rfl := Option.some.inj h
    exact x_reti F hr hW rfl dX5_sees_27
  · have h := hf_8 c_8
    refine lv_aload_n hx hb dX5_sees_11 rfl (lv_at hl 0 rfl) ?_
    refine x_get F hW 0 rfl fa_X5_10 rfl dX5_sees_12 ?_
    refine lv_iload_n hx hb dX5_sees_15 rfl (lv_at hl 1 rfl) ?_
    obtain ⟨p_16, hc_16, h⟩ := of_bind h
    refine x_Vi (av := [.ref (q 1), .int x1]) (As := [.int x1]) F hW (c_X4_seenBy l G (fun i => q (i + 1)) w.1 x1 _ hc_16) [1, 2, 3, 4, 5, 6, 7, 8, 9, 10, 11, 12, 13, 14, 15, 16, 17, 18, 19, 20, 21, 22] rfl rfl (by intro q; cases q) cv_X5_155 rfl ⟨_, rfl, rfl⟩ rfl rfl rfl hl (Nat.le_of_ble_eq_true rfl) ⟨Nat.le_of_ble_eq_true rfl, Nat.le_of_ble_eq_true rfl⟩ ⟨rfl, rfl⟩ ⟨Nat.le_of_ble_eq_true rfl, Nat.le_of_ble_eq_true rfl⟩ dX5_sees_16 rfl [none, some 0, some 1, some 2, some 3, some 4, some 5, some 6, some 7, some 8, some 9, some 10, some 11, some 12, some 13, some 14, some 15, some 16, some 17, some 18, some 19, some 20, some 21, none, none, none, none, none, none, none, none, none, none, none, none, none, none, none, none] rfl (ws' := cEW G q (p_16.2, w.2.1, w.2.2.1, w.2.2.2.1, w.2.2.2.2.1, w.2.2.2.2.2.1, w.2.2.2.2.2.2.1, w.2.2.2.2.2.2.2)) rfl (fun H locs hW => ?_)
    refine lv_goto (tgt := 27) hx hb dX5_sees_19 (by decide) ?_
    obtain rfl := Option.some.inj h
    exact x_reti F hr hW rfl dX5_sees_27
def f_X5_areTwo (w : EW) (x1 : Int32) (x2 : Int32) : Option (Int32) :=
  Option.bind (f_X1_isHouse w.1.1 x1) fun p_5 =>
    if p_5 = 0 then
    some (0 : Int32)
    else
    Option.bind (f_X1_isHouse w.1.1 x2) fun p_16 =>
    if p_16 = 0 then
    some (0 : Int32)
    else
    if x1 = x2 then
    some (0 : Int32)
    else
    some (1 : Int32)
abbrev rmX5_areTwo : Room := { frames := 1, cells := 0, slots := 0, locals := 21 }
set_option maxRecDepth 100000 in
set_option maxHeartbeats 4000000 in
theorem c_X5_areTwo (l : Launch) (G : EnT) (q : Nat → Nat) (w : EW) (x1 : Int32) (x2 : Int32) (o : Int32) (h : f_X5_areTwo w x1 x2 = some o) : Mi l yX5_areTwo rmX5_areTwo cX5_areTwo 3 (some .boolean) G false [.ref (q 0), .int x1, .int x2] (cEW G q w) o (cEW G q w) := by
  refine Mi_of (by decide) (Nat.le_of_ble_eq_true rfl) ?_
  intro p e s m below meth c A0 F hr hW ls hl
  obtain ⟨hx, hb, hml, hown, hts, hK, hNW, hlocks, hA, hSX⟩ := id F
  have hl : lv_has ls 3 [(0, .ref (q 0)), (1, .int x1), (2, .int x2)] := hl
  have hW : Wd G A0 s (cEW G q w) s.heap [] := hW
  show W p l e rmX5_areTwo s m ([.ref (q 0), .int x1, .int x2] : List Value).toArray below meth c s.heap [] 0 0 (Qi below G (cEW G q w) o A0 ([.ref (q 0), .int x1, .int x2] : List Value).toArray s) (F0 m 0 ls [])
  refine lv_aload_n hx hb dX5_areTwo_0 rfl (lv_at hl 0 rfl) ?_
  refine x_get F hW 0 rfl fa_X5_20 rfl dX5_areTwo_1 ?_
  refine lv_iload_n hx hb dX5_areTwo_4 rfl (lv_at hl 1 rfl) ?_
  obtain ⟨p_5, hc_5, h⟩ := of_bind h
  refine x_Vi (av := [.ref (q 2), .int x1]) (As := [.int x1]) F hW (c_X1_isHouse l G (fun i => q (i + 2)) w.1.1 x1 _ hc_5) [2, 3, 4, 5, 6, 7] rfl rfl (by intro q; cases q) cv_X5_74 rfl ⟨_, rfl, rfl⟩ rfl rfl rfl hl (Nat.le_of_ble_eq_true rfl) ⟨Nat.le_of_ble_eq_true rfl, Nat.le_of_ble_eq_true rfl⟩ ⟨rfl, rfl⟩ ⟨Nat.le_of_ble_eq_true rfl, Nat.le_of_ble_eq_true rfl⟩ dX5_areTwo_5 rfl [none, none, some 0, some 1, some 2, some 3, some 4, some 5, none, none, none, none, none, none, none, none, none, none, none, none, none, none, none, none, none, none, none, none, none, none, none, none, none, none, none, none, none, none, none] rfl (ws' := cEW G q w) rfl (fun H locs hW => ?_)
  obtain ⟨ht_8, hf_8⟩ := of_ite h
  refine lv_if_eq (tgt := 31) hx hb dX5_areTwo_8 (by decide) (fun c_8 => ?_) (fun c_8 => ?_)
  · have h := ht_8 c_8
    refine lv_iconst (v := (0 : Int32)) hx hb dX5_areTwo_31 (by decide) ?_
    obtain rfl := Option.some.inj h
    exact x_retz F hr hW (Or.inl rfl) rfl dX5_areTwo_32
  · have h := hf_8 c_8
    refine lv_aload_n hx hb dX5_areTwo_11 rfl (lv_at hl 0 rfl) ?_
    refine x_get F hW 0 rfl fa_X5_20 rfl dX5_areTwo_12 ?_
    refine lv_iload_n hx hb dX5_areTwo_15 rfl (lv_at hl 2 rfl) ?_
    obtain ⟨p_16, hc_16, h⟩ := of_bind h
    refine x_Vi (av := [.ref (q 2), .int x2]) (As := [.int x2]) F hW (c_X1_isHouse l G (fun i => q (i + 2)) w.1.1 x2 _ hc_16) [2, 3, 4, 5, 6, 7] rfl rfl (by intro q; cases q) cv_X5_74 rfl ⟨_, rfl, rfl⟩ rfl rfl rfl hl (Nat.le_of_ble_eq_true rfl) ⟨Nat.le_of_ble_eq_true rfl, Nat.le_of_ble_eq_true rfl⟩ ⟨rfl, rfl⟩ ⟨Nat.le_of_ble_eq_true rfl, Nat.le_of_ble_eq_true rfl⟩ dX5_areTwo_16 rfl [none, none, some 0, some 1, some 2, some 3, some 4, some 5, none, none, none, none, none, none, none, none, none, none, none, none, none, none, none, none, none, none, none, none, none, none, none, none, none, none, none, none, none, none, none] rfl (ws' := cEW G q w) rfl (fun H locs hW => ?_)
    obtain ⟨ht_19, hf_19⟩ := of_ite h
    refine lv_if_eq (tgt := 31) hx hb dX5_areTwo_19 (by decide) (fun c_19 => ?_) (fun c_19 => ?_)
    · have h := ht_19 c_19
      refine lv_iconst (v := (0 : Int32)) hx hb dX5_areTwo_31 (by decide) ?_
      obtain rfl := Option.some.inj h
      exact x_retz F hr hW (Or.inl rfl) rfl dX5_areTwo_32
    · have h := hf_19 c_19
      refine lv_iload_n hx hb dX5_areTwo_22 rfl (lv_at hl 1 rfl) ?_
      refine lv_iload_n hx hb dX5_areTwo_23 rfl (lv_at hl 2 rfl) ?_
      obtain ⟨ht_24, hf_24⟩ := of_ite h
      refine lv_icmp_eq (tgt := 31) hx hb dX5_areTwo_24 (by decide) (fun c_24 => ?_) (fun c_24 => ?_)
      · have h := ht_24 c_24
        refine lv_iconst (v := (0 : Int32)) hx hb dX5_areTwo_31 (by decide) ?_
        obtain rfl := Option.some.inj h
        exact x_retz F hr hW (Or.inl rfl) rfl dX5_areTwo_32
      · have h := hf_24 c_24
        refine lv_iconst (v := (1 : Int32)) hx hb dX5_areTwo_27 (by decide) ?_
        refine lv_goto (tgt := 32) hx hb dX5_areTwo_28 (by decide) ?_
        obtain rfl := Option.some.inj h
        exact x_retz F hr hW (Or.inr rfl) rfl dX5_areTwo_32
def f_X5_hill (w : EW) (x1 : Int32) (x2 : Int32) : Option (Int32 × EW) :=
  Option.bind (f_X5_areTwo w x1 x2) fun p_3 =>
    if p_3 = 0 then
    Option.bind (f_X5_refuse w (-1 : Int32)) fun p_23 =>
    some (p_23.1, p_23.2)
    else
    Option.bind (f_X4_cellInTheWay w.1 x1 x2) fun p_15 =>
    some (p_15.1, (p_15.2, w.2.1, w.2.2.1, w.2.2.2.1, w.2.2.2.2.1, w.2.2.2.2.2.1, w.2.2.2.2.2.2.1, w.2.2.2.2.2.2.2))
abbrev rmX5_hill : Room := { frames := 5, cells := 0, slots := 0, locals := 135 }
set_option maxRecDepth 100000 in
set_option maxHeartbeats 4000000 in
theorem c_X5_hill (l : Launch) (G : EnT) (q : Nat → Nat) (w : EW) (x1 : Int32) (x2 : Int32) (o : Int32 × EW) (h : f_X5_hill w x1 x2 = some o) : Mi l yX5_hill rmX5_hill cX5_hill 3 (some .int) G false [.ref (q 0), .int x1, .int x2] (cEW G q w) o.1 (cEW G q o.2) := by
  refine Mi_of (by decide) (Nat.le_of_ble_eq_true rfl) ?_
  intro p e s m below meth c A0 F hr hW ls hl
  obtain ⟨hx, hb, hml, hown, hts, hK, hNW, hlocks, hA, hSX⟩ := id F
  have hl : lv_has ls 3 [(0, .ref (q 0)), (1, .int x1), (2, .int x2)] := hl
  have hW : Wd G A0 s (cEW G q w) s.heap [] := hW
  show W p l e rmX5_hill s m ([.ref (q 0), .int x1, .int x2] : List Value).toArray below meth c s.heap [] 0 0 (Qi below G (cEW G q o.2) o.1 A0 ([.ref (q 0), .int x1, .int x2] : List Value).toArray s) (F0 m 0 ls [])
  refine lv_aload_n hx hb dX5_hill_0 rfl (lv_at hl 0 rfl) ?_
  refine lv_iload_n hx hb dX5_hill_1 rfl (lv_at hl 1 rfl) ?_
  refine lv_iload_n hx hb dX5_hill_2 rfl (lv_at hl 2 rfl) ?_
  obtain ⟨p_3, hc_3, h⟩ := of_bind h
  refine x_Vi (av := [.ref (q 0), .int x1, .int x2]) (As := [.int x1, .int x2]) F hW (c_X5_areTwo l G q w x1 x2 _ hc_3) [0, 1, 2, 3, 4, 5, 6, 7, 8, 9, 10, 11, 12, 13, 14, 15, 16, 17, 18, 19, 20, 21, 22, 23, 24, 25, 26, 27, 28, 29, 30, 31, 32, 33, 34, 35, 36, 37, 38] rfl rfl (by intro q; cases q) cv_X5_158 rfl ⟨_, rfl, rfl⟩ rfl rfl rfl hl (Nat.le_of_ble_eq_true rfl) ⟨Nat.le_of_ble_eq_true rfl, Nat.le_of_ble_eq_true rfl⟩ ⟨rfl, rfl⟩ ⟨Nat.le_of_ble_eq_true rfl, Nat.le_of_ble_eq_true rfl⟩ dX5_hill_3 rfl [some 0, some 1, some 2, some 3, some 4, some 5, some 6, some 7, some 8, some 9, some 10, some 11, some 12, some 13, some 14, some 15, some 16, some 17, some 18, some 19, some 20, some 21, some 22, some 23, some 24, some 25, some 26, some 27, some 28, some 29, some 30, some 31, some 32, some 33, some 34, some 35, some 36, some 37, some 38] rfl (ws' := cEW G q w) rfl (fun H locs hW => ?_)
  obtain ⟨ht_6, hf_6⟩ := of_ite h
  refine lv_if_eq (tgt := 21) hx hb dX5_hill_6 (by decide) (fun c_6 => ?_) (fun c_6 => ?_)
  · have h := ht_6 c_6
    refine lv_aload_n hx hb dX5_hill_21 rfl (lv_at hl 0 rfl) ?_
    refine lv_iconst (v := (-1 : Int32)) hx hb dX5_hill_22 (by decide) ?_
    obtain ⟨p_23, hc_23, h⟩ := of_bind h
    refine x_Vi (av := [.ref (q 0), .int (-1 : Int32)]) (As := [.int (-1 : Int32)]) F hW (c_X5_refuse l G q w (-1 : Int32) _ hc_23) [0, 1, 2, 3, 4, 5, 6, 7, 8, 9, 10, 11, 12, 13, 14, 15, 16, 17, 18, 19, 20, 21, 22, 23, 24, 25, 26, 27, 28, 29, 30, 31, 32, 33, 34, 35, 36, 37, 38] rfl rfl (by intro q; cases q) cv_X5_44 rfl ⟨_, rfl, rfl⟩ rfl rfl rfl hl (Nat.le_of_ble_eq_true rfl) ⟨Nat.le_of_ble_eq_true rfl, Nat.le_of_ble_eq_true rfl⟩ ⟨rfl, rfl⟩ ⟨Nat.le_of_ble_eq_true rfl, Nat.le_of_ble_eq_true rfl⟩ dX5_hill_23 rfl [some 0, some 1, some 2, some 3, some 4, some 5, some 6, some 7, some 8, some 9, some 10, some 11, some 12, some 13, some 14, some 15, some 16, some 17, some 18, some 19, some 20, some 21, some 22, some 23, some 24, some 25, some 26, some 27, some 28, some 29, some 30, some 31, some 32, some 33, some 34, some 35, some 36, some 37, some 38] rfl (ws' := cEW G q p_23.2) rfl (fun H locs hW => ?_)
    obtain rfl := Option.some.inj h
    exact x_reti F hr hW rfl dX5_hill_26
  · have h := hf_6 c_6
    refine lv_aload_n hx hb dX5_hill_9 rfl (lv_at hl 0 rfl) ?_
    refine x_get F hW 0 rfl fa_X5_10 rfl dX5_hill_10 ?_
    refine lv_iload_n hx hb dX5_hill_13 rfl (lv_at hl 1 rfl) ?_
    refine lv_iload_n hx hb dX5_hill_14 rfl (lv_at hl 2 rfl) ?_
    obtain ⟨p_15, hc_15, h⟩ := of_bind h
    refine x_Vi (av := [.ref (q 1), .int x1, .int x2]) (As := [.int x1, .int x2]) F hW (c_X4_cellInTheWay l G (fun i => q (i + 1)) w.1 x1 x2 _ hc_15) [1, 2, 3, 4, 5, 6, 7, 8, 9, 10, 11, 12, 13, 14, 15, 16, 17, 18, 19, 20, 21, 22] rfl rfl (by intro q; cases q) cv_X5_161 rfl ⟨_, rfl, rfl⟩ rfl rfl rfl hl (Nat.le_of_ble_eq_true rfl) ⟨Nat.le_of_ble_eq_true rfl, Nat.le_of_ble_eq_true rfl⟩ ⟨rfl, rfl⟩ ⟨Nat.le_of_ble_eq_true rfl, Nat.le_of_ble_eq_true rfl⟩ dX5_hill_15 rfl [none, some 0, some 1, some 2, some 3, some 4, some 5, some 6, some 7, some 8, some 9, some 10, some 11, some 12, some 13, some 14, some 15, some 16, some 17, some 18, some 19, some 20, some 21, none, none, none, none, none, none, none, none, none, none, none, none, none, none, none, none] rfl (ws' := cEW G q (p_15.2, w.2.1, w.2.2.1, w.2.2.2.1, w.2.2.2.2.1, w.2.2.2.2.2.1, w.2.2.2.2.2.2.1, w.2.2.2.2.2.2.2)) rfl (fun H locs hW => ?_)
    refine lv_goto (tgt := 26) hx hb dX5_hill_18 (by decide) ?_
    obtain rfl := Option.some.inj h
    exact x_reti F hr hW rfl dX5_hill_26
def f_X5_leastEye (w : EW) (x1 : Int32) : Option (Int32 × EW) :=
  Option.bind (f_X1_isHouse w.1.1 x1) fun p_5 =>
    if p_5 = 0 then
    Option.bind (f_X5_refuse w (-1 : Int32)) fun p_24 =>
    some (p_24.1, p_24.2)
    else
    Option.bind (f_X4_leastCandle w.1 x1) fun p_16 =>
    some (p_16, w)
abbrev rmX5_leastEye : Room := { frames := 3, cells := 0, slots := 0, locals := 78 }
set_option maxRecDepth 100000 in
set_option maxHeartbeats 4000000 in
theorem c_X5_leastEye (l : Launch) (G : EnT) (q : Nat → Nat) (w : EW) (x1 : Int32) (o : Int32 × EW) (h : f_X5_leastEye w x1 = some o) : Mi l yX5_leastEye rmX5_leastEye cX5_leastEye 2 (some .int) G false [.ref (q 0), .int x1] (cEW G q w) o.1 (cEW G q o.2) := by
  refine Mi_of (by decide) (Nat.le_of_ble_eq_true rfl) ?_
  intro p e s m below meth c A0 F hr hW ls hl
  obtain ⟨hx, hb, hml, hown, hts, hK, hNW, hlocks, hA, hSX⟩ := id F
  have hl : lv_has ls 2 [(0, .ref (q 0)), (1, .int x1)] := hl
  have hW : Wd G A0 s (cEW G q w) s.heap [] := hW
  show W p l e rmX5_leastEye s m ([.ref (q 0), .int x1] : List Value).toArray below meth c s.heap [] 0 0 (Qi below G (cEW G q o.2) o.1 A0 ([.ref (q 0), .int x1] : List Value).toArray s) (F0 m 0 ls [])
  refine lv_aload_n hx hb dX5_leastEye_0 rfl (lv_at hl 0 rfl) ?_
  refine x_get F hW 0 rfl fa_X5_20 rfl dX5_leastEye_1 ?_
  refine lv_iload_n hx hb dX5_leastEye_4 rfl (lv_at hl 1 rfl) ?_
  obtain ⟨p_5, hc_5, h⟩ := of_bind h
  refine x_Vi (av := [.ref (q 2), .int x1]) (As := [.int x1]) F hW (c_X1_isHouse l G (fun i => q (i + 2)) w.1.1 x1 _ hc_5) [2, 3, 4, 5, 6, 7] rfl rfl (by intro q; cases q) cv_X5_74 rfl ⟨_, rfl, rfl⟩ rfl rfl rfl hl (Nat.le_of_ble_eq_true rfl) ⟨Nat.le_of_ble_eq_true rfl, Nat.le_of_ble_eq_true rfl⟩ ⟨rfl, rfl⟩ ⟨Nat.le_of_ble_eq_true rfl, Nat.le_of_ble_eq_true rfl⟩ dX5_leastEye_5 rfl [none, none, some 0, some 1, some 2, some 3, some 4, some 5, none, none, none, none, none, none, none, none, none, none, none, none, none, none, none, none, none, none, none, none, none, none, none, none, none, none, none, none, none, none, none] rfl (ws' := cEW G q w) rfl (fun H locs hW => ?_)
  obtain ⟨ht_8, hf_8⟩ := of_ite h
  refine lv_if_eq (tgt := 22) hx hb dX5_leastEye_8 (by decide) (fun c_8 => ?_) (fun c_8 => ?_)
  · have h := ht_8 c_8
    refine lv_aload_n hx hb dX5_leastEye_22 rfl (lv_at hl 0 rfl) ?_
    refine lv_iconst (v := (-1 : Int32)) hx hb dX5_leastEye_23 (by decide) ?_
    obtain ⟨p_24, hc_24, h⟩ := of_bind h
    refine x_Vi (av := [.ref (q 0), .int (-1 : Int32)]) (As := [.int (-1 : Int32)]) F hW (c_X5_refuse l G q w (-1 : Int32) _ hc_24) [0, 1, 2, 3, 4, 5, 6, 7, 8, 9, 10, 11, 12, 13, 14, 15, 16, 17, 18, 19, 20, 21, 22, 23, 24, 25, 26, 27, 28, 29, 30, 31, 32, 33, 34, 35, 36, 37, 38] rfl rfl (by intro q; cases q) cv_X5_44 rfl ⟨_, rfl, rfl⟩ rfl rfl rfl hl (Nat.le_of_ble_eq_true rfl) ⟨Nat.le_of_ble_eq_true rfl, Nat.le_of_ble_eq_true rfl⟩ ⟨rfl, rfl⟩ ⟨Nat.le_of_ble_eq_true rfl, Nat.le_of_ble_eq_true rfl⟩ dX5_leastEye_24 rfl [some 0, some 1, some 2, some 3, some 4, some 5, some 6, some 7, some 8, some 9, some 10, some 11, some 12, some 13, some 14, some 15, some 16, some 17, some 18, some 19, some 20, some 21, some 22, some 23, some 24, some 25, some 26, some 27, some 28, some 29, some 30, some 31, some 32, some 33, some 34, some 35, some 36, some 37, some 38] rfl (ws' := cEW G q p_24.2) rfl (fun H locs hW => ?_)
    obtain rfl := Option.some.inj h
    exact x_reti F hr hW rfl dX5_leastEye_27
  · have h := hf_8 c_8
    refine lv_aload_n hx hb dX5_leastEye_11 rfl (lv_at hl 0 rfl) ?_
    refine x_get F hW 0 rfl fa_X5_10 rfl dX5_leastEye_12 ?_
    refine lv_iload_n hx hb dX5_leastEye_15 rfl (lv_at hl 1 rfl) ?_
    obtain ⟨p_16, hc_16, h⟩ := of_bind h
    refine x_Vi (av := [.ref (q 1), .int x1]) (As := [.int x1]) F hW (c_X4_leastCandle l G (fun i => q (i + 1)) w.1 x1 _ hc_16) [1, 2, 3, 4, 5, 6, 7, 8, 9, 10, 11, 12, 13, 14, 15, 16, 17, 18, 19, 20, 21, 22] rfl rfl (by intro q; cases q) cv_X5_164 rfl ⟨_, rfl, rfl⟩ rfl rfl rfl hl (Nat.le_of_ble_eq_true rfl) ⟨Nat.le_of_ble_eq_true rfl, Nat.le_of_ble_eq_true rfl⟩ ⟨rfl, rfl⟩ ⟨Nat.le_of_ble_eq_true rfl, Nat.le_of_ble_eq_true rfl⟩ dX5_leastEye_16 rfl [none, some 0, some 1, some 2, some 3, some 4, some 5, some 6, some 7, some 8, some 9, some 10, some 11, some 12, some 13, some 14, some 15, some 16, some 17, some 18, some 19, some 20, some 21, none, none, none, none, none, none, none, none, none, none, none, none, none, none, none, none] rfl (ws' := cEW G q w) rfl (fun H locs hW => ?_)
    refine lv_goto (tgt := 27) hx hb dX5_leastEye_19 (by decide) ?_
    obtain rfl := Option.some.inj h
    exact x_reti F hr hW rfl dX5_leastEye_27
def f_X5_cut (w : EW) (x1 : Int32) : Option (Int32 × EW) :=
  if x1 = (0 : Int32) then
    Option.bind (f_X4_cutHouse w.1) fun p_32 =>
    some (p_32.1, (p_32.2, w.2.1, w.2.2.1, w.2.2.2.1, w.2.2.2.2.1, w.2.2.2.2.2.1, w.2.2.2.2.2.2.1, w.2.2.2.2.2.2.2))
    else
    if x1 = (1 : Int32) then
    Option.bind (f_X4_hangingAfterCut w.1) fun p_40 =>
    some (p_40.1, (p_40.2, w.2.1, w.2.2.1, w.2.2.2.1, w.2.2.2.2.1, w.2.2.2.2.2.1, w.2.2.2.2.2.2.1, w.2.2.2.2.2.2.2))
    else
    if x1 = (2 : Int32) then
    Option.bind (f_X4_needed w.1) fun p_48 =>
    some (p_48.1, (p_48.2, w.2.1, w.2.2.1, w.2.2.2.1, w.2.2.2.2.1, w.2.2.2.2.2.1, w.2.2.2.2.2.2.1, w.2.2.2.2.2.2.2))
    else
    Option.bind (f_X5_refuse w (-2 : Int32)) fun p_55 =>
    some (p_55.1, p_55.2)
abbrev rmX5_cut : Room := { frames := 6, cells := 0, slots := 0, locals := 151 }
set_option maxRecDepth 100000 in
set_option maxHeartbeats 4000000 in
theorem c_X5_cut (l : Launch) (G : EnT) (q : Nat → Nat) (w : EW) (x1 : Int32) (o : Int32 × EW) (h : f_X5_cut w x1 = some o) : Mi l yX5_cut rmX5_cut cX5_cut 2 (some .int) G false [.ref (q 0), .int x1] (cEW G q w) o.1 (cEW G q o.2) := by
  refine Mi_of (by decide) (Nat.le_of_ble_eq_true rfl) ?_
  intro p e s m below meth c A0 F hr hW ls hl
  obtain ⟨hx, hb, hml, hown, hts, hK, hNW, hlocks, hA, hSX⟩ := id F
  have hl : lv_has ls 2 [(0, .ref (q 0)), (1, .int x1)] := hl
  have hW : Wd G A0 s (cEW G q w) s.heap [] := hW
  show W p l e rmX5_cut s m ([.ref (q 0), .int x1] : List Value).toArray below meth c s.heap [] 0 0 (Qi below G (cEW G q o.2) o.1 A0 ([.ref (q 0), .int x1] : List Value).toArray s) (F0 m 0 ls [])
  refine lv_iload_n hx hb dX5_cut_0 rfl (lv_at hl 1 rfl) ?_
  obtain ⟨ht_1_0, h⟩ := of_ite h
  by_cases c_1_0 : x1 = (0 : Int32)
  · have h := ht_1_0 c_1_0
    refine x_tableIn c_1_0 hx hb dX5_cut_1 (by decide) (by decide) (off := (27)) rfl (tgt := 28) (by decide) ?_
    refine lv_aload_n hx hb dX5_cut_28 rfl (lv_at hl 0 rfl) ?_
    refine x_get F hW 0 rfl fa_X5_10 rfl dX5_cut_29 ?_
    obtain ⟨p_32, hc_32, h⟩ := of_bind h
    refine x_Vi (av := [.ref (q 1)]) (As := []) F hW (c_X4_cutHouse l G (fun i => q (i + 1)) w.1 _ hc_32) [1, 2, 3, 4, 5, 6, 7, 8, 9, 10, 11, 12, 13, 14, 15, 16, 17, 18, 19, 20, 21, 22] rfl rfl (by intro q; cases q) cv_X5_167 rfl ⟨_, rfl, rfl⟩ rfl rfl rfl hl (Nat.le_of_ble_eq_true rfl) ⟨Nat.le_of_ble_eq_true rfl, Nat.le_of_ble_eq_true rfl⟩ ⟨rfl, rfl⟩ ⟨Nat.le_of_ble_eq_true rfl, Nat.le_of_ble_eq_true rfl⟩ dX5_cut_32 rfl [none, some 0, some 1, some 2, some 3, some 4, some 5, some 6, some 7, some 8, some 9, some 10, some 11, some 12, some 13, some 14, some 15, some 16, some 17, some 18, some 19, some 20, some 21, none, none, none, none, none, none, none, none, none, none, none, none, none, none, none, none] rfl (ws' := cEW G q (p_32.2, w.2.1, w.2.2.1, w.2.2.2.1, w.2.2.2.2.1, w.2.2.2.2.2.1, w.2.2.2.2.2.2.1, w.2.2.2.2.2.2.2)) rfl (fun H locs hW => ?_)
    obtain rfl := Option.some.inj h
    exact x_reti F hr hW rfl dX5_cut_35
  have h := h c_1_0
  obtain ⟨ht_1_1, h⟩ := of_ite h
  by_cases c_1_1 : x1 = (1 : Int32)
  · have h := ht_1_1 c_1_1
    refine x_tableIn c_1_1 hx hb dX5_cut_1 (by decide) (by decide) (off := (35)) rfl (tgt := 36) (by decide) ?_
    refine lv_aload_n hx hb dX5_cut_36 rfl (lv_at hl 0 rfl) ?_
    refine x_get F hW 0 rfl fa_X5_10 rfl dX5_cut_37 ?_
    obtain ⟨p_40, hc_40, h⟩ := of_bind h
    refine x_Vi (av := [.ref (q 1)]) (As := []) F hW (c_X4_hangingAfterCut l G (fun i => q (i + 1)) w.1 _ hc_40) [1, 2, 3, 4, 5, 6, 7, 8, 9, 10, 11, 12, 13, 14, 15, 16, 17, 18, 19, 20, 21, 22] rfl rfl (by intro q; cases q) cv_X5_170 rfl ⟨_, rfl, rfl⟩ rfl rfl rfl hl (Nat.le_of_ble_eq_true rfl) ⟨Nat.le_of_ble_eq_true rfl, Nat.le_of_ble_eq_true rfl⟩ ⟨rfl, rfl⟩ ⟨Nat.le_of_ble_eq_true rfl, Nat.le_of_ble_eq_true rfl⟩ dX5_cut_40 rfl [none, some 0, some 1, some 2, some 3, some 4, some 5, some 6, some 7, some 8, some 9, some 10, some 11, some 12, some 13, some 14, some 15, some 16, some 17, some 18, some 19, some 20, some 21, none, none, none, none, none, none, none, none, none, none, none, none, none, none, none, none] rfl (ws' := cEW G q (p_40.2, w.2.1, w.2.2.1, w.2.2.2.1, w.2.2.2.2.1, w.2.2.2.2.2.1, w.2.2.2.2.2.2.1, w.2.2.2.2.2.2.2)) rfl (fun H locs hW => ?_)
    obtain rfl := Option.some.inj h
    exact x_reti F hr hW rfl dX5_cut_43
  have h := h c_1_1
  obtain ⟨ht_1_2, h⟩ := of_ite h
  by_cases c_1_2 : x1 = (2 : Int32)
  · have h := ht_1_2 c_1_2
    refine x_tableIn c_1_2 hx hb dX5_cut_1 (by decide) (by decide) (off := (43)) rfl (tgt := 44) (by decide) ?_
    refine lv_aload_n hx hb dX5_cut_44 rfl (lv_at hl 0 rfl) ?_
    refine x_get F hW 0 rfl fa_X5_10 rfl dX5_cut_45 ?_
    obtain ⟨p_48, hc_48, h⟩ := of_bind h
    refine x_Vi (av := [.ref (q 1)]) (As := []) F hW (c_X4_needed l G (fun i => q (i + 1)) w.1 _ hc_48) [1, 2, 3, 4, 5, 6, 7, 8, 9, 10, 11, 12, 13, 14, 15, 16, 17, 18, 19, 20, 21, 22] rfl rfl (by intro q; cases q) cv_X5_173 rfl ⟨_, rfl, rfl⟩ rfl rfl rfl hl (Nat.le_of_ble_eq_true rfl) ⟨Nat.le_of_ble_eq_true rfl, Nat.le_of_ble_eq_true rfl⟩ ⟨rfl, rfl⟩ ⟨Nat.le_of_ble_eq_true rfl, Nat.le_of_ble_eq_true rfl⟩ dX5_cut_48 rfl [none, some 0, some 1, some 2, some 3, some 4, some 5, some 6, some 7, some 8, some 9, some 10, some 11, some 12, some 13, some 14, some 15, some 16, some 17, some 18, some 19, some 20, some 21, none, none, none, none, none, none, none, none, none, none, none, none, none, none, none, none] rfl (ws' := cEW G q (p_48.2, w.2.1, w.2.2.1, w.2.2.2.1, w.2.2.2.2.1, w.2.2.2.2.2.1, w.2.2.2.2.2.2.1, w.2.2.2.2.2.2.2)) rfl (fun H locs hW => ?_)
    obtain rfl := Option.some.inj h
    exact x_reti F hr hW rfl dX5_cut_51
  have h := h c_1_2
  refine lv_tableOut hx hb dX5_cut_1 (by have z0 := x_ne c_1_0 (z := 0) (by decide); have z1 := x_ne c_1_1 (z := 1) (by decide); have z2 := x_ne c_1_2 (z := 2) (by decide); omega) (tgt := 52) (by decide) ?_
  refine lv_aload_n hx hb dX5_cut_52 rfl (lv_at hl 0 rfl) ?_
  refine lv_bipush (v := (-2 : Int32)) hx hb dX5_cut_53 (by decide) ?_
  obtain ⟨p_55, hc_55, h⟩ := of_bind h
  refine x_Vi (av := [.ref (q 0), .int (-2 : Int32)]) (As := [.int (-2 : Int32)]) F hW (c_X5_refuse l G q w (-2 : Int32) _ hc_55) [0, 1, 2, 3, 4, 5, 6, 7, 8, 9, 10, 11, 12, 13, 14, 15, 16, 17, 18, 19, 20, 21, 22, 23, 24, 25, 26, 27, 28, 29, 30, 31, 32, 33, 34, 35, 36, 37, 38] rfl rfl (by intro q; cases q) cv_X5_44 rfl ⟨_, rfl, rfl⟩ rfl rfl rfl hl (Nat.le_of_ble_eq_true rfl) ⟨Nat.le_of_ble_eq_true rfl, Nat.le_of_ble_eq_true rfl⟩ ⟨rfl, rfl⟩ ⟨Nat.le_of_ble_eq_true rfl, Nat.le_of_ble_eq_true rfl⟩ dX5_cut_55 rfl [some 0, some 1, some 2, some 3, some 4, some 5, some 6, some 7, some 8, some 9, some 10, some 11, some 12, some 13, some 14, some 15, some 16, some 17, some 18, some 19, some 20, some 21, some 22, some 23, some 24, some 25, some 26, some 27, some 28, some 29, some 30, some 31, some 32, some 33, some 34, some 35, some 36, some 37, some 38] rfl (ws' := cEW G q p_55.2) rfl (fun H locs hW => ?_)
  obtain rfl := Option.some.inj h
  exact x_reti F hr hW rfl dX5_cut_58
def f_X5_build (w : EW) (x1 : Int32) : Option (Int32 × EW) :=
  if x1 = (0 : Int32) then
    Option.bind (f_X4_buildCell w.1) fun p_32 =>
    some (p_32.1, (p_32.2, w.2.1, w.2.2.1, w.2.2.2.1, w.2.2.2.2.1, w.2.2.2.2.2.1, w.2.2.2.2.2.2.1, w.2.2.2.2.2.2.2))
    else
    if x1 = (1 : Int32) then
    Option.bind (f_X4_buildCell w.1) fun p_44 =>
    Option.bind (f_X4_hangingIfBuilt p_44.2 p_44.1) fun p_47 =>
    some (p_47.1, (p_47.2, w.2.1, w.2.2.1, w.2.2.2.1, w.2.2.2.2.1, w.2.2.2.2.2.1, w.2.2.2.2.2.2.1, w.2.2.2.2.2.2.2))
    else
    Option.bind (f_X5_refuse w (-2 : Int32)) fun p_54 =>
    some (p_54.1, p_54.2)
abbrev rmX5_build : Room := { frames := 6, cells := 0, slots := 0, locals := 144 }
set_option maxRecDepth 100000 in
set_option maxHeartbeats 4000000 in
theorem c_X5_build (l : Launch) (G : EnT) (q : Nat → Nat) (w : EW) (x1 : Int32) (o : Int32 × EW) (h : f_X5_build w x1 = some o) : Mi l yX5_build rmX5_build cX5_build 2 (some .int) G false [.ref (q 0), .int x1] (cEW G q w) o.1 (cEW G q o.2) := by
  refine Mi_of (by decide) (Nat.le_of_ble_eq_true rfl) ?_
  intro p e s m below meth c A0 F hr hW ls hl
  obtain ⟨hx, hb, hml, hown, hts, hK, hNW, hlocks, hA, hSX⟩ := id F
  have hl : lv_has ls 2 [(0, .ref (q 0)), (1, .int x1)] := hl
  have hW : Wd G A0 s (cEW G q w) s.heap [] := hW
  show W p l e rmX5_build s m ([.ref (q 0), .int x1] : List Value).toArray below meth c s.heap [] 0 0 (Qi below G (cEW G q o.2) o.1 A0 ([.ref (q 0), .int x1] : List Value).toArray s) (F0 m 0 ls [])
  refine lv_iload_n hx hb dX5_build_0 rfl (lv_at hl 1 rfl) ?_
  obtain ⟨ht_1_0, h⟩ := of_ite h
  by_cases c_1_0 : x1 = (0 : Int32)
  · have h := ht_1_0 c_1_0
    refine x_lookIn c_1_0 hx hb dX5_build_1 rfl (off := (27)) rfl (tgt := 28) (by decide) ?_
    refine lv_aload_n hx hb dX5_build_28 rfl (lv_at hl 0 rfl) ?_
    refine x_get F hW 0 rfl fa_X5_10 rfl dX5_build_29 ?_
    obtain ⟨p_32, hc_32, h⟩ := of_bind h
    refine x_Vi (av := [.ref (q 1)]) (As := []) F hW (c_X4_buildCell l G (fun i => q (i + 1)) w.1 _ hc_32) [1, 2, 3, 4, 5, 6, 7, 8, 9, 10, 11, 12, 13, 14, 15, 16, 17, 18, 19, 20, 21, 22] rfl rfl (by intro q; cases q) cv_X5_176 rfl ⟨_, rfl, rfl⟩ rfl rfl rfl hl (Nat.le_of_ble_eq_true rfl) ⟨Nat.le_of_ble_eq_true rfl, Nat.le_of_ble_eq_true rfl⟩ ⟨rfl, rfl⟩ ⟨Nat.le_of_ble_eq_true rfl, Nat.le_of_ble_eq_true rfl⟩ dX5_build_32 rfl [none, some 0, some 1, some 2, some 3, some 4, some 5, some 6, some 7, some 8, some 9, some 10, some 11, some 12, some 13, some 14, some 15, some 16, some 17, some 18, some 19, some 20, some 21, none, none, none, none, none, none, none, none, none, none, none, none, none, none, none, none] rfl (ws' := cEW G q (p_32.2, w.2.1, w.2.2.1, w.2.2.2.1, w.2.2.2.2.1, w.2.2.2.2.2.1, w.2.2.2.2.2.2.1, w.2.2.2.2.2.2.2)) rfl (fun H locs hW => ?_)
    obtain rfl := Option.some.inj h
    exact x_reti F hr hW rfl dX5_build_35
  have h := h c_1_0
  obtain ⟨ht_1_1, h⟩ := of_ite h
  by_cases c_1_1 : x1 = (1 : Int32)
  · have h := ht_1_1 c_1_1
    refine x_lookIn c_1_1 hx hb dX5_build_1 rfl (off := (35)) rfl (tgt := 36) (by decide) ?_
    refine lv_aload_n hx hb dX5_build_36 rfl (lv_at hl 0 rfl) ?_
    refine x_get F hW 0 rfl fa_X5_10 rfl dX5_build_37 ?_
    refine lv_aload_n hx hb dX5_build_40 rfl (lv_at hl 0 rfl) ?_
    refine x_get F hW 0 rfl fa_X5_10 rfl dX5_build_41 ?_
    obtain ⟨p_44, hc_44, h⟩ := of_bind h
    refine x_Vi (av := [.ref (q 1)]) (As := []) F hW (c_X4_buildCell l G (fun i => q (i + 1)) w.1 _ hc_44) [1, 2, 3, 4, 5, 6, 7, 8, 9, 10, 11, 12, 13, 14, 15, 16, 17, 18, 19, 20, 21, 22] rfl rfl (by intro q; cases q) cv_X5_176 rfl ⟨_, rfl, rfl⟩ rfl rfl rfl hl (Nat.le_of_ble_eq_true rfl) ⟨Nat.le_of_ble_eq_true rfl, Nat.le_of_ble_eq_true rfl⟩ ⟨rfl, rfl⟩ ⟨Nat.le_of_ble_eq_true rfl, Nat.le_of_ble_eq_true rfl⟩ dX5_build_44 rfl [none, some 0, some 1, some 2, some 3, some 4, some 5, some 6, some 7, some 8, some 9, some 10, some 11, some 12, some 13, some 14, some 15, some 16, some 17, some 18, some 19, some 20, some 21, none, none, none, none, none, none, none, none, none, none, none, none, none, none, none, none] rfl (ws' := cEW G q (p_44.2, w.2.1, w.2.2.1, w.2.2.2.1, w.2.2.2.2.1, w.2.2.2.2.2.1, w.2.2.2.2.2.2.1, w.2.2.2.2.2.2.2)) rfl (fun H locs hW => ?_)
    obtain ⟨p_47, hc_47, h⟩ := of_bind h
    refine x_Vi (av := [.ref (q 1), .int p_44.1]) (As := [.int p_44.1]) F hW (c_X4_hangingIfBuilt l G (fun i => q (i + 1)) p_44.2 p_44.1 _ hc_47) [1, 2, 3, 4, 5, 6, 7, 8, 9, 10, 11, 12, 13, 14, 15, 16, 17, 18, 19, 20, 21, 22] rfl rfl (by intro q; cases q) cv_X5_179 rfl ⟨_, rfl, rfl⟩ rfl rfl rfl hl (Nat.le_of_ble_eq_true rfl) ⟨Nat.le_of_ble_eq_true rfl, Nat.le_of_ble_eq_true rfl⟩ ⟨rfl, rfl⟩ ⟨Nat.le_of_ble_eq_true rfl, Nat.le_of_ble_eq_true rfl⟩ dX5_build_47 rfl [none, some 0, some 1, some 2, some 3, some 4, some 5, some 6, some 7, some 8, some 9, some 10, some 11, some 12, some 13, some 14, some 15, some 16, some 17, some 18, some 19, some 20, some 21, none, none, none, none, none, none, none, none, none, none, none, none, none, none, none, none] rfl (ws' := cEW G q (p_47.2, w.2.1, w.2.2.1, w.2.2.2.1, w.2.2.2.2.1, w.2.2.2.2.2.1, w.2.2.2.2.2.2.1, w.2.2.2.2.2.2.2)) rfl (fun H locs hW => ?_)
    obtain rfl := Option.some.inj h
    exact x_reti F hr hW rfl dX5_build_50
  have h := h c_1_1
  refine lv_lookup (off := 50) hx hb dX5_build_1 rfl (by have z0 := x_ne c_1_0 (z := 0) (by decide); have z1 := x_ne c_1_1 (z := 1) (by decide); simp [Op.lookupswitch.offset, z0, Ne.symm z0, z1, Ne.symm z1]) (tgt := 51) (by decide) ?_
  refine lv_aload_n hx hb dX5_build_51 rfl (lv_at hl 0 rfl) ?_
  refine lv_bipush (v := (-2 : Int32)) hx hb dX5_build_52 (by decide) ?_
  obtain ⟨p_54, hc_54, h⟩ := of_bind h
  refine x_Vi (av := [.ref (q 0), .int (-2 : Int32)]) (As := [.int (-2 : Int32)]) F hW (c_X5_refuse l G q w (-2 : Int32) _ hc_54) [0, 1, 2, 3, 4, 5, 6, 7, 8, 9, 10, 11, 12, 13, 14, 15, 16, 17, 18, 19, 20, 21, 22, 23, 24, 25, 26, 27, 28, 29, 30, 31, 32, 33, 34, 35, 36, 37, 38] rfl rfl (by intro q; cases q) cv_X5_44 rfl ⟨_, rfl, rfl⟩ rfl rfl rfl hl (Nat.le_of_ble_eq_true rfl) ⟨Nat.le_of_ble_eq_true rfl, Nat.le_of_ble_eq_true rfl⟩ ⟨rfl, rfl⟩ ⟨Nat.le_of_ble_eq_true rfl, Nat.le_of_ble_eq_true rfl⟩ dX5_build_54 rfl [some 0, some 1, some 2, some 3, some 4, some 5, some 6, some 7, some 8, some 9, some 10, some 11, some 12, some 13, some 14, some 15, some 16, some 17, some 18, some 19, some 20, some 21, some 22, some 23, some 24, some 25, some 26, some 27, some 28, some 29, some 30, some 31, some 32, some 33, some 34, some 35, some 36, some 37, some 38] rfl (ws' := cEW G q p_54.2) rfl (fun H locs hW => ?_)
  obtain rfl := Option.some.inj h
  exact x_reti F hr hW rfl dX5_build_57
def f_X5_fell (w : EW) : Option (Int32 × EW) :=
  Option.bind (f_X4_cellToFell w.1) fun p_4 =>
    some (p_4.1, (p_4.2, w.2.1, w.2.2.1, w.2.2.2.1, w.2.2.2.2.1, w.2.2.2.2.2.1, w.2.2.2.2.2.2.1, w.2.2.2.2.2.2.2))
abbrev rmX5_fell : Room := { frames := 5, cells := 0, slots := 0, locals := 129 }
set_option maxRecDepth 100000 in
set_option maxHeartbeats 4000000 in
theorem c_X5_fell (l : Launch) (G : EnT) (q : Nat → Nat) (w : EW) (o : Int32 × EW) (h : f_X5_fell w = some o) : Mi l yX5_fell rmX5_fell cX5_fell 1 (some .int) G false [.ref (q 0)] (cEW G q w) o.1 (cEW G q o.2) := by
  refine Mi_of (by decide) (Nat.le_of_ble_eq_true rfl) ?_
  intro p e s m below meth c A0 F hr hW ls hl
  obtain ⟨hx, hb, hml, hown, hts, hK, hNW, hlocks, hA, hSX⟩ := id F
  have hl : lv_has ls 1 [(0, .ref (q 0))] := hl
  have hW : Wd G A0 s (cEW G q w) s.heap [] := hW
  show W p l e rmX5_fell s m ([.ref (q 0)] : List Value).toArray below meth c s.heap [] 0 0 (Qi below G (cEW G q o.2) o.1 A0 ([.ref (q 0)] : List Value).toArray s) (F0 m 0 ls [])
  refine lv_aload_n hx hb dX5_fell_0 rfl (lv_at hl 0 rfl) ?_
  refine x_get F hW 0 rfl fa_X5_10 rfl dX5_fell_1 ?_
  obtain ⟨p_4, hc_4, h⟩ := of_bind h
  refine x_Vi (av := [.ref (q 1)]) (As := []) F hW (c_X4_cellToFell l G (fun i => q (i + 1)) w.1 _ hc_4) [1, 2, 3, 4, 5, 6, 7, 8, 9, 10, 11, 12, 13, 14, 15, 16, 17, 18, 19, 20, 21, 22] rfl rfl (by intro q; cases q) cv_X5_182 rfl ⟨_, rfl, rfl⟩ rfl rfl rfl hl (Nat.le_of_ble_eq_true rfl) ⟨Nat.le_of_ble_eq_true rfl, Nat.le_of_ble_eq_true rfl⟩ ⟨rfl, rfl⟩ ⟨Nat.le_of_ble_eq_true rfl, Nat.le_of_ble_eq_true rfl⟩ dX5_fell_4 rfl [none, some 0, some 1, some 2, some 3, some 4, some 5, some 6, some 7, some 8, some 9, some 10, some 11, some 12, some 13, some 14, some 15, some 16, some 17, some 18, some 19, some 20, some 21, none, none, none, none, none, none, none, none, none, none, none, none, none, none, none, none] rfl (ws' := cEW G q (p_4.2, w.2.1, w.2.2.1, w.2.2.2.1, w.2.2.2.2.1, w.2.2.2.2.2.1, w.2.2.2.2.2.2.1, w.2.2.2.2.2.2.2)) rfl (fun H locs hW => ?_)
  obtain rfl := Option.some.inj h
  exact x_reti F hr hW rfl dX5_fell_7
def f_X5_raise (w : EW) : Option (Int32 × EW) :=
  Option.bind (f_X4_houseToRaise w.1) fun p_4 =>
    some (p_4.1, (p_4.2, w.2.1, w.2.2.1, w.2.2.2.1, w.2.2.2.2.1, w.2.2.2.2.2.1, w.2.2.2.2.2.2.1, w.2.2.2.2.2.2.2))
abbrev rmX5_raise : Room := { frames := 5, cells := 0, slots := 0, locals := 129 }
set_option maxRecDepth 100000 in
set_option maxHeartbeats 4000000 in
theorem c_X5_raise (l : Launch) (G : EnT) (q : Nat → Nat) (w : EW) (o : Int32 × EW) (h : f_X5_raise w = some o) : Mi l yX5_raise rmX5_raise cX5_raise 1 (some .int) G false [.ref (q 0)] (cEW G q w) o.1 (cEW G q o.2) := by
  refine Mi_of (by decide) (Nat.le_of_ble_eq_true rfl) ?_
  intro p e s m below meth c A0 F hr hW ls hl
  obtain ⟨hx, hb, hml, hown, hts, hK, hNW, hlocks, hA, hSX⟩ := id F
  have hl : lv_has ls 1 [(0, .ref (q 0))] := hl
  have hW : Wd G A0 s (cEW G q w) s.heap [] := hW
  show W p l e rmX5_raise s m ([.ref (q 0)] : List Value).toArray below meth c s.heap [] 0 0 (Qi below G (cEW G q o.2) o.1 A0 ([.ref (q 0)] : List Value).toArray s) (F0 m 0 ls [])
  refine lv_aload_n hx hb dX5_raise_0 rfl (lv_at hl 0 rfl) ?_
  refine x_get F hW 0 rfl fa_X5_10 rfl dX5_raise_1 ?_
  obtain ⟨p_4, hc_4, h⟩ := of_bind h
  refine x_Vi (av := [.ref (q 1)]) (As := []) F hW (c_X4_houseToRaise l G (fun i => q (i + 1)) w.1 _ hc_4) [1, 2, 3, 4, 5, 6, 7, 8, 9, 10, 11, 12, 13, 14, 15, 16, 17, 18, 19, 20, 21, 22] rfl rfl (by intro q; cases q) cv_X5_185 rfl ⟨_, rfl, rfl⟩ rfl rfl rfl hl (Nat.le_of_ble_eq_true rfl) ⟨Nat.le_of_ble_eq_true rfl, Nat.le_of_ble_eq_true rfl⟩ ⟨rfl, rfl⟩ ⟨Nat.le_of_ble_eq_true rfl, Nat.le_of_ble_eq_true rfl⟩ dX5_raise_4 rfl [none, some 0, some 1, some 2, some 3, some 4, some 5, some 6, some 7, some 8, some 9, some 10, some 11, some 12, some 13, some 14, some 15, some 16, some 17, some 18, some 19, some 20, some 21, none, none, none, none, none, none, none, none, none, none, none, none, none, none, none, none] rfl (ws' := cEW G q (p_4.2, w.2.1, w.2.2.1, w.2.2.2.1, w.2.2.2.2.1, w.2.2.2.2.2.1, w.2.2.2.2.2.2.1, w.2.2.2.2.2.2.2)) rfl (fun H locs hW => ?_)
  obtain rfl := Option.some.inj h
  exact x_reti F hr hW rfl dX5_raise_7
def f_X5_call (w : EW) (x1 : Int32) : Option (Int32 × EW) :=
  Option.bind (f_X5_outside x1 (0 : Int32) (12 : Int32)) fun p_4 =>
    if p_4 = 0 then
    Option.bind (f_X4_fewestCalled w.1 x1) fun p_25 =>
    some (p_25.1, (p_25.2, w.2.1, w.2.2.1, w.2.2.2.1, w.2.2.2.2.1, w.2.2.2.2.2.1, w.2.2.2.2.2.2.1, w.2.2.2.2.2.2.2))
    else
    Option.bind (f_X5_refuse w p_4) fun p_14 =>
    some (p_14.1, p_14.2)
abbrev rmX5_call : Room := { frames := 6, cells := 0, slots := 0, locals := 138 }
set_option maxRecDepth 100000 in
set_option maxHeartbeats 4000000 in
theorem c_X5_call (l : Launch) (G : EnT) (q : Nat → Nat) (w : EW) (x1 : Int32) (o : Int32 × EW) (h : f_X5_call w x1 = some o) : Mi l yX5_call rmX5_call cX5_call 3 (some .int) G false [.ref (q 0), .int x1] (cEW G q w) o.1 (cEW G q o.2) := by
  refine Mi_of (by decide) (Nat.le_of_ble_eq_true rfl) ?_
  intro p e s m below meth c A0 F hr hW ls hl
  obtain ⟨hx, hb, hml, hown, hts, hK, hNW, hlocks, hA, hSX⟩ := id F
  have hl : lv_has ls 3 [(0, .ref (q 0)), (1, .int x1)] := hl
  have hW : Wd G A0 s (cEW G q w) s.heap [] := hW
  show W p l e rmX5_call s m ([.ref (q 0), .int x1] : List Value).toArray below meth c s.heap [] 0 0 (Qi below G (cEW G q o.2) o.1 A0 ([.ref (q 0), .int x1] : List Value).toArray s) (F0 m 0 ls [])
  refine lv_iload_n hx hb dX5_call_0 rfl (lv_at hl 1 rfl) ?_
  refine lv_iconst (v := (0 : Int32)) hx hb dX5_call_1 (by decide) ?_
  refine lv_bipush (v := (12 : Int32)) hx hb dX5_call_2 (by decide) ?_
  obtain ⟨p_4, hc_4, h⟩ := of_bind h
  refine x_Si (av := [.int x1, .int (0 : Int32), .int (12 : Int32)]) F hW (c_X5_outside l G x1 (0 : Int32) (12 : Int32) _ hc_4) [] rfl rfl (by intro q; cases q) cs_X5_108 rfl rfl hl (Nat.le_of_ble_eq_true rfl) ⟨Nat.le_of_ble_eq_true rfl, Nat.le_of_ble_eq_true rfl⟩ ⟨rfl, rfl⟩ ⟨Nat.le_of_ble_eq_true rfl, Nat.le_of_ble_eq_true rfl⟩ dX5_call_4 rfl [none, none, none, none, none, none, none, none, none, none, none, none, none, none, none, none, none, none, none, none, none, none, none, none, none, none, none, none, none, none, none, none, none, none, none, none, none, none, none] rfl (ws' := cEW G q w) rfl (fun H locs hW => ?_)
  refine lv_istore_n (lv' := [(2, .int p_4), (0, .ref (q 0)), (1, .int x1)]) hx hb dX5_call_7 rfl hl (by decide) rfl (fun ls hl => ?_)
  refine lv_iload_n hx hb dX5_call_8 rfl (lv_at hl 0 rfl) ?_
  obtain ⟨ht_9, hf_9⟩ := of_ite h
  refine lv_if_eq (tgt := 20) hx hb dX5_call_9 (by decide) (fun c_9 => ?_) (fun c_9 => ?_)
  · have h := ht_9 c_9
    refine lv_aload_n hx hb dX5_call_20 rfl (lv_at hl 1 rfl) ?_
    refine x_get F hW 0 rfl fa_X5_10 rfl dX5_call_21 ?_
    refine lv_iload_n hx hb dX5_call_24 rfl (lv_at hl 2 rfl) ?_
    obtain ⟨p_25, hc_25, h⟩ := of_bind h
    refine x_Vi (av := [.ref (q 1), .int x1]) (As := [.int x1]) F hW (c_X4_fewestCalled l G (fun i => q (i + 1)) w.1 x1 _ hc_25) [1, 2, 3, 4, 5, 6, 7, 8, 9, 10, 11, 12, 13, 14, 15, 16, 17, 18, 19, 20, 21, 22] rfl rfl (by intro q; cases q) cv_X5_188 rfl ⟨_, rfl, rfl⟩ rfl rfl rfl hl (Nat.le_of_ble_eq_true rfl) ⟨Nat.le_of_ble_eq_true rfl, Nat.le_of_ble_eq_true rfl⟩ ⟨rfl, rfl⟩ ⟨Nat.le_of_ble_eq_true rfl, Nat.le_of_ble_eq_true rfl⟩ dX5_call_25 rfl [none, some 0, some 1, some 2, some 3, some 4, some 5, some 6, some 7, some 8, some 9, some 10, some 11, some 12, some 13, some 14, some 15, some 16, some 17, some 18, some 19, some 20, some 21, none, none, none, none, none, none, none, none, none, none, none, none, none, none, none, none] rfl (ws' := cEW G q (p_25.2, w.2.1, w.2.2.1, w.2.2.2.1, w.2.2.2.2.1, w.2.2.2.2.2.1, w.2.2.2.2.2.2.1, w.2.2.2.2.2.2.2)) rfl (fun H locs hW => ?_)
    obtain rfl := Option.some.inj h
    exact x_reti F hr hW rfl dX5_call_28
  · have h := hf_9 c_9
    refine lv_aload_n hx hb dX5_call_12 rfl (lv_at hl 1 rfl) ?_
    refine lv_iload_n hx hb dX5_call_13 rfl (lv_at hl 0 rfl) ?_
    obtain ⟨p_14, hc_14, h⟩ := of_bind h
    refine x_Vi (av := [.ref (q 0), .int p_4]) (As := [.int p_4]) F hW (c_X5_refuse l G q w p_4 _ hc_14) [0, 1, 2, 3, 4, 5, 6, 7, 8, 9, 10, 11, 12, 13, 14, 15, 16, 17, 18, 19, 20, 21, 22, 23, 24, 25, 26, 27, 28, 29, 30, 31, 32, 33, 34, 35, 36, 37, 38] rfl rfl (by intro q; cases q) cv_X5_44 rfl ⟨_, rfl, rfl⟩ rfl rfl rfl hl (Nat.le_of_ble_eq_true rfl) ⟨Nat.le_of_ble_eq_true rfl, Nat.le_of_ble_eq_true rfl⟩ ⟨rfl, rfl⟩ ⟨Nat.le_of_ble_eq_true rfl, Nat.le_of_ble_eq_true rfl⟩ dX5_call_14 rfl [some 0, some 1, some 2, some 3, some 4, some 5, some 6, some 7, some 8, some 9, some 10, some 11, some 12, some 13, some 14, some 15, some 16, some 17, some 18, some 19, some 20, some 21, some 22, some 23, some 24, some 25, some 26, some 27, some 28, some 29, some 30, some 31, some 32, some 33, some 34, some 35, some 36, some 37, some 38] rfl (ws' := cEW G q p_14.2) rfl (fun H locs hW => ?_)
    refine lv_goto (tgt := 28) hx hb dX5_call_17 (by decide) ?_
    obtain rfl := Option.some.inj h
    exact x_reti F hr hW rfl dX5_call_28
def f_X5_news (w : EW) (x1 : Int32) (x2 : Int32) : Option (Int32 × EW) :=
  Option.bind (f_X1_isHouse w.1.1 x1) fun p_5 =>
    if p_5 = 0 then
    Option.bind (f_X5_refuse w (-1 : Int32)) fun p_13 =>
    some (p_13.1, p_13.2)
    else
    if x2 = (0 : Int32) then
    Option.bind (f_X4_newsLength w.1 x1) fun p_49 =>
    some (p_49.1, (p_49.2, w.2.1, w.2.2.1, w.2.2.2.1, w.2.2.2.2.1, w.2.2.2.2.2.1, w.2.2.2.2.2.2.1, w.2.2.2.2.2.2.2))
    else
    if x2 = (1 : Int32) then
    Option.bind (f_X4_newsNext w.1 x1) fun p_58 =>
    some (p_58.1, (p_58.2, w.2.1, w.2.2.1, w.2.2.2.1, w.2.2.2.2.1, w.2.2.2.2.2.1, w.2.2.2.2.2.2.1, w.2.2.2.2.2.2.2))
    else
    Option.bind (f_X5_refuse w (-2 : Int32)) fun p_65 =>
    some (p_65.1, p_65.2)
abbrev rmX5_news : Room := { frames := 6, cells := 0, slots := 0, locals := 151 }
set_option maxRecDepth 100000 in
set_option maxHeartbeats 4000000 in
theorem c_X5_news (l : Launch) (G : EnT) (q : Nat → Nat) (w : EW) (x1 : Int32) (x2 : Int32) (o : Int32 × EW) (h : f_X5_news w x1 x2 = some o) : Mi l yX5_news rmX5_news cX5_news 3 (some .int) G false [.ref (q 0), .int x1, .int x2] (cEW G q w) o.1 (cEW G q o.2) := by
  refine Mi_of (by decide) (Nat.le_of_ble_eq_true rfl) ?_
  intro p e s m below meth c A0 F hr hW ls hl
  obtain ⟨hx, hb, hml, hown, hts, hK, hNW, hlocks, hA, hSX⟩ := id F
  have hl : lv_has ls 3 [(0, .ref (q 0)), (1, .int x1), (2, .int x2)] := hl
  have hW : Wd G A0 s (cEW G q w) s.heap [] := hW
  show W p l e rmX5_news s m ([.ref (q 0), .int x1, .int x2] : List Value).toArray below meth c s.heap [] 0 0 (Qi below G (cEW G q o.2) o.1 A0 ([.ref (q 0), .int x1, .int x2] : List Value).toArray s) (F0 m 0 ls [])
  refine lv_aload_n hx hb dX5_news_0 rfl (lv_at hl 0 rfl) ?_
  refine x_get F hW 0 rfl fa_X5_20 rfl dX5_news_1 ?_
  refine lv_iload_n hx hb dX5_news_4 rfl (lv_at hl 1 rfl) ?_
  obtain ⟨p_5, hc_5, h⟩ := of_bind h
  refine x_Vi (av := [.ref (q 2), .int x1]) (As := [.int x1]) F hW (c_X1_isHouse l G (fun i => q (i + 2)) w.1.1 x1 _ hc_5) [2, 3, 4, 5, 6, 7] rfl rfl (by intro q; cases q) cv_X5_74 rfl ⟨_, rfl, rfl⟩ rfl rfl rfl hl (Nat.le_of_ble_eq_true rfl) ⟨Nat.le_of_ble_eq_true rfl, Nat.le_of_ble_eq_true rfl⟩ ⟨rfl, rfl⟩ ⟨Nat.le_of_ble_eq_true rfl, Nat.le_of_ble_eq_true rfl⟩ dX5_news_5 rfl [none, none, some 0, some 1, some 2, some 3, some 4, some 5, none, none, none, none, none, none, none, none, none, none, none, none, none, none, none, none, none, none, none, none, none, none, none, none, none, none, none, none, none, none, none] rfl (ws' := cEW G q w) rfl (fun H locs hW => ?_)
  obtain ⟨ht_8, hf_8⟩ := of_ite h
  refine lv_if_ne (tgt := 17) hx hb dX5_news_8 (by decide) (fun c_8 => ?_) (fun c_8 => ?_)
  · have h := hf_8 c_8
    refine lv_iload_n hx hb dX5_news_17 rfl (lv_at hl 2 rfl) ?_
    obtain ⟨ht_18_0, h⟩ := of_ite h
    by_cases c_18_0 : x2 = (0 : Int32)
    · have h := ht_18_0 c_18_0
      refine x_lookIn c_18_0 hx hb dX5_news_18 rfl (off := (26)) rfl (tgt := 44) (by decide) ?_
      refine lv_aload_n hx hb dX5_news_44 rfl (lv_at hl 0 rfl) ?_
      refine x_get F hW 0 rfl fa_X5_10 rfl dX5_news_45 ?_
      refine lv_iload_n hx hb dX5_news_48 rfl (lv_at hl 1 rfl) ?_
      obtain ⟨p_49, hc_49, h⟩ := of_bind h
      refine x_Vi (av := [.ref (q 1), .int x1]) (As := [.int x1]) F hW (c_X4_newsLength l G (fun i => q (i + 1)) w.1 x1 _ hc_49) [1, 2, 3, 4, 5, 6, 7, 8, 9, 10, 11, 12, 13, 14, 15, 16, 17, 18, 19, 20, 21, 22] rfl rfl (by intro q; cases q) cv_X5_191 rfl ⟨_, rfl, rfl⟩ rfl rfl rfl hl (Nat.le_of_ble_eq_true rfl) ⟨Nat.le_of_ble_eq_true rfl, Nat.le_of_ble_eq_true rfl⟩ ⟨rfl, rfl⟩ ⟨Nat.le_of_ble_eq_true rfl, Nat.le_of_ble_eq_true rfl⟩ dX5_news_49 rfl [none, some 0, some 1, some 2, some 3, some 4, some 5, some 6, some 7, some 8, some 9, some 10, some 11, some 12, some 13, some 14, some 15, some 16, some 17, some 18, some 19, some 20, some 21, none, none, none, none, none, none, none, none, none, none, none, none, none, none, none, none] rfl (ws' := cEW G q (p_49.2, w.2.1, w.2.2.1, w.2.2.2.1, w.2.2.2.2.1, w.2.2.2.2.2.1, w.2.2.2.2.2.2.1, w.2.2.2.2.2.2.2)) rfl (fun H locs hW => ?_)
      obtain rfl := Option.some.inj h
      exact x_reti F hr hW rfl dX5_news_52
    have h := h c_18_0
    obtain ⟨ht_18_1, h⟩ := of_ite h
    by_cases c_18_1 : x2 = (1 : Int32)
    · have h := ht_18_1 c_18_1
      refine x_lookIn c_18_1 hx hb dX5_news_18 rfl (off := (35)) rfl (tgt := 53) (by decide) ?_
      refine lv_aload_n hx hb dX5_news_53 rfl (lv_at hl 0 rfl) ?_
      refine x_get F hW 0 rfl fa_X5_10 rfl dX5_news_54 ?_
      refine lv_iload_n hx hb dX5_news_57 rfl (lv_at hl 1 rfl) ?_
      obtain ⟨p_58, hc_58, h⟩ := of_bind h
      refine x_Vi (av := [.ref (q 1), .int x1]) (As := [.int x1]) F hW (c_X4_newsNext l G (fun i => q (i + 1)) w.1 x1 _ hc_58) [1, 2, 3, 4, 5, 6, 7, 8, 9, 10, 11, 12, 13, 14, 15, 16, 17, 18, 19, 20, 21, 22] rfl rfl (by intro q; cases q) cv_X5_194 rfl ⟨_, rfl, rfl⟩ rfl rfl rfl hl (Nat.le_of_ble_eq_true rfl) ⟨Nat.le_of_ble_eq_true rfl, Nat.le_of_ble_eq_true rfl⟩ ⟨rfl, rfl⟩ ⟨Nat.le_of_ble_eq_true rfl, Nat.le_of_ble_eq_true rfl⟩ dX5_news_58 rfl [none, some 0, some 1, some 2, some 3, some 4, some 5, some 6, some 7, some 8, some 9, some 10, some 11, some 12, some 13, some 14, some 15, some 16, some 17, some 18, some 19, some 20, some 21, none, none, none, none, none, none, none, none, none, none, none, none, none, none, none, none] rfl (ws' := cEW G q (p_58.2, w.2.1, w.2.2.1, w.2.2.2.1, w.2.2.2.2.1, w.2.2.2.2.2.1, w.2.2.2.2.2.2.1, w.2.2.2.2.2.2.2)) rfl (fun H locs hW => ?_)
      obtain rfl := Option.some.inj h
      exact x_reti F hr hW rfl dX5_news_61
    have h := h c_18_1
    refine lv_lookup (off := 44) hx hb dX5_news_18 rfl (by have z0 := x_ne c_18_0 (z := 0) (by decide); have z1 := x_ne c_18_1 (z := 1) (by decide); simp [Op.lookupswitch.offset, z0, Ne.symm z0, z1, Ne.symm z1]) (tgt := 62) (by decide) ?_
    refine lv_aload_n hx hb dX5_news_62 rfl (lv_at hl 0 rfl) ?_
    refine lv_bipush (v := (-2 : Int32)) hx hb dX5_news_63 (by decide) ?_
    obtain ⟨p_65, hc_65, h⟩ := of_bind h
    refine x_Vi (av := [.ref (q 0), .int (-2 : Int32)]) (As := [.int (-2 : Int32)]) F hW (c_X5_refuse l G q w (-2 : Int32) _ hc_65) [0, 1, 2, 3, 4, 5, 6, 7, 8, 9, 10, 11, 12, 13, 14, 15, 16, 17, 18, 19, 20, 21, 22, 23, 24, 25, 26, 27, 28, 29, 30, 31, 32, 33, 34, 35, 36, 37, 38] rfl rfl (by intro q; cases q) cv_X5_44 rfl ⟨_, rfl, rfl⟩ rfl rfl rfl hl (Nat.le_of_ble_eq_true rfl) ⟨Nat.le_of_ble_eq_true rfl, Nat.le_of_ble_eq_true rfl⟩ ⟨rfl, rfl⟩ ⟨Nat.le_of_ble_eq_true rfl, Nat.le_of_ble_eq_true rfl⟩ dX5_news_65 rfl [some 0, some 1, some 2, some 3, some 4, some 5, some 6, some 7, some 8, some 9, some 10, some 11, some 12, some 13, some 14, some 15, some 16, some 17, some 18, some 19, some 20, some 21, some 22, some 23, some 24, some 25, some 26, some 27, some 28, some 29, some 30, some 31, some 32, some 33, some 34, some 35, some 36, some 37, some 38] rfl (ws' := cEW G q p_65.2) rfl (fun H locs hW => ?_)
    obtain rfl := Option.some.inj h
    exact x_reti F hr hW rfl dX5_news_68
  · have h := ht_8 c_8
    refine lv_aload_n hx hb dX5_news_11 rfl (lv_at hl 0 rfl) ?_
    refine lv_iconst (v := (-1 : Int32)) hx hb dX5_news_12 (by decide) ?_
    obtain ⟨p_13, hc_13, h⟩ := of_bind h
    refine x_Vi (av := [.ref (q 0), .int (-1 : Int32)]) (As := [.int (-1 : Int32)]) F hW (c_X5_refuse l G q w (-1 : Int32) _ hc_13) [0, 1, 2, 3, 4, 5, 6, 7, 8, 9, 10, 11, 12, 13, 14, 15, 16, 17, 18, 19, 20, 21, 22, 23, 24, 25, 26, 27, 28, 29, 30, 31, 32, 33, 34, 35, 36, 37, 38] rfl rfl (by intro q; cases q) cv_X5_44 rfl ⟨_, rfl, rfl⟩ rfl rfl rfl hl (Nat.le_of_ble_eq_true rfl) ⟨Nat.le_of_ble_eq_true rfl, Nat.le_of_ble_eq_true rfl⟩ ⟨rfl, rfl⟩ ⟨Nat.le_of_ble_eq_true rfl, Nat.le_of_ble_eq_true rfl⟩ dX5_news_13 rfl [some 0, some 1, some 2, some 3, some 4, some 5, some 6, some 7, some 8, some 9, some 10, some 11, some 12, some 13, some 14, some 15, some 16, some 17, some 18, some 19, some 20, some 21, some 22, some 23, some 24, some 25, some 26, some 27, some 28, some 29, some 30, some 31, some 32, some 33, some 34, some 35, some 36, some 37, some 38] rfl (ws' := cEW G q p_13.2) rfl (fun H locs hW => ?_)
    obtain rfl := Option.some.inj h
    exact x_reti F hr hW rfl dX5_news_16
def f_X5_farthest (w : EW) : Option (Int32 × EW) :=
  Option.bind (f_X4_farthestHouse w.1) fun p_4 =>
    some (p_4.1, (p_4.2, w.2.1, w.2.2.1, w.2.2.2.1, w.2.2.2.2.1, w.2.2.2.2.2.1, w.2.2.2.2.2.2.1, w.2.2.2.2.2.2.2))
abbrev rmX5_farthest : Room := { frames := 6, cells := 0, slots := 0, locals := 152 }
set_option maxRecDepth 100000 in
set_option maxHeartbeats 4000000 in
theorem c_X5_farthest (l : Launch) (G : EnT) (q : Nat → Nat) (w : EW) (o : Int32 × EW) (h : f_X5_farthest w = some o) : Mi l yX5_farthest rmX5_farthest cX5_farthest 1 (some .int) G false [.ref (q 0)] (cEW G q w) o.1 (cEW G q o.2) := by
  refine Mi_of (by decide) (Nat.le_of_ble_eq_true rfl) ?_
  intro p e s m below meth c A0 F hr hW ls hl
  obtain ⟨hx, hb, hml, hown, hts, hK, hNW, hlocks, hA, hSX⟩ := id F
  have hl : lv_has ls 1 [(0, .ref (q 0))] := hl
  have hW : Wd G A0 s (cEW G q w) s.heap [] := hW
  show W p l e rmX5_farthest s m ([.ref (q 0)] : List Value).toArray below meth c s.heap [] 0 0 (Qi below G (cEW G q o.2) o.1 A0 ([.ref (q 0)] : List Value).toArray s) (F0 m 0 ls [])
  refine lv_aload_n hx hb dX5_farthest_0 rfl (lv_at hl 0 rfl) ?_
  refine x_get F hW 0 rfl fa_X5_10 rfl dX5_farthest_1 ?_
  obtain ⟨p_4, hc_4, h⟩ := of_bind h
  refine x_Vi (av := [.ref (q 1)]) (As := []) F hW (c_X4_farthestHouse l G (fun i => q (i + 1)) w.1 _ hc_4) [1, 2, 3, 4, 5, 6, 7, 8, 9, 10, 11, 12, 13, 14, 15, 16, 17, 18, 19, 20, 21, 22] rfl rfl (by intro q; cases q) cv_X5_197 rfl ⟨_, rfl, rfl⟩ rfl rfl rfl hl (Nat.le_of_ble_eq_true rfl) ⟨Nat.le_of_ble_eq_true rfl, Nat.le_of_ble_eq_true rfl⟩ ⟨rfl, rfl⟩ ⟨Nat.le_of_ble_eq_true rfl, Nat.le_of_ble_eq_true rfl⟩ dX5_farthest_4 rfl [none, some 0, some 1, some 2, some 3, some 4, some 5, some 6, some 7, some 8, some 9, some 10, some 11, some 12, some 13, some 14, some 15, some 16, some 17, some 18, some 19, some 20, some 21, none, none, none, none, none, none, none, none, none, none, none, none, none, none, none, none] rfl (ws' := cEW G q (p_4.2, w.2.1, w.2.2.1, w.2.2.2.1, w.2.2.2.2.1, w.2.2.2.2.2.1, w.2.2.2.2.2.2.1, w.2.2.2.2.2.2.2)) rfl (fun H locs hW => ?_)
  obtain rfl := Option.some.inj h
  exact x_reti F hr hW rfl dX5_farthest_7
def f_X5_spend (w : EW) (x1 : Int32) : Option (Int32 × EW) :=
  Option.bind (f_X5_outside x1 (0 : Int32) (60 : Int32)) fun p_4 =>
    if p_4 = 0 then
    Option.bind (f_X4_burntIn w.1 x1) fun p_25 =>
    some (p_25.1, (p_25.2, w.2.1, w.2.2.1, w.2.2.2.1, w.2.2.2.2.1, w.2.2.2.2.2.1, w.2.2.2.2.2.2.1, w.2.2.2.2.2.2.2))
    else
    Option.bind (f_X5_refuse w p_4) fun p_14 =>
    some (p_14.1, p_14.2)
abbrev rmX5_spend : Room := { frames := 5, cells := 0, slots := 0, locals := 108 }
set_option maxRecDepth 100000 in
set_option maxHeartbeats 4000000 in
theorem c_X5_spend (l : Launch) (G : EnT) (q : Nat → Nat) (w : EW) (x1 : Int32) (o : Int32 × EW) (h : f_X5_spend w x1 = some o) : Mi l yX5_spend rmX5_spend cX5_spend 3 (some .int) G false [.ref (q 0), .int x1] (cEW G q w) o.1 (cEW G q o.2) := by
  refine Mi_of (by decide) (Nat.le_of_ble_eq_true rfl) ?_
  intro p e s m below meth c A0 F hr hW ls hl
  obtain ⟨hx, hb, hml, hown, hts, hK, hNW, hlocks, hA, hSX⟩ := id F
  have hl : lv_has ls 3 [(0, .ref (q 0)), (1, .int x1)] := hl
  have hW : Wd G A0 s (cEW G q w) s.heap [] := hW
  show W p l e rmX5_spend s m ([.ref (q 0), .int x1] : List Value).toArray below meth c s.heap [] 0 0 (Qi below G (cEW G q o.2) o.1 A0 ([.ref (q 0), .int x1] : List Value).toArray s) (F0 m 0 ls [])
  refine lv_iload_n hx hb dX5_spend_0 rfl (lv_at hl 1 rfl) ?_
  refine lv_iconst (v := (0 : Int32)) hx hb dX5_spend_1 (by decide) ?_
  refine lv_bipush (v := (60 : Int32)) hx hb dX5_spend_2 (by decide) ?_
  obtain ⟨p_4, hc_4, h⟩ := of_bind h
  refine x_Si (av := [.int x1, .int (0 : Int32), .int (60 : Int32)]) F hW (c_X5_outside l G x1 (0 : Int32) (60 : Int32) _ hc_4) [] rfl rfl (by intro q; cases q) cs_X5_108 rfl rfl hl (Nat.le_of_ble_eq_true rfl) ⟨Nat.le_of_ble_eq_true rfl, Nat.le_of_ble_eq_true rfl⟩ ⟨rfl, rfl⟩ ⟨Nat.le_of_ble_eq_true rfl, Nat.le_of_ble_eq_true rfl⟩ dX5_spend_4 rfl [none, none, none, none, none, none, none, none, none, none, none, none, none, none, none, none, none, none, none, none, none, none, none, none, none, none, none, none, none, none, none, none, none, none, none, none, none, none, none] rfl (ws' := cEW G q w) rfl (fun H locs hW => ?_)
  refine lv_istore_n (lv' := [(2, .int p_4), (0, .ref (q 0)), (1, .int x1)]) hx hb dX5_spend_7 rfl hl (by decide) rfl (fun ls hl => ?_)
  refine lv_iload_n hx hb dX5_spend_8 rfl (lv_at hl 0 rfl) ?_
  obtain ⟨ht_9, hf_9⟩ := of_ite h
  refine lv_if_eq (tgt := 20) hx hb dX5_spend_9 (by decide) (fun c_9 => ?_) (fun c_9 => ?_)
  · have h := ht_9 c_9
    refine lv_aload_n hx hb dX5_spend_20 rfl (lv_at hl 1 rfl) ?_
    refine x_get F hW 0 rfl fa_X5_10 rfl dX5_spend_21 ?_
    refine lv_iload_n hx hb dX5_spend_24 rfl (lv_at hl 2 rfl) ?_
    obtain ⟨p_25, hc_25, h⟩ := of_bind h
    refine x_Vi (av := [.ref (q 1), .int x1]) (As := [.int x1]) F hW (c_X4_burntIn l G (fun i => q (i + 1)) w.1 x1 _ hc_25) [1, 2, 3, 4, 5, 6, 7, 8, 9, 10, 11, 12, 13, 14, 15, 16, 17, 18, 19, 20, 21, 22] rfl rfl (by intro q; cases q) cv_X5_200 rfl ⟨_, rfl, rfl⟩ rfl rfl rfl hl (Nat.le_of_ble_eq_true rfl) ⟨Nat.le_of_ble_eq_true rfl, Nat.le_of_ble_eq_true rfl⟩ ⟨rfl, rfl⟩ ⟨Nat.le_of_ble_eq_true rfl, Nat.le_of_ble_eq_true rfl⟩ dX5_spend_25 rfl [none, some 0, some 1, some 2, some 3, some 4, some 5, some 6, some 7, some 8, some 9, some 10, some 11, some 12, some 13, some 14, some 15, some 16, some 17, some 18, some 19, some 20, some 21, none, none, none, none, none, none, none, none, none, none, none, none, none, none, none, none] rfl (ws' := cEW G q (p_25.2, w.2.1, w.2.2.1, w.2.2.2.1, w.2.2.2.2.1, w.2.2.2.2.2.1, w.2.2.2.2.2.2.1, w.2.2.2.2.2.2.2)) rfl (fun H locs hW => ?_)
    obtain rfl := Option.some.inj h
    exact x_reti F hr hW rfl dX5_spend_28
  · have h := hf_9 c_9
    refine lv_aload_n hx hb dX5_spend_12 rfl (lv_at hl 1 rfl) ?_
    refine lv_iload_n hx hb dX5_spend_13 rfl (lv_at hl 0 rfl) ?_
    obtain ⟨p_14, hc_14, h⟩ := of_bind h
    refine x_Vi (av := [.ref (q 0), .int p_4]) (As := [.int p_4]) F hW (c_X5_refuse l G q w p_4 _ hc_14) [0, 1, 2, 3, 4, 5, 6, 7, 8, 9, 10, 11, 12, 13, 14, 15, 16, 17, 18, 19, 20, 21, 22, 23, 24, 25, 26, 27, 28, 29, 30, 31, 32, 33, 34, 35, 36, 37, 38] rfl rfl (by intro q; cases q) cv_X5_44 rfl ⟨_, rfl, rfl⟩ rfl rfl rfl hl (Nat.le_of_ble_eq_true rfl) ⟨Nat.le_of_ble_eq_true rfl, Nat.le_of_ble_eq_true rfl⟩ ⟨rfl, rfl⟩ ⟨Nat.le_of_ble_eq_true rfl, Nat.le_of_ble_eq_true rfl⟩ dX5_spend_14 rfl [some 0, some 1, some 2, some 3, some 4, some 5, some 6, some 7, some 8, some 9, some 10, some 11, some 12, some 13, some 14, some 15, some 16, some 17, some 18, some 19, some 20, some 21, some 22, some 23, some 24, some 25, some 26, some 27, some 28, some 29, some 30, some 31, some 32, some 33, some 34, some 35, some 36, some 37, some 38] rfl (ws' := cEW G q p_14.2) rfl (fun H locs hW => ?_)
    refine lv_goto (tgt := 28) hx hb dX5_spend_17 (by decide) ?_
    obtain rfl := Option.some.inj h
    exact x_reti F hr hW rfl dX5_spend_28
def f_X5_share (w : EW) (x1 : Int32) : Option (Int32 × EW) :=
  Option.bind (f_X5_outside x1 (0 : Int32) (30 : Int32)) fun p_4 =>
    if p_4 = 0 then
    Option.bind (f_X4_bestForAWick w.1 x1) fun p_25 =>
    some (p_25.1, (p_25.2, w.2.1, w.2.2.1, w.2.2.2.1, w.2.2.2.2.1, w.2.2.2.2.2.1, w.2.2.2.2.2.2.1, w.2.2.2.2.2.2.2))
    else
    Option.bind (f_X5_refuse w p_4) fun p_14 =>
    some (p_14.1, p_14.2)
abbrev rmX5_share : Room := { frames := 5, cells := 0, slots := 0, locals := 130 }
set_option maxRecDepth 100000 in
set_option maxHeartbeats 4000000 in
theorem c_X5_share (l : Launch) (G : EnT) (q : Nat → Nat) (w : EW) (x1 : Int32) (o : Int32 × EW) (h : f_X5_share w x1 = some o) : Mi l yX5_share rmX5_share cX5_share 3 (some .int) G false [.ref (q 0), .int x1] (cEW G q w) o.1 (cEW G q o.2) := by
  refine Mi_of (by decide) (Nat.le_of_ble_eq_true rfl) ?_
  intro p e s m below meth c A0 F hr hW ls hl
  obtain ⟨hx, hb, hml, hown, hts, hK, hNW, hlocks, hA, hSX⟩ := id F
  have hl : lv_has ls 3 [(0, .ref (q 0)), (1, .int x1)] := hl
  have hW : Wd G A0 s (cEW G q w) s.heap [] := hW
  show W p l e rmX5_share s m ([.ref (q 0), .int x1] : List Value).toArray below meth c s.heap [] 0 0 (Qi below G (cEW G q o.2) o.1 A0 ([.ref (q 0), .int x1] : List Value).toArray s) (F0 m 0 ls [])
  refine lv_iload_n hx hb dX5_share_0 rfl (lv_at hl 1 rfl) ?_
  refine lv_iconst (v := (0 : Int32)) hx hb dX5_share_1 (by decide) ?_
  refine lv_bipush (v := (30 : Int32)) hx hb dX5_share_2 (by decide) ?_
  obtain ⟨p_4, hc_4, h⟩ := of_bind h
  refine x_Si (av := [.int x1, .int (0 : Int32), .int (30 : Int32)]) F hW (c_X5_outside l G x1 (0 : Int32) (30 : Int32) _ hc_4) [] rfl rfl (by intro q; cases q) cs_X5_108 rfl rfl hl (Nat.le_of_ble_eq_true rfl) ⟨Nat.le_of_ble_eq_true rfl, Nat.le_of_ble_eq_true rfl⟩ ⟨rfl, rfl⟩ ⟨Nat.le_of_ble_eq_true rfl, Nat.le_of_ble_eq_true rfl⟩ dX5_share_4 rfl [none, none, none, none, none, none, none, none, none, none, none, none, none, none, none, none, none, none, none, none, none, none, none, none, none, none, none, none, none, none, none, none, none, none, none, none, none, none, none] rfl (ws' := cEW G q w) rfl (fun H locs hW => ?_)
  refine lv_istore_n (lv' := [(2, .int p_4), (0, .ref (q 0)), (1, .int x1)]) hx hb dX5_share_7 rfl hl (by decide) rfl (fun ls hl => ?_)
  refine lv_iload_n hx hb dX5_share_8 rfl (lv_at hl 0 rfl) ?_
  obtain ⟨ht_9, hf_9⟩ := of_ite h
  refine lv_if_eq (tgt := 20) hx hb dX5_share_9 (by decide) (fun c_9 => ?_) (fun c_9 => ?_)
  · have h := ht_9 c_9
    refine lv_aload_n hx hb dX5_share_20 rfl (lv_at hl 1 rfl) ?_
    refine x_get F hW 0 rfl fa_X5_10 rfl dX5_share_21 ?_
    refine lv_iload_n hx hb dX5_share_24 rfl (lv_at hl 2 rfl) ?_
    obtain ⟨p_25, hc_25, h⟩ := of_bind h
    refine x_Vi (av := [.ref (q 1), .int x1]) (As := [.int x1]) F hW (c_X4_bestForAWick l G (fun i => q (i + 1)) w.1 x1 _ hc_25) [1, 2, 3, 4, 5, 6, 7, 8, 9, 10, 11, 12, 13, 14, 15, 16, 17, 18, 19, 20, 21, 22] rfl rfl (by intro q; cases q) cv_X5_203 rfl ⟨_, rfl, rfl⟩ rfl rfl rfl hl (Nat.le_of_ble_eq_true rfl) ⟨Nat.le_of_ble_eq_true rfl, Nat.le_of_ble_eq_true rfl⟩ ⟨rfl, rfl⟩ ⟨Nat.le_of_ble_eq_true rfl, Nat.le_of_ble_eq_true rfl⟩ dX5_share_25 rfl [none, some 0, some 1, some 2, some 3, some 4, some 5, some 6, some 7, some 8, some 9, some 10, some 11, some 12, some 13, some 14, some 15, some 16, some 17, some 18, some 19, some 20, some 21, none, none, none, none, none, none, none, none, none, none, none, none, none, none, none, none] rfl (ws' := cEW G q (p_25.2, w.2.1, w.2.2.1, w.2.2.2.1, w.2.2.2.2.1, w.2.2.2.2.2.1, w.2.2.2.2.2.2.1, w.2.2.2.2.2.2.2)) rfl (fun H locs hW => ?_)
    obtain rfl := Option.some.inj h
    exact x_reti F hr hW rfl dX5_share_28
  · have h := hf_9 c_9
    refine lv_aload_n hx hb dX5_share_12 rfl (lv_at hl 1 rfl) ?_
    refine lv_iload_n hx hb dX5_share_13 rfl (lv_at hl 0 rfl) ?_
    obtain ⟨p_14, hc_14, h⟩ := of_bind h
    refine x_Vi (av := [.ref (q 0), .int p_4]) (As := [.int p_4]) F hW (c_X5_refuse l G q w p_4 _ hc_14) [0, 1, 2, 3, 4, 5, 6, 7, 8, 9, 10, 11, 12, 13, 14, 15, 16, 17, 18, 19, 20, 21, 22, 23, 24, 25, 26, 27, 28, 29, 30, 31, 32, 33, 34, 35, 36, 37, 38] rfl rfl (by intro q; cases q) cv_X5_44 rfl ⟨_, rfl, rfl⟩ rfl rfl rfl hl (Nat.le_of_ble_eq_true rfl) ⟨Nat.le_of_ble_eq_true rfl, Nat.le_of_ble_eq_true rfl⟩ ⟨rfl, rfl⟩ ⟨Nat.le_of_ble_eq_true rfl, Nat.le_of_ble_eq_true rfl⟩ dX5_share_14 rfl [some 0, some 1, some 2, some 3, some 4, some 5, some 6, some 7, some 8, some 9, some 10, some 11, some 12, some 13, some 14, some 15, some 16, some 17, some 18, some 19, some 20, some 21, some 22, some 23, some 24, some 25, some 26, some 27, some 28, some 29, some 30, some 31, some 32, some 33, some 34, some 35, some 36, some 37, some 38] rfl (ws' := cEW G q p_14.2) rfl (fun H locs hW => ?_)
    refine lv_goto (tgt := 28) hx hb dX5_share_17 (by decide) ?_
    obtain rfl := Option.some.inj h
    exact x_reti F hr hW rfl dX5_share_28
def f_X5_longest (w : EW) (x1 : Int32) : Option (Int32 × EW) :=
  Option.bind (f_X5_outside x1 (0 : Int32) (60 : Int32)) fun p_4 =>
    if p_4 = 0 then
    Option.bind (f_X4_mostHanging w.1 x1) fun p_25 =>
    some (p_25.1, (p_25.2, w.2.1, w.2.2.1, w.2.2.2.1, w.2.2.2.2.1, w.2.2.2.2.2.1, w.2.2.2.2.2.2.1, w.2.2.2.2.2.2.2))
    else
    Option.bind (f_X5_refuse w p_4) fun p_14 =>
    some (p_14.1, p_14.2)
abbrev rmX5_longest : Room := { frames := 5, cells := 0, slots := 0, locals := 128 }
set_option maxRecDepth 100000 in
set_option maxHeartbeats 4000000 in
theorem c_X5_longest (l : Launch) (G : EnT) (q : Nat → Nat) (w : EW) (x1 : Int32) (o : Int32 × EW) (h : f_X5_longest w x1 = some o) : Mi l yX5_longest rmX5_longest cX5_longest 3 (some .int) G false [.ref (q 0), .int x1] (cEW G q w) o.1 (cEW G q o.2) := by
  refine Mi_of (by decide) (Nat.le_of_ble_eq_true rfl) ?_
  intro p e s m below meth c A0 F hr hW ls hl
  obtain ⟨hx, hb, hml, hown, hts, hK, hNW, hlocks, hA, hSX⟩ := id F
  have hl : lv_has ls 3 [(0, .ref (q 0)), (1, .int x1)] := hl
  have hW : Wd G A0 s (cEW G q w) s.heap [] := hW
  show W p l e rmX5_longest s m ([.ref (q 0), .int x1] : List Value).toArray below meth c s.heap [] 0 0 (Qi below G (cEW G q o.2) o.1 A0 ([.ref (q 0), .int x1] : List Value).toArray s) (F0 m 0 ls [])
  refine lv_iload_n hx hb dX5_longest_0 rfl (lv_at hl 1 rfl) ?_
  refine lv_iconst (v := (0 : Int32)) hx hb dX5_longest_1 (by decide) ?_
  refine lv_bipush (v := (60 : Int32)) hx hb dX5_longest_2 (by decide) ?_
  obtain ⟨p_4, hc_4, h⟩ := of_bind h
  refine x_Si (av := [.int x1, .int (0 : Int32), .int (60 : Int32)]) F hW (c_X5_outside l G x1 (0 : Int32) (60 : Int32) _ hc_4) [] rfl rfl (by intro q; cases q) cs_X5_108 rfl rfl hl (Nat.le_of_ble_eq_true rfl) ⟨Nat.le_of_ble_eq_true rfl, Nat.le_of_ble_eq_true rfl⟩ ⟨rfl, rfl⟩ ⟨Nat.le_of_ble_eq_true rfl, Nat.le_of_ble_eq_true rfl⟩ dX5_longest_4 rfl [none, none, none, none, none, none, none, none, none, none, none, none, none, none, none, none, none, none, none, none, none, none, none, none, none, none, none, none, none, none, none, none, none, none, none, none, none, none, none] rfl (ws' := cEW G q w) rfl (fun H locs hW => ?_)
  refine lv_istore_n (lv' := [(2, .int p_4), (0, .ref (q 0)), (1, .int x1)]) hx hb dX5_longest_7 rfl hl (by decide) rfl (fun ls hl => ?_)
  refine lv_iload_n hx hb dX5_longest_8 rfl (lv_at hl 0 rfl) ?_
  obtain ⟨ht_9, hf_9⟩ := of_ite h
  refine lv_if_eq (tgt := 20) hx hb dX5_longest_9 (by decide) (fun c_9 => ?_) (fun c_9 => ?_)
  · have h := ht_9 c_9
    refine lv_aload_n hx hb dX5_longest_20 rfl (lv_at hl 1 rfl) ?_
    refine x_get F hW 0 rfl fa_X5_10 rfl dX5_longest_21 ?_
    refine lv_iload_n hx hb dX5_longest_24 rfl (lv_at hl 2 rfl) ?_
    obtain ⟨p_25, hc_25, h⟩ := of_bind h
    refine x_Vi (av := [.ref (q 1), .int x1]) (As := [.int x1]) F hW (c_X4_mostHanging l G (fun i => q (i + 1)) w.1 x1 _ hc_25) [1, 2, 3, 4, 5, 6, 7, 8, 9, 10, 11, 12, 13, 14, 15, 16, 17, 18, 19, 20, 21, 22] rfl rfl (by intro q; cases q) cv_X5_206 rfl ⟨_, rfl, rfl⟩ rfl rfl rfl hl (Nat.le_of_ble_eq_true rfl) ⟨Nat.le_of_ble_eq_true rfl, Nat.le_of_ble_eq_true rfl⟩ ⟨rfl, rfl⟩ ⟨Nat.le_of_ble_eq_true rfl, Nat.le_of_ble_eq_true rfl⟩ dX5_longest_25 rfl [none, some 0, some 1, some 2, some 3, some 4, some 5, some 6, some 7, some 8, some 9, some 10, some 11, some 12, some 13, some 14, some 15, some 16, some 17, some 18, some 19, some 20, some 21, none, none, none, none, none, none, none, none, none, none, none, none, none, none, none, none] rfl (ws' := cEW G q (p_25.2, w.2.1, w.2.2.1, w.2.2.2.1, w.2.2.2.2.1, w.2.2.2.2.2.1, w.2.2.2.2.2.2.1, w.2.2.2.2.2.2.2)) rfl (fun H locs hW => ?_)
    obtain rfl := Option.some.inj h
    exact x_reti F hr hW rfl dX5_longest_28
  · have h := hf_9 c_9
    refine lv_aload_n hx hb dX5_longest_12 rfl (lv_at hl 1 rfl) ?_
    refine lv_iload_n hx hb dX5_longest_13 rfl (lv_at hl 0 rfl) ?_
    obtain ⟨p_14, hc_14, h⟩ := of_bind h
    refine x_Vi (av := [.ref (q 0), .int p_4]) (As := [.int p_4]) F hW (c_X5_refuse l G q w p_4 _ hc_14) [0, 1, 2, 3, 4, 5, 6, 7, 8, 9, 10, 11, 12, 13, 14, 15, 16, 17, 18, 19, 20, 21, 22, 23, 24, 25, 26, 27, 28, 29, 30, 31, 32, 33, 34, 35, 36, 37, 38] rfl rfl (by intro q; cases q) cv_X5_44 rfl ⟨_, rfl, rfl⟩ rfl rfl rfl hl (Nat.le_of_ble_eq_true rfl) ⟨Nat.le_of_ble_eq_true rfl, Nat.le_of_ble_eq_true rfl⟩ ⟨rfl, rfl⟩ ⟨Nat.le_of_ble_eq_true rfl, Nat.le_of_ble_eq_true rfl⟩ dX5_longest_14 rfl [some 0, some 1, some 2, some 3, some 4, some 5, some 6, some 7, some 8, some 9, some 10, some 11, some 12, some 13, some 14, some 15, some 16, some 17, some 18, some 19, some 20, some 21, some 22, some 23, some 24, some 25, some 26, some 27, some 28, some 29, some 30, some 31, some 32, some 33, some 34, some 35, some 36, some 37, some 38] rfl (ws' := cEW G q p_14.2) rfl (fun H locs hW => ?_)
    refine lv_goto (tgt := 28) hx hb dX5_longest_17 (by decide) ?_
    obtain rfl := Option.some.inj h
    exact x_reti F hr hW rfl dX5_longest_28
def f_X5_fogged (w : EW) : Option (Int32 × EW) :=
  Option.bind (f_X4_leastFogOfNobody w.1) fun p_4 =>
    some (p_4.1, (p_4.2, w.2.1, w.2.2.1, w.2.2.2.1, w.2.2.2.2.1, w.2.2.2.2.2.1, w.2.2.2.2.2.2.1, w.2.2.2.2.2.2.2))
abbrev rmX5_fogged : Room := { frames := 5, cells := 0, slots := 0, locals := 120 }
set_option maxRecDepth 100000 in
set_option maxHeartbeats 4000000 in
theorem c_X5_fogged (l : Launch) (G : EnT) (q : Nat → Nat) (w : EW) (o : Int32 × EW) (h : f_X5_fogged w = some o) : Mi l yX5_fogged rmX5_fogged cX5_fogged 1 (some .int) G false [.ref (q 0)] (cEW G q w) o.1 (cEW G q o.2) := by
  refine Mi_of (by decide) (Nat.le_of_ble_eq_true rfl) ?_
  intro p e s m below meth c A0 F hr hW ls hl
  obtain ⟨hx, hb, hml, hown, hts, hK, hNW, hlocks, hA, hSX⟩ := id F
  have hl : lv_has ls 1 [(0, .ref (q 0))] := hl
  have hW : Wd G A0 s (cEW G q w) s.heap [] := hW
  show W p l e rmX5_fogged s m ([.ref (q 0)] : List Value).toArray below meth c s.heap [] 0 0 (Qi below G (cEW G q o.2) o.1 A0 ([.ref (q 0)] : List Value).toArray s) (F0 m 0 ls [])
  refine lv_aload_n hx hb dX5_fogged_0 rfl (lv_at hl 0 rfl) ?_
  refine x_get F hW 0 rfl fa_X5_10 rfl dX5_fogged_1 ?_
  obtain ⟨p_4, hc_4, h⟩ := of_bind h
  refine x_Vi (av := [.ref (q 1)]) (As := []) F hW (c_X4_leastFogOfNobody l G (fun i => q (i + 1)) w.1 _ hc_4) [1, 2, 3, 4, 5, 6, 7, 8, 9, 10, 11, 12, 13, 14, 15, 16, 17, 18, 19, 20, 21, 22] rfl rfl (by intro q; cases q) cv_X5_209 rfl ⟨_, rfl, rfl⟩ rfl rfl rfl hl (Nat.le_of_ble_eq_true rfl) ⟨Nat.le_of_ble_eq_true rfl, Nat.le_of_ble_eq_true rfl⟩ ⟨rfl, rfl⟩ ⟨Nat.le_of_ble_eq_true rfl, Nat.le_of_ble_eq_true rfl⟩ dX5_fogged_4 rfl [none, some 0, some 1, some 2, some 3, some 4, some 5, some 6, some 7, some 8, some 9, some 10, some 11, some 12, some 13, some 14, some 15, some 16, some 17, some 18, some 19, some 20, some 21, none, none, none, none, none, none, none, none, none, none, none, none, none, none, none, none] rfl (ws' := cEW G q (p_4.2, w.2.1, w.2.2.1, w.2.2.2.1, w.2.2.2.2.1, w.2.2.2.2.2.1, w.2.2.2.2.2.2.1, w.2.2.2.2.2.2.2)) rfl (fun H locs hW => ?_)
  obtain rfl := Option.some.inj h
  exact x_reti F hr hW rfl dX5_fogged_7
def f_X5_highest_4 (w : EW) : Nat → Int32 → Int32 → Option (Int32)
  | 0, _, _ => none
  | n0 + 1, v2_4, v1_4 =>
    if (20 : Int32) ≤ v2_4 then
    some v1_4
    else
    if inR v2_4 20 then
    if inR v1_4 20 then
    if (w.1.1.1 v2_4.toNatClampNeg) ≤ (w.1.1.1 v1_4.toNatClampNeg) then
    f_X5_highest_4 w n0 (v2_4 + (1 : Int32)) v1_4
    else
    f_X5_highest_4 w n0 (v2_4 + (1 : Int32)) v2_4
    else none
    else none
def f_X5_highest (w : EW) : Option (Int32) :=
  f_X5_highest_4 w 200 (1 : Int32) (0 : Int32)
abbrev rmX5_highest : Room := { frames := 0, cells := 0, slots := 0, locals := 0 }
set_option maxRecDepth 100000 in
set_option maxHeartbeats 4000000 in
theorem c_X5_highest (l : Launch) (G : EnT) (q : Nat → Nat) (w : EW) (o : Int32) (h : f_X5_highest w = some o) : Mi l yX5_highest rmX5_highest cX5_highest 3 (some .int) G false [.ref (q 0)] (cEW G q w) o (cEW G q w) := by
  refine Mi_of (by decide) (Nat.le_of_ble_eq_true rfl) ?_
  intro p e s m below meth c A0 F hr hW ls hl
  obtain ⟨hx, hb, hml, hown, hts, hK, hNW, hlocks, hA, hSX⟩ := id F
  have hl : lv_has ls 3 [(0, .ref (q 0))] := hl
  have hW : Wd G A0 s (cEW G q w) s.heap [] := hW
  show W p l e rmX5_highest s m ([.ref (q 0)] : List Value).toArray below meth c s.heap [] 0 0 (Qi below G (cEW G q w) o A0 ([.ref (q 0)] : List Value).toArray s) (F0 m 0 ls [])
  refine lv_iconst (v := (0 : Int32)) hx hb dX5_highest_0 (by decide) ?_
  refine lv_istore_n (lv' := [(1, .int (0 : Int32)), (0, .ref (q 0))]) hx hb dX5_highest_1 rfl hl (by decide) rfl (fun ls hl => ?_)
  refine lv_iconst (v := (1 : Int32)) hx hb dX5_highest_2 (by decide) ?_
  refine lv_istore_n (lv' := [(2, .int (1 : Int32)), (1, .int (0 : Int32)), (0, .ref (q 0))]) hx hb dX5_highest_3 rfl hl (by decide) rfl (fun ls hl => ?_)
  have L0 : ∀ (n0 : Nat) (v2_4 : Int32) (v1_4 : Int32) (H : Heap) (locs : List Loc) (ls : Array Slot), f_X5_highest_4 w n0 v2_4 v1_4 = some o → Wd G A0 s (cEW G q w) H locs → lv_has ls 3 [(2, .int v2_4), (1, .int v1_4), (0, .ref (q 0))] → W p l e rmX5_highest s m ([.ref (q 0)] : List Value).toArray below meth c H locs 0 0 (Qi below G (cEW G q w) o A0 ([.ref (q 0)] : List Value).toArray s) (F0 m 4 ls []) := by
    intro n0
    induction n0 with
    | zero => intro v2_4 v1_4 H locs ls h; cases (show (none : Option (Int32)) = some o from h)
    | succ n0 ih0 =>
      intro v2_4 v1_4 H locs ls h hW hl
      refine lv_iload_n hx hb dX5_highest_4 rfl (lv_at hl 0 rfl) ?_
      refine lv_bipush (v := (20 : Int32)) hx hb dX5_highest_5 (by decide) ?_
      obtain ⟨ht_7, hf_7⟩ := of_ite h
      refine lv_icmp_ge (tgt := 39) hx hb dX5_highest_7 (by decide) (fun c_7 => ?_) (fun c_7 => ?_)
      · have h := ht_7 c_7
        refine lv_iload_n hx hb dX5_highest_39 rfl (lv_at hl 1 rfl) ?_
        obtain rfl := Option.some.inj h
        exact x_reti F hr hW rfl dX5_highest_40
      · have h := hf_7 c_7
        refine lv_aload_n hx hb dX5_highest_10 rfl (lv_at hl 2 rfl) ?_
        refine x_get F hW 0 rfl fa_X5_20 rfl dX5_highest_11 ?_
        refine x_get F hW 2 rfl fa_X5_105 rfl dX5_highest_14 ?_
        refine lv_iload_n hx hb dX5_highest_17 rfl (lv_at hl 0 rfl) ?_
        obtain ⟨g_18, h⟩ := of_guard h
        refine x_iald F hW 3 rfl g_18 dX5_highest_18 ?_
        refine lv_aload_n hx hb dX5_highest_19 rfl (lv_at hl 2 rfl) ?_
        refine x_get F hW 0 rfl fa_X5_20 rfl dX5_highest_20 ?_
        refine x_get F hW 2 rfl fa_X5_105 rfl dX5_highest_23 ?_
        refine lv_iload_n hx hb dX5_highest_26 rfl (lv_at hl 1 rfl) ?_
        obtain ⟨g_27, h⟩ := of_guard h
        refine x_iald F hW 3 rfl g_27 dX5_highest_27 ?_
        obtain ⟨ht_28, hf_28⟩ := of_ite h
        refine lv_icmp_le (tgt := 33) hx hb dX5_highest_28 (by decide) (fun c_28 => ?_) (fun c_28 => ?_)
        · have h := ht_28 c_28
          refine lv_iinc (v := (v2_4 + (1 : Int32))) (lv' := [(2, .int (v2_4 + (1 : Int32))), (1, .int v1_4), (0, .ref (q 0))]) hx hb dX5_highest_33 hl (k := 0) rfl rfl (by decide) rfl (fun ls hl => ?_)
          refine lv_goto (tgt := 4) hx hb dX5_highest_36 (by decide) ?_
          exact ih0 (v2_4 + (1 : Int32)) v1_4 _ _ _ h hW (lv_sub hl [0, 1, 2] rfl)
        · have h := hf_28 c_28
          refine lv_iload_n hx hb dX5_highest_31 rfl (lv_at hl 0 rfl) ?_
          refine lv_istore_n (lv' := [(1, .int v2_4), (2, .int v2_4), (0, .ref (q 0))]) hx hb dX5_highest_32 rfl hl (by decide) rfl (fun ls hl => ?_)
          refine lv_iinc (v := (v2_4 + (1 : Int32))) (lv' := [(2, .int (v2_4 + (1 : Int32))), (1, .int v2_4), (0, .ref (q 0))]) hx hb dX5_highest_33 hl (k := 1) rfl rfl (by decide) rfl (fun ls hl => ?_)
          refine lv_goto (tgt := 4) hx hb dX5_highest_36 (by decide) ?_
          exact ih0 (v2_4 + (1 : Int32)) v2_4 _ _ _ h hW (lv_sub hl [0, 1, 2] rfl)
  exact L0 200 (1 : Int32) (0 : Int32) _ _ _ h hW (lv_sub hl [0, 1, 2] rfl)
def f_X5_two (w : EW) (x1 : Int32) (x2 : Int32) : Option (Int32 × EW) :=
  Option.bind (f_X5_areTwo w x1 x2) fun p_3 =>
    if p_3 = 0 then
    Option.bind (f_X5_refuse w (-1 : Int32)) fun p_23 =>
    some (p_23.1, p_23.2)
    else
    Option.bind (f_X4_pairAtRest w.1 x1 x2) fun p_15 =>
    some (p_15.1, (p_15.2, w.2.1, w.2.2.1, w.2.2.2.1, w.2.2.2.2.1, w.2.2.2.2.2.1, w.2.2.2.2.2.2.1, w.2.2.2.2.2.2.2))
abbrev rmX5_two : Room := { frames := 6, cells := 0, slots := 0, locals := 139 }
set_option maxRecDepth 100000 in
set_option maxHeartbeats 4000000 in
theorem c_X5_two (l : Launch) (G : EnT) (q : Nat → Nat) (w : EW) (x1 : Int32) (x2 : Int32) (o : Int32 × EW) (h : f_X5_two w x1 x2 = some o) : Mi l yX5_two rmX5_two cX5_two 3 (some .int) G false [.ref (q 0), .int x1, .int x2] (cEW G q w) o.1 (cEW G q o.2) := by
  refine Mi_of (by decide) (Nat.le_of_ble_eq_true rfl) ?_
  intro p e s m below meth c A0 F hr hW ls hl
  obtain ⟨hx, hb, hml, hown, hts, hK, hNW, hlocks, hA, hSX⟩ := id F
  have hl : lv_has ls 3 [(0, .ref (q 0)), (1, .int x1), (2, .int x2)] := hl
  have hW : Wd G A0 s (cEW G q w) s.heap [] := hW
  show W p l e rmX5_two s m ([.ref (q 0), .int x1, .int x2] : List Value).toArray below meth c s.heap [] 0 0 (Qi below G (cEW G q o.2) o.1 A0 ([.ref (q 0), .int x1, .int x2] : List Value).toArray s) (F0 m 0 ls [])
  refine lv_aload_n hx hb dX5_two_0 rfl (lv_at hl 0 rfl) ?_
  refine lv_iload_n hx hb dX5_two_1 rfl (lv_at hl 1 rfl) ?_
  refine lv_iload_n hx hb dX5_two_2 rfl (lv_at hl 2 rfl) ?_
  obtain ⟨p_3, hc_3, h⟩ := of_bind h
  refine x_Vi (av := [.ref (q 0), .int x1, .int x2]) (As := [.int x1, .int x2]) F hW (c_X5_areTwo l G q w x1 x2 _ hc_3) [0, 1, 2, 3, 4, 5, 6, 7, 8, 9, 10, 11, 12, 13, 14, 15, 16, 17, 18, 19, 20, 21, 22, 23, 24, 25, 26, 27, 28, 29, 30, 31, 32, 33, 34, 35, 36, 37, 38] rfl rfl (by intro q; cases q) cv_X5_158 rfl ⟨_, rfl, rfl⟩ rfl rfl rfl hl (Nat.le_of_ble_eq_true rfl) ⟨Nat.le_of_ble_eq_true rfl, Nat.le_of_ble_eq_true rfl⟩ ⟨rfl, rfl⟩ ⟨Nat.le_of_ble_eq_true rfl, Nat.le_of_ble_eq_true rfl⟩ dX5_two_3 rfl [some 0, some 1, some 2, some 3, some 4, some 5, some 6, some 7, some 8, some 9, some 10, some 11, some 12, some 13, some 14, some 15, some 16, some 17, some 18, some 19, some 20, some 21, some 22, some 23, some 24, some 25, some 26, some 27, some 28, some 29, some 30, some 31, some 32, some 33, some 34, some 35, some 36, some 37, some 38] rfl (ws' := cEW G q w) rfl (fun H locs hW => ?_)
  obtain ⟨ht_6, hf_6⟩ := of_ite h
  refine lv_if_eq (tgt := 21) hx hb dX5_two_6 (by decide) (fun c_6 => ?_) (fun c_6 => ?_)
  · have h := ht_6 c_6
    refine lv_aload_n hx hb dX5_two_21 rfl (lv_at hl 0 rfl) ?_
    refine lv_iconst (v := (-1 : Int32)) hx hb dX5_two_22 (by decide) ?_
    obtain ⟨p_23, hc_23, h⟩ := of_bind h
    refine x_Vi (av := [.ref (q 0), .int (-1 : Int32)]) (As := [.int (-1 : Int32)]) F hW (c_X5_refuse l G q w (-1 : Int32) _ hc_23) [0, 1, 2, 3, 4, 5, 6, 7, 8, 9, 10, 11, 12, 13, 14, 15, 16, 17, 18, 19, 20, 21, 22, 23, 24, 25, 26, 27, 28, 29, 30, 31, 32, 33, 34, 35, 36, 37, 38] rfl rfl (by intro q; cases q) cv_X5_44 rfl ⟨_, rfl, rfl⟩ rfl rfl rfl hl (Nat.le_of_ble_eq_true rfl) ⟨Nat.le_of_ble_eq_true rfl, Nat.le_of_ble_eq_true rfl⟩ ⟨rfl, rfl⟩ ⟨Nat.le_of_ble_eq_true rfl, Nat.le_of_ble_eq_true rfl⟩ dX5_two_23 rfl [some 0, some 1, some 2, some 3, some 4, some 5, some 6, some 7, some 8, some 9, some 10, some 11, some 12, some 13, some 14, some 15, some 16, some 17, some 18, some 19, some 20, some 21, some 22, some 23, some 24, some 25, some 26, some 27, some 28, some 29, some 30, some 31, some 32, some 33, some 34, some 35, some 36, some 37, some 38] rfl (ws' := cEW G q p_23.2) rfl (fun H locs hW => ?_)
    obtain rfl := Option.some.inj h
    exact x_reti F hr hW rfl dX5_two_26
  · have h := hf_6 c_6
    refine lv_aload_n hx hb dX5_two_9 rfl (lv_at hl 0 rfl) ?_
    refine x_get F hW 0 rfl fa_X5_10 rfl dX5_two_10 ?_
    refine lv_iload_n hx hb dX5_two_13 rfl (lv_at hl 1 rfl) ?_
    refine lv_iload_n hx hb dX5_two_14 rfl (lv_at hl 2 rfl) ?_
    obtain ⟨p_15, hc_15, h⟩ := of_bind h
    refine x_Vi (av := [.ref (q 1), .int x1, .int x2]) (As := [.int x1, .int x2]) F hW (c_X4_pairAtRest l G (fun i => q (i + 1)) w.1 x1 x2 _ hc_15) [1, 2, 3, 4, 5, 6, 7, 8, 9, 10, 11, 12, 13, 14, 15, 16, 17, 18, 19, 20, 21, 22] rfl rfl (by intro q; cases q) cv_X5_212 rfl ⟨_, rfl, rfl⟩ rfl rfl rfl hl (Nat.le_of_ble_eq_true rfl) ⟨Nat.le_of_ble_eq_true rfl, Nat.le_of_ble_eq_true rfl⟩ ⟨rfl, rfl⟩ ⟨Nat.le_of_ble_eq_true rfl, Nat.le_of_ble_eq_true rfl⟩ dX5_two_15 rfl [none, some 0, some 1, some 2, some 3, some 4, some 5, some 6, some 7, some 8, some 9, some 10, some 11, some 12, some 13, some 14, some 15, some 16, some 17, some 18, some 19, some 20, some 21, none, none, none, none, none, none, none, none, none, none, none, none, none, none, none, none] rfl (ws' := cEW G q (p_15.2, w.2.1, w.2.2.1, w.2.2.2.1, w.2.2.2.2.1, w.2.2.2.2.2.1, w.2.2.2.2.2.2.1, w.2.2.2.2.2.2.2)) rfl (fun H locs hW => ?_)
    refine lv_goto (tgt := 26) hx hb dX5_two_18 (by decide) ?_
    obtain rfl := Option.some.inj h
    exact x_reti F hr hW rfl dX5_two_26
def f_X5_commonDivisor_9 : Nat → Int32 → Int64 → Int64 → Option (Int64)
  | 0, _, _, _ => none
  | n0 + 1, v8_9, v6_9, v4_9 =>
    if (100 : Int32) ≤ v8_9 then
    some v4_9
    else
    if (lg_cmp v6_9 (0 : Int64)) = 0 then
    some v4_9
    else
    if v6_9 = 0 then none else
    nm (remL v4_9 v6_9) fun x_28 =>
    f_X5_commonDivisor_9 n0 (v8_9 + (1 : Int32)) x_28 v6_9
def f_X5_commonDivisor (x1 : Int64) (x2 : Int64) : Option (Int64) :=
  f_X5_commonDivisor_9 200 (0 : Int32) x2 x1
abbrev rmX5_commonDivisor : Room := { frames := 0, cells := 0, slots := 0, locals := 0 }
set_option maxRecDepth 100000 in
set_option maxHeartbeats 4000000 in
theorem c_X5_commonDivisor (l : Launch) (G : EnT) (x1 : Int64) (x2 : Int64) (o : Int64) (h : f_X5_commonDivisor x1 x2 = some o) : Ml l yX5_commonDivisor rmX5_commonDivisor cX5_commonDivisor 11 (some .long) G false [.long x1, .long x2] ([]) o ([]) := by
  refine Ml_of (by decide) (Nat.le_of_ble_eq_true rfl) ?_
  intro p e s m below meth c A0 F hr hW ls hl
  obtain ⟨hx, hb, hml, hown, hts, hK, hNW, hlocks, hA, hSX⟩ := id F
  have hl : lv_has ls 11 [(0, .long x1), (2, .long x2)] := hl
  have hW : Wd G A0 s ([]) s.heap [] := hW
  show W p l e rmX5_commonDivisor s m ([.long x1, .long x2] : List Value).toArray below meth c s.heap [] 0 0 (Ql below G ([]) o A0 ([.long x1, .long x2] : List Value).toArray s) (F0 m 0 ls [])
  refine lv_lload_n hx hb dX5_commonDivisor_0 rfl (lv_at hl 0 rfl) ?_
  refine lv_lstore (lv' := [(4, .long x1), (0, .long x1), (2, .long x2)]) hx hb dX5_commonDivisor_1 hl (by decide) rfl (fun ls hl => ?_)
  refine lv_lload_n hx hb dX5_commonDivisor_3 rfl (lv_at hl 2 rfl) ?_
  refine lv_lstore (lv' := [(6, .long x2), (4, .long x1), (0, .long x1), (2, .long x2)]) hx hb dX5_commonDivisor_4 hl (by decide) rfl (fun ls hl => ?_)
  refine lv_iconst (v := (0 : Int32)) hx hb dX5_commonDivisor_6 (by decide) ?_
  refine lv_istore (lv' := [(8, .int (0 : Int32)), (6, .long x2), (4, .long x1), (0, .long x1), (2, .long x2)]) hx hb dX5_commonDivisor_7 hl (by decide) rfl (fun ls hl => ?_)
  have L0 : ∀ (n0 : Nat) (v8_9 : Int32) (v6_9 : Int64) (v4_9 : Int64) (H : Heap) (locs : List Loc) (ls : Array Slot), f_X5_commonDivisor_9 n0 v8_9 v6_9 v4_9 = some o → Wd G A0 s ([]) H locs → lv_has ls 11 [(8, .int v8_9), (6, .long v6_9), (4, .long v4_9)] → W p l e rmX5_commonDivisor s m ([.long x1, .long x2] : List Value).toArray below meth c H locs 0 0 (Ql below G ([]) o A0 ([.long x1, .long x2] : List Value).toArray s) (F0 m 9 ls []) := by
    intro n0
    induction n0 with
    | zero => intro v8_9 v6_9 v4_9 H locs ls h; cases (show (none : Option (Int64)) = some o from h)
    | succ n0 ih0 =>
      intro v8_9 v6_9 v4_9 H locs ls h hW hl
      refine lv_iload hx hb dX5_commonDivisor_9 (lv_at hl 0 rfl) ?_
      refine lv_bipush (v := (100 : Int32)) hx hb dX5_commonDivisor_11 (by decide) ?_
      obtain ⟨ht_13, hf_13⟩ := of_ite h
      refine lv_icmp_ge (tgt := 44) hx hb dX5_commonDivisor_13 (by decide) (fun c_13 => ?_) (fun c_13 => ?_)
      · have h := ht_13 c_13
        refine lv_lload hx hb dX5_commonDivisor_44 (lv_at hl 2 rfl) ?_
        obtain rfl := Option.some.inj h
        exact x_retl F hr hW rfl dX5_commonDivisor_46
      · have h := hf_13 c_13
        refine lv_lload hx hb dX5_commonDivisor_16 (lv_at hl 1 rfl) ?_
        refine lv_lconst (v := (0 : Int64)) hx hb dX5_commonDivisor_18 (by decide) ?_
        refine W.lcmp hx hb dX5_commonDivisor_19 ?_
        obtain ⟨ht_20, hf_20⟩ := of_ite h
        refine lv_if_eq (tgt := 44) hx hb dX5_commonDivisor_20 (by decide) (fun c_20 => ?_) (fun c_20 => ?_)
        · have h := ht_20 c_20
          refine lv_lload hx hb dX5_commonDivisor_44 (lv_at hl 2 rfl) ?_
          obtain rfl := Option.some.inj h
          exact x_retl F hr hW rfl dX5_commonDivisor_46
        · have h := hf_20 c_20
          refine lv_lload hx hb dX5_commonDivisor_23 (lv_at hl 2 rfl) ?_
          refine lv_lload hx hb dX5_commonDivisor_25 (lv_at hl 1 rfl) ?_
          obtain ⟨g_27, h⟩ := of_nguard h
          refine lv_lrem hx hb dX5_commonDivisor_27 g_27 ?_
          obtain ⟨x_28, e_x_28, h⟩ := of_nm h
          refine x_topl e_x_28 ?_
          refine lv_lstore (lv' := [(9, .long x_28), (8, .int v8_9), (6, .long v6_9), (4, .long v4_9)]) hx hb dX5_commonDivisor_28 hl (by decide) rfl (fun ls hl => ?_)
          refine lv_lload hx hb dX5_commonDivisor_30 (lv_at hl 2 rfl) ?_
          refine lv_lstore (lv' := [(4, .long v6_9), (9, .long x_28), (8, .int v8_9), (6, .long v6_9)]) hx hb dX5_commonDivisor_32 hl (by decide) rfl (fun ls hl => ?_)
          refine lv_lload hx hb dX5_commonDivisor_34 (lv_at hl 1 rfl) ?_
          refine lv_lstore (lv' := [(6, .long x_28), (4, .long v6_9), (9, .long x_28), (8, .int v8_9)]) hx hb dX5_commonDivisor_36 hl (by decide) rfl (fun ls hl => ?_)
          refine lv_iinc (v := (v8_9 + (1 : Int32))) (lv' := [(8, .int (v8_9 + (1 : Int32))), (6, .long x_28), (4, .long v6_9), (9, .long x_28)]) hx hb dX5_commonDivisor_38 hl (k := 3) rfl rfl (by decide) rfl (fun ls hl => ?_)
          refine lv_goto (tgt := 9) hx hb dX5_commonDivisor_41 (by decide) ?_
          exact ih0 (v8_9 + (1 : Int32)) x_28 v6_9 _ _ _ h hW (lv_sub hl [0, 1, 2] rfl)
  exact L0 200 (0 : Int32) x2 x1 _ _ _ h hW (lv_sub hl [0, 1, 2] rfl)
def f_X5_inLeastTerms (x1 : Int64) (x2 : Int64) (x3 : Int32) : Option (Int64) :=
  Option.bind (f_X5_commonDivisor x1 x2) fun p_2 =>
    if 0 < (lg_cmp p_2 (0 : Int64)) then
    if x3 = 0 then
    if p_2 = 0 then none else
    some (x1 / p_2)
    else
    if p_2 = 0 then none else
    some (x2 / p_2)
    else
    some (0 : Int64)
abbrev rmX5_inLeastTerms : Room := { frames := 1, cells := 0, slots := 0, locals := 30 }
set_option maxRecDepth 100000 in
set_option maxHeartbeats 4000000 in
theorem c_X5_inLeastTerms (l : Launch) (G : EnT) (x1 : Int64) (x2 : Int64) (x3 : Int32) (o : Int64) (h : f_X5_inLeastTerms x1 x2 x3 = some o) : Ml l yX5_inLeastTerms rmX5_inLeastTerms cX5_inLeastTerms 7 (some .long) G false [.long x1, .long x2, .int x3] ([]) o ([]) := by
  refine Ml_of (by decide) (Nat.le_of_ble_eq_true rfl) ?_
  intro p e s m below meth c A0 F hr hW ls hl
  obtain ⟨hx, hb, hml, hown, hts, hK, hNW, hlocks, hA, hSX⟩ := id F
  have hl : lv_has ls 7 [(0, .long x1), (2, .long x2), (4, .int x3)] := hl
  have hW : Wd G A0 s ([]) s.heap [] := hW
  show W p l e rmX5_inLeastTerms s m ([.long x1, .long x2, .int x3] : List Value).toArray below meth c s.heap [] 0 0 (Ql below G ([]) o A0 ([.long x1, .long x2, .int x3] : List Value).toArray s) (F0 m 0 ls [])
  refine lv_lload_n hx hb dX5_inLeastTerms_0 rfl (lv_at hl 0 rfl) ?_
  refine lv_lload_n hx hb dX5_inLeastTerms_1 rfl (lv_at hl 1 rfl) ?_
  obtain ⟨p_2, hc_2, h⟩ := of_bind h
  refine x_Sl (av := [.long x1, .long x2]) F hW (c_X5_commonDivisor l G x1 x2 _ hc_2) [] rfl rfl (by intro q; cases q) cs_X5_275 rfl rfl hl (Nat.le_of_ble_eq_true rfl) ⟨Nat.le_of_ble_eq_true rfl, Nat.le_of_ble_eq_true rfl⟩ ⟨rfl, rfl⟩ ⟨Nat.le_of_ble_eq_true rfl, Nat.le_of_ble_eq_true rfl⟩ dX5_inLeastTerms_2 rfl [] rfl (ws' := []) rfl (fun H locs hW => ?_)
  refine lv_lstore (lv' := [(5, .long p_2), (0, .long x1), (2, .long x2), (4, .int x3)]) hx hb dX5_inLeastTerms_5 hl (by decide) rfl (fun ls hl => ?_)
  refine lv_lload hx hb dX5_inLeastTerms_7 (lv_at hl 0 rfl) ?_
  refine lv_lconst (v := (0 : Int64)) hx hb dX5_inLeastTerms_9 (by decide) ?_
  refine W.lcmp hx hb dX5_inLeastTerms_10 ?_
  obtain ⟨ht_11, hf_11⟩ := of_ite h
  refine lv_if_gt (tgt := 16) hx hb dX5_inLeastTerms_11 (by decide) (fun c_11 => ?_) (fun c_11 => ?_)
  · have h := ht_11 c_11
    refine lv_iload hx hb dX5_inLeastTerms_16 (lv_at hl 3 rfl) ?_
    obtain ⟨ht_18, hf_18⟩ := of_ite h
    refine lv_if_ne (tgt := 25) hx hb dX5_inLeastTerms_18 (by decide) (fun c_18 => ?_) (fun c_18 => ?_)
    · have h := hf_18 c_18
      refine lv_lload_n hx hb dX5_inLeastTerms_25 rfl (lv_at hl 2 rfl) ?_
      refine lv_lload hx hb dX5_inLeastTerms_26 (lv_at hl 0 rfl) ?_
      obtain ⟨g_28, h⟩ := of_nguard h
      refine lv_ldiv hx hb dX5_inLeastTerms_28 g_28 ?_
      obtain rfl := Option.some.inj h
      exact x_retl F hr hW rfl dX5_inLeastTerms_29
    · have h := ht_18 c_18
      refine lv_lload_n hx hb dX5_inLeastTerms_21 rfl (lv_at hl 1 rfl) ?_
      refine lv_goto (tgt := 26) hx hb dX5_inLeastTerms_22 (by decide) ?_
      refine lv_lload hx hb dX5_inLeastTerms_26 (lv_at hl 0 rfl) ?_
      obtain ⟨g_28, h⟩ := of_nguard h
      refine lv_ldiv hx hb dX5_inLeastTerms_28 g_28 ?_
      obtain rfl := Option.some.inj h
      exact x_retl F hr hW rfl dX5_inLeastTerms_29
  · have h := hf_11 c_11
    refine lv_lconst (v := (0 : Int64)) hx hb dX5_inLeastTerms_14 (by decide) ?_
    obtain rfl := Option.some.inj h
    exact x_retl F hr hW rfl dX5_inLeastTerms_15
def f_X5_power_5 (x2 : Int32) (x1 : Int64) : Nat → Int32 → Int64 → Option (Int64)
  | 0, _, _ => none
  | n0 + 1, v5_5, v3_5 =>
    if x2 ≤ v5_5 then
    some v3_5
    else
    nm (v3_5 * x1) fun x_14 =>
    f_X5_power_5 x2 x1 n0 (v5_5 + (1 : Int32)) x_14
def f_X5_power (x1 : Int64) (x2 : Int32) : Option (Int64) :=
  f_X5_power_5 x2 x1 200 (0 : Int32) (1 : Int64)
abbrev rmX5_power : Room := { frames := 0, cells := 0, slots := 0, locals := 0 }
set_option maxRecDepth 100000 in
set_option maxHeartbeats 4000000 in
theorem c_X5_power (l : Launch) (G : EnT) (x1 : Int64) (x2 : Int32) (o : Int64) (h : f_X5_power x1 x2 = some o) : Ml l yX5_power rmX5_power cX5_power 6 (some .long) G false [.long x1, .int x2] ([]) o ([]) := by
  refine Ml_of (by decide) (Nat.le_of_ble_eq_true rfl) ?_
  intro p e s m below meth c A0 F hr hW ls hl
  obtain ⟨hx, hb, hml, hown, hts, hK, hNW, hlocks, hA, hSX⟩ := id F
  have hl : lv_has ls 6 [(0, .long x1), (2, .int x2)] := hl
  have hW : Wd G A0 s ([]) s.heap [] := hW
  show W p l e rmX5_power s m ([.long x1, .int x2] : List Value).toArray below meth c s.heap [] 0 0 (Ql below G ([]) o A0 ([.long x1, .int x2] : List Value).toArray s) (F0 m 0 ls [])
  refine lv_lconst (v := (1 : Int64)) hx hb dX5_power_0 (by decide) ?_
  refine lv_lstore_n (lv' := [(3, .long (1 : Int64)), (0, .long x1), (2, .int x2)]) hx hb dX5_power_1 rfl hl (by decide) rfl (fun ls hl => ?_)
  refine lv_iconst (v := (0 : Int32)) hx hb dX5_power_2 (by decide) ?_
  refine lv_istore (lv' := [(5, .int (0 : Int32)), (3, .long (1 : Int64)), (0, .long x1), (2, .int x2)]) hx hb dX5_power_3 hl (by decide) rfl (fun ls hl => ?_)
  have L0 : ∀ (n0 : Nat) (v5_5 : Int32) (v3_5 : Int64) (H : Heap) (locs : List Loc) (ls : Array Slot), f_X5_power_5 x2 x1 n0 v5_5 v3_5 = some o → Wd G A0 s ([]) H locs → lv_has ls 6 [(5, .int v5_5), (3, .long v3_5), (0, .long x1), (2, .int x2)] → W p l e rmX5_power s m ([.long x1, .int x2] : List Value).toArray below meth c H locs 0 0 (Ql below G ([]) o A0 ([.long x1, .int x2] : List Value).toArray s) (F0 m 5 ls []) := by
    intro n0
    induction n0 with
    | zero => intro v5_5 v3_5 H locs ls h; cases (show (none : Option (Int64)) = some o from h)
    | succ n0 ih0 =>
      intro v5_5 v3_5 H locs ls h hW hl
      refine lv_iload hx hb dX5_power_5 (lv_at hl 0 rfl) ?_
      refine lv_iload_n hx hb dX5_power_7 rfl (lv_at hl 3 rfl) ?_
      obtain ⟨ht_8, hf_8⟩ := of_ite h
      refine lv_icmp_ge (tgt := 21) hx hb dX5_power_8 (by decide) (fun c_8 => ?_) (fun c_8 => ?_)
      · have h := ht_8 c_8
        refine lv_lload_n hx hb dX5_power_21 rfl (lv_at hl 1 rfl) ?_
        obtain rfl := Option.some.inj h
        exact x_retl F hr hW rfl dX5_power_22
      · have h := hf_8 c_8
        refine lv_lload_n hx hb dX5_power_11 rfl (lv_at hl 1 rfl) ?_
        refine lv_lload_n hx hb dX5_power_12 rfl (lv_at hl 2 rfl) ?_
        refine lv_lmul hx hb dX5_power_13 ?_
        obtain ⟨x_14, e_x_14, h⟩ := of_nm h
        refine x_topl e_x_14 ?_
        refine lv_lstore_n (lv' := [(3, .long x_14), (5, .int v5_5), (0, .long x1), (2, .int x2)]) hx hb dX5_power_14 rfl hl (by decide) rfl (fun ls hl => ?_)
        refine lv_iinc (v := (v5_5 + (1 : Int32))) (lv' := [(5, .int (v5_5 + (1 : Int32))), (3, .long x_14), (0, .long x1), (2, .int x2)]) hx hb dX5_power_15 hl (k := 1) rfl rfl (by decide) rfl (fun ls hl => ?_)
        refine lv_goto (tgt := 5) hx hb dX5_power_18 (by decide) ?_
        exact ih0 (v5_5 + (1 : Int32)) x_14 _ _ _ h hW (lv_sub hl [0, 1, 2, 3] rfl)
  exact L0 200 (0 : Int32) (1 : Int64) _ _ _ h hW (lv_sub hl [0, 1, 2, 3] rfl)
def f_X5_refuseLong (w : EW) (x1 : Int32) : Option (Int64 × EW) :=
  Option.bind (f_X5_refuse w x1) fun p_5 =>
    some (((4000000000000000000 : Int64) - (p_5.1.toInt64)), p_5.2)
abbrev rmX5_refuseLong : Room := { frames := 1, cells := 0, slots := 0, locals := 21 }
set_option maxRecDepth 100000 in
set_option maxHeartbeats 4000000 in
theorem c_X5_refuseLong (l : Launch) (G : EnT) (q : Nat → Nat) (w : EW) (x1 : Int32) (o : Int64 × EW) (h : f_X5_refuseLong w x1 = some o) : Ml l yX5_refuseLong rmX5_refuseLong cX5_refuseLong 2 (some .long) G false [.ref (q 0), .int x1] (cEW G q w) o.1 (cEW G q o.2) := by
  refine Ml_of (by decide) (Nat.le_of_ble_eq_true rfl) ?_
  intro p e s m below meth c A0 F hr hW ls hl
  obtain ⟨hx, hb, hml, hown, hts, hK, hNW, hlocks, hA, hSX⟩ := id F
  have hl : lv_has ls 2 [(0, .ref (q 0)), (1, .int x1)] := hl
  have hW : Wd G A0 s (cEW G q w) s.heap [] := hW
  show W p l e rmX5_refuseLong s m ([.ref (q 0), .int x1] : List Value).toArray below meth c s.heap [] 0 0 (Ql below G (cEW G q o.2) o.1 A0 ([.ref (q 0), .int x1] : List Value).toArray s) (F0 m 0 ls [])
  refine lv_ldc2 (v := (4000000000000000000 : Int64)) hx hb hown (hts _ wd_774) dX5_refuseLong_0 ?_
  refine lv_aload_n hx hb dX5_refuseLong_3 rfl (lv_at hl 0 rfl) ?_
  refine lv_iload_n hx hb dX5_refuseLong_4 rfl (lv_at hl 1 rfl) ?_
  obtain ⟨p_5, hc_5, h⟩ := of_bind h
  refine x_Vi (av := [.ref (q 0), .int x1]) (As := [.int x1]) F hW (c_X5_refuse l G q w x1 _ hc_5) [0, 1, 2, 3, 4, 5, 6, 7, 8, 9, 10, 11, 12, 13, 14, 15, 16, 17, 18, 19, 20, 21, 22, 23, 24, 25, 26, 27, 28, 29, 30, 31, 32, 33, 34, 35, 36, 37, 38] rfl rfl (by intro q; cases q) cv_X5_44 rfl ⟨_, rfl, rfl⟩ rfl rfl rfl hl (Nat.le_of_ble_eq_true rfl) ⟨Nat.le_of_ble_eq_true rfl, Nat.le_of_ble_eq_true rfl⟩ ⟨rfl, rfl⟩ ⟨Nat.le_of_ble_eq_true rfl, Nat.le_of_ble_eq_true rfl⟩ dX5_refuseLong_5 rfl [some 0, some 1, some 2, some 3, some 4, some 5, some 6, some 7, some 8, some 9, some 10, some 11, some 12, some 13, some 14, some 15, some 16, some 17, some 18, some 19, some 20, some 21, some 22, some 23, some 24, some 25, some 26, some 27, some 28, some 29, some 30, some 31, some 32, some 33, some 34, some 35, some 36, some 37, some 38] rfl (ws' := cEW G q p_5.2) rfl (fun H locs hW => ?_)
  refine lv_i2l (v := (p_5.1.toInt64)) hx hb dX5_refuseLong_8 rfl ?_
  refine lv_lsub hx hb dX5_refuseLong_9 ?_
  obtain rfl := Option.some.inj h
  exact x_retl F hr hW rfl dX5_refuseLong_10
