def f_X0_candleOf (x1 : Int32) (x2 : Int32) : Option (Int32) :=
  if x1 = (1 : Int32) then
    some ((1 : Int32) + (x2 / (2 : Int32)))
    else
    if x1 = (2 : Int32) then
    some (1 : Int32)
    else
    if x1 = (3 : Int32) then
    some (0 : Int32)
    else
    if x1 = (4 : Int32) then
    some (((1 : Int32) + (x2 / (2 : Int32))) + (2 : Int32))
    else
    some (1 : Int32)
abbrev rmX0_candleOf : Room := { frames := 0, cells := 0, slots := 0, locals := 0 }
set_option maxRecDepth 100000 in
set_option maxHeartbeats 4000000 in
theorem c_X0_candleOf (l : Launch) (G : EnT) (x1 : Int32) (x2 : Int32) (o : Int32) (h : f_X0_candleOf x1 x2 = some o) : Mi l yX0_candleOf rmX0_candleOf cX0_candleOf 2 (some .int) G false [.int x1, .int x2] ([]) o ([]) := by
  refine Mi_of (by decide) (Nat.le_of_ble_eq_true rfl) ?_
  intro p e s m below meth c A0 F hr hW ls hl
  obtain ⟨hx, hb, hml, hown, hts, hK, hNW, hlocks, hA, hSX⟩ := id F
  have hl : lv_has ls 2 [(0, .int x1), (1, .int x2)] := hl
  have hW : Wd G A0 s ([]) s.heap [] := hW
  show W p l e rmX0_candleOf s m ([.int x1, .int x2] : List Value).toArray below meth c s.heap [] 0 0 (Qi below G ([]) o A0 ([.int x1, .int x2] : List Value).toArray s) (F0 m 0 ls [])
  refine lv_iload_n hx hb dX0_candleOf_0 rfl (lv_at hl 0 rfl) ?_
  obtain ⟨ht_1_0, h⟩ := of_ite h
  by_cases c_1_0 : x1 = (1 : Int32)
  · have h := ht_1_0 c_1_0
    refine x_tableIn c_1_0 hx hb dX0_candleOf_1 (by decide) (by decide) (off := (31)) rfl (tgt := 32) (by decide) ?_
    refine lv_iconst (v := (1 : Int32)) hx hb dX0_candleOf_32 (by decide) ?_
    refine lv_iload_n hx hb dX0_candleOf_33 rfl (lv_at hl 1 rfl) ?_
    refine lv_iconst (v := (2 : Int32)) hx hb dX0_candleOf_34 (by decide) ?_
    refine lv_idiv hx hb dX0_candleOf_35 (by decide) ?_
    refine lv_iadd hx hb dX0_candleOf_36 ?_
    obtain rfl := Option.some.inj h
    exact x_reti F hr hW rfl dX0_candleOf_37
  have h := h c_1_0
  obtain ⟨ht_1_1, h⟩ := of_ite h
  by_cases c_1_1 : x1 = (2 : Int32)
  · have h := ht_1_1 c_1_1
    refine x_tableIn c_1_1 hx hb dX0_candleOf_1 (by decide) (by decide) (off := (47)) rfl (tgt := 48) (by decide) ?_
    refine lv_iconst (v := (1 : Int32)) hx hb dX0_candleOf_48 (by decide) ?_
    obtain rfl := Option.some.inj h
    exact x_reti F hr hW rfl dX0_candleOf_49
  have h := h c_1_1
  obtain ⟨ht_1_2, h⟩ := of_ite h
  by_cases c_1_2 : x1 = (3 : Int32)
  · have h := ht_1_2 c_1_2
    refine x_tableIn c_1_2 hx hb dX0_candleOf_1 (by decide) (by decide) (off := (45)) rfl (tgt := 46) (by decide) ?_
    refine lv_iconst (v := (0 : Int32)) hx hb dX0_candleOf_46 (by decide) ?_
    obtain rfl := Option.some.inj h
    exact x_reti F hr hW rfl dX0_candleOf_47
  have h := h c_1_2
  obtain ⟨ht_1_3, h⟩ := of_ite h
  by_cases c_1_3 : x1 = (4 : Int32)
  · have h := ht_1_3 c_1_3
    refine x_tableIn c_1_3 hx hb dX0_candleOf_1 (by decide) (by decide) (off := (37)) rfl (tgt := 38) (by decide) ?_
    refine lv_iconst (v := (1 : Int32)) hx hb dX0_candleOf_38 (by decide) ?_
    refine lv_iload_n hx hb dX0_candleOf_39 rfl (lv_at hl 1 rfl) ?_
    refine lv_iconst (v := (2 : Int32)) hx hb dX0_candleOf_40 (by decide) ?_
    refine lv_idiv hx hb dX0_candleOf_41 (by decide) ?_
    refine lv_iadd hx hb dX0_candleOf_42 ?_
    refine lv_iconst (v := (2 : Int32)) hx hb dX0_candleOf_43 (by decide) ?_
    refine lv_iadd hx hb dX0_candleOf_44 ?_
    obtain rfl := Option.some.inj h
    exact x_reti F hr hW rfl dX0_candleOf_45
  have h := h c_1_3
  refine lv_tableOut hx hb dX0_candleOf_1 (by have z0 := x_ne c_1_0 (z := 1) (by decide); have z1 := x_ne c_1_1 (z := 2) (by decide); have z2 := x_ne c_1_2 (z := 3) (by decide); have z3 := x_ne c_1_3 (z := 4) (by decide); omega) (tgt := 48) (by decide) ?_
  refine lv_iconst (v := (1 : Int32)) hx hb dX0_candleOf_48 (by decide) ?_
  obtain rfl := Option.some.inj h
  exact x_reti F hr hW rfl dX0_candleOf_49
def f_X0_sleepsIn (x1 : Int32) (x2 : Int32) (x3 : Int32) : Option (Int32) :=
  nm (x2 + (2 : Int32)) fun x_3 =>
    if x1 = (2 : Int32) then
    if x_3 ≤ 0 then
    some (0 : Int32)
    else
    if x_3 = 0 then none else
    if (remI x3 x_3) = 0 then
    some (1 : Int32)
    else
    some (0 : Int32)
    else
    if x1 = (3 : Int32) then
    if x_3 ≤ 0 then
    some (0 : Int32)
    else
    if x_3 = 0 then none else
    if (remI x3 x_3) = 0 then
    some (1 : Int32)
    else
    some (0 : Int32)
    else
    if x1 = (4 : Int32) then
    if (remI x3 (2 : Int32)) = 0 then
    some (0 : Int32)
    else
    some (1 : Int32)
    else
    if x1 = (5 : Int32) then
    if x_3 ≤ 0 then
    if (remI x3 (3 : Int32)) = 0 then
    some (1 : Int32)
    else
    some (0 : Int32)
    else
    if x_3 = 0 then none else
    if (remI x3 x_3) = 0 then
    some (1 : Int32)
    else
    if (remI x3 (3 : Int32)) = 0 then
    some (1 : Int32)
    else
    some (0 : Int32)
    else
    some (0 : Int32)
abbrev rmX0_sleepsIn : Room := { frames := 0, cells := 0, slots := 0, locals := 0 }
set_option maxRecDepth 100000 in
set_option maxHeartbeats 4000000 in
theorem c_X0_sleepsIn (l : Launch) (G : EnT) (x1 : Int32) (x2 : Int32) (x3 : Int32) (o : Int32) (h : f_X0_sleepsIn x1 x2 x3 = some o) : Mi l yX0_sleepsIn rmX0_sleepsIn cX0_sleepsIn 4 (some .boolean) G false [.int x1, .int x2, .int x3] ([]) o ([]) := by
  refine Mi_of (by decide) (Nat.le_of_ble_eq_true rfl) ?_
  intro p e s m below meth c A0 F hr hW ls hl
  obtain ⟨hx, hb, hml, hown, hts, hK, hNW, hlocks, hA, hSX⟩ := id F
  have hl : lv_has ls 4 [(0, .int x1), (1, .int x2), (2, .int x3)] := hl
  have hW : Wd G A0 s ([]) s.heap [] := hW
  show W p l e rmX0_sleepsIn s m ([.int x1, .int x2, .int x3] : List Value).toArray below meth c s.heap [] 0 0 (Qi below G ([]) o A0 ([.int x1, .int x2, .int x3] : List Value).toArray s) (F0 m 0 ls [])
  refine lv_iload_n hx hb dX0_sleepsIn_0 rfl (lv_at hl 1 rfl) ?_
  refine lv_iconst (v := (2 : Int32)) hx hb dX0_sleepsIn_1 (by decide) ?_
  refine lv_iadd hx hb dX0_sleepsIn_2 ?_
  obtain ⟨x_3, e_x_3, h⟩ := of_nm h
  refine x_topi e_x_3 ?_
  refine lv_istore_n (lv' := [(3, .int x_3), (0, .int x1), (1, .int x2), (2, .int x3)]) hx hb dX0_sleepsIn_3 rfl hl (by decide) rfl (fun ls hl => ?_)
  refine lv_iload_n hx hb dX0_sleepsIn_4 rfl (lv_at hl 1 rfl) ?_
  obtain ⟨ht_5_0, h⟩ := of_ite h
  by_cases c_5_0 : x1 = (2 : Int32)
  · have h := ht_5_0 c_5_0
    refine x_tableIn c_5_0 hx hb dX0_sleepsIn_5 (by decide) (by decide) (off := (31)) rfl (tgt := 36) (by decide) ?_
    refine lv_iload_n hx hb dX0_sleepsIn_36 rfl (lv_at hl 0 rfl) ?_
    obtain ⟨ht_37, hf_37⟩ := of_ite h
    refine lv_if_le (tgt := 50) hx hb dX0_sleepsIn_37 (by decide) (fun c_37 => ?_) (fun c_37 => ?_)
    · have h := ht_37 c_37
      refine lv_iconst (v := (0 : Int32)) hx hb dX0_sleepsIn_50 (by decide) ?_
      obtain rfl := Option.some.inj h
      exact x_retz F hr hW (Or.inl rfl) rfl dX0_sleepsIn_51
    · have h := hf_37 c_37
      refine lv_iload_n hx hb dX0_sleepsIn_40 rfl (lv_at hl 3 rfl) ?_
      refine lv_iload_n hx hb dX0_sleepsIn_41 rfl (lv_at hl 0 rfl) ?_
      obtain ⟨g_42, h⟩ := of_nguard h
      refine lv_irem hx hb dX0_sleepsIn_42 g_42 ?_
      obtain ⟨ht_43, hf_43⟩ := of_ite h
      refine lv_if_ne (tgt := 50) hx hb dX0_sleepsIn_43 (by decide) (fun c_43 => ?_) (fun c_43 => ?_)
      · have h := hf_43 c_43
        refine lv_iconst (v := (0 : Int32)) hx hb dX0_sleepsIn_50 (by decide) ?_
        obtain rfl := Option.some.inj h
        exact x_retz F hr hW (Or.inl rfl) rfl dX0_sleepsIn_51
      · have h := ht_43 c_43
        refine lv_iconst (v := (1 : Int32)) hx hb dX0_sleepsIn_46 (by decide) ?_
        refine lv_goto (tgt := 51) hx hb dX0_sleepsIn_47 (by decide) ?_
        obtain rfl := Option.some.inj h
        exact x_retz F hr hW (Or.inr rfl) rfl dX0_sleepsIn_51
  have h := h c_5_0
  obtain ⟨ht_5_1, h⟩ := of_ite h
  by_cases c_5_1 : x1 = (3 : Int32)
  · have h := ht_5_1 c_5_1
    refine x_tableIn c_5_1 hx hb dX0_sleepsIn_5 (by decide) (by decide) (off := (31)) rfl (tgt := 36) (by decide) ?_
    refine lv_iload_n hx hb dX0_sleepsIn_36 rfl (lv_at hl 0 rfl) ?_
    obtain ⟨ht_37, hf_37⟩ := of_ite h
    refine lv_if_le (tgt := 50) hx hb dX0_sleepsIn_37 (by decide) (fun c_37 => ?_) (fun c_37 => ?_)
    · have h := ht_37 c_37
      refine lv_iconst (v := (0 : Int32)) hx hb dX0_sleepsIn_50 (by decide) ?_
      obtain rfl := Option.some.inj h
      exact x_retz F hr hW (Or.inl rfl) rfl dX0_sleepsIn_51
    · have h := hf_37 c_37
      refine lv_iload_n hx hb dX0_sleepsIn_40 rfl (lv_at hl 3 rfl) ?_
      refine lv_iload_n hx hb dX0_sleepsIn_41 rfl (lv_at hl 0 rfl) ?_
      obtain ⟨g_42, h⟩ := of_nguard h
      refine lv_irem hx hb dX0_sleepsIn_42 g_42 ?_
      obtain ⟨ht_43, hf_43⟩ := of_ite h
      refine lv_if_ne (tgt := 50) hx hb dX0_sleepsIn_43 (by decide) (fun c_43 => ?_) (fun c_43 => ?_)
      · have h := hf_43 c_43
        refine lv_iconst (v := (0 : Int32)) hx hb dX0_sleepsIn_50 (by decide) ?_
        obtain rfl := Option.some.inj h
        exact x_retz F hr hW (Or.inl rfl) rfl dX0_sleepsIn_51
      · have h := ht_43 c_43
        refine lv_iconst (v := (1 : Int32)) hx hb dX0_sleepsIn_46 (by decide) ?_
        refine lv_goto (tgt := 51) hx hb dX0_sleepsIn_47 (by decide) ?_
        obtain rfl := Option.some.inj h
        exact x_retz F hr hW (Or.inr rfl) rfl dX0_sleepsIn_51
  have h := h c_5_1
  obtain ⟨ht_5_2, h⟩ := of_ite h
  by_cases c_5_2 : x1 = (4 : Int32)
  · have h := ht_5_2 c_5_2
    refine x_tableIn c_5_2 hx hb dX0_sleepsIn_5 (by decide) (by decide) (off := (69)) rfl (tgt := 74) (by decide) ?_
    refine lv_iload_n hx hb dX0_sleepsIn_74 rfl (lv_at hl 3 rfl) ?_
    refine lv_iconst (v := (2 : Int32)) hx hb dX0_sleepsIn_75 (by decide) ?_
    refine lv_irem hx hb dX0_sleepsIn_76 (by decide) ?_
    obtain ⟨ht_77, hf_77⟩ := of_ite h
    refine lv_if_eq (tgt := 84) hx hb dX0_sleepsIn_77 (by decide) (fun c_77 => ?_) (fun c_77 => ?_)
    · have h := ht_77 c_77
      refine lv_iconst (v := (0 : Int32)) hx hb dX0_sleepsIn_84 (by decide) ?_
      obtain rfl := Option.some.inj h
      exact x_retz F hr hW (Or.inl rfl) rfl dX0_sleepsIn_85
    · have h := hf_77 c_77
      refine lv_iconst (v := (1 : Int32)) hx hb dX0_sleepsIn_80 (by decide) ?_
      refine lv_goto (tgt := 85) hx hb dX0_sleepsIn_81 (by decide) ?_
      obtain rfl := Option.some.inj h
      exact x_retz F hr hW (Or.inr rfl) rfl dX0_sleepsIn_85
  have h := h c_5_2
  obtain ⟨ht_5_3, h⟩ := of_ite h
  by_cases c_5_3 : x1 = (5 : Int32)
  · have h := ht_5_3 c_5_3
    refine x_tableIn c_5_3 hx hb dX0_sleepsIn_5 (by decide) (by decide) (off := (47)) rfl (tgt := 52) (by decide) ?_
    refine lv_iload_n hx hb dX0_sleepsIn_52 rfl (lv_at hl 0 rfl) ?_
    obtain ⟨ht_53, hf_53⟩ := of_ite h
    refine lv_if_le (tgt := 62) hx hb dX0_sleepsIn_53 (by decide) (fun c_53 => ?_) (fun c_53 => ?_)
    · have h := ht_53 c_53
      refine lv_iload_n hx hb dX0_sleepsIn_62 rfl (lv_at hl 3 rfl) ?_
      refine lv_iconst (v := (3 : Int32)) hx hb dX0_sleepsIn_63 (by decide) ?_
      refine lv_irem hx hb dX0_sleepsIn_64 (by decide) ?_
      obtain ⟨ht_65, hf_65⟩ := of_ite h
      refine lv_if_ne (tgt := 72) hx hb dX0_sleepsIn_65 (by decide) (fun c_65 => ?_) (fun c_65 => ?_)
      · have h := hf_65 c_65
        refine lv_iconst (v := (0 : Int32)) hx hb dX0_sleepsIn_72 (by decide) ?_
        obtain rfl := Option.some.inj h
        exact x_retz F hr hW (Or.inl rfl) rfl dX0_sleepsIn_73
      · have h := ht_65 c_65
        refine lv_iconst (v := (1 : Int32)) hx hb dX0_sleepsIn_68 (by decide) ?_
        refine lv_goto (tgt := 73) hx hb dX0_sleepsIn_69 (by decide) ?_
        obtain rfl := Option.some.inj h
        exact x_retz F hr hW (Or.inr rfl) rfl dX0_sleepsIn_73
    · have h := hf_53 c_53
      refine lv_iload_n hx hb dX0_sleepsIn_56 rfl (lv_at hl 3 rfl) ?_
      refine lv_iload_n hx hb dX0_sleepsIn_57 rfl (lv_at hl 0 rfl) ?_
      obtain ⟨g_58, h⟩ := of_nguard h
      refine lv_irem hx hb dX0_sleepsIn_58 g_58 ?_
      obtain ⟨ht_59, hf_59⟩ := of_ite h
      refine lv_if_eq (tgt := 68) hx hb dX0_sleepsIn_59 (by decide) (fun c_59 => ?_) (fun c_59 => ?_)
      · have h := ht_59 c_59
        refine lv_iconst (v := (1 : Int32)) hx hb dX0_sleepsIn_68 (by decide) ?_
        refine lv_goto (tgt := 73) hx hb dX0_sleepsIn_69 (by decide) ?_
        obtain rfl := Option.some.inj h
        exact x_retz F hr hW (Or.inr rfl) rfl dX0_sleepsIn_73
      · have h := hf_59 c_59
        refine lv_iload_n hx hb dX0_sleepsIn_62 rfl (lv_at hl 3 rfl) ?_
        refine lv_iconst (v := (3 : Int32)) hx hb dX0_sleepsIn_63 (by decide) ?_
        refine lv_irem hx hb dX0_sleepsIn_64 (by decide) ?_
        obtain ⟨ht_65, hf_65⟩ := of_ite h
        refine lv_if_ne (tgt := 72) hx hb dX0_sleepsIn_65 (by decide) (fun c_65 => ?_) (fun c_65 => ?_)
        · have h := hf_65 c_65
          refine lv_iconst (v := (0 : Int32)) hx hb dX0_sleepsIn_72 (by decide) ?_
          obtain rfl := Option.some.inj h
          exact x_retz F hr hW (Or.inl rfl) rfl dX0_sleepsIn_73
        · have h := ht_65 c_65
          refine lv_iconst (v := (1 : Int32)) hx hb dX0_sleepsIn_68 (by decide) ?_
          refine lv_goto (tgt := 73) hx hb dX0_sleepsIn_69 (by decide) ?_
          obtain rfl := Option.some.inj h
          exact x_retz F hr hW (Or.inr rfl) rfl dX0_sleepsIn_73
  have h := h c_5_3
  refine lv_tableOut hx hb dX0_sleepsIn_5 (by have z0 := x_ne c_5_0 (z := 2) (by decide); have z1 := x_ne c_5_1 (z := 3) (by decide); have z2 := x_ne c_5_2 (z := 4) (by decide); have z3 := x_ne c_5_3 (z := 5) (by decide); omega) (tgt := 86) (by decide) ?_
  refine lv_iconst (v := (0 : Int32)) hx hb dX0_sleepsIn_86 (by decide) ?_
  obtain rfl := Option.some.inj h
  exact x_retz F hr hW (Or.inl rfl) rfl dX0_sleepsIn_87
def f_X0_burnsOf (x1 : Int32) : Option (Int32) :=
  if x1 = (1 : Int32) then
    some (2 : Int32)
    else
    if x1 = (2 : Int32) then
    some (1 : Int32)
    else
    if x1 = (3 : Int32) then
    some (1 : Int32)
    else
    if x1 = (4 : Int32) then
    some (2 : Int32)
    else
    if x1 = (5 : Int32) then
    some (2 : Int32)
    else
    some (1 : Int32)
abbrev rmX0_burnsOf : Room := { frames := 0, cells := 0, slots := 0, locals := 0 }
set_option maxRecDepth 100000 in
set_option maxHeartbeats 4000000 in
theorem c_X0_burnsOf (l : Launch) (G : EnT) (x1 : Int32) (o : Int32) (h : f_X0_burnsOf x1 = some o) : Mi l yX0_burnsOf rmX0_burnsOf cX0_burnsOf 1 (some .int) G false [.int x1] ([]) o ([]) := by
  refine Mi_of (by decide) (Nat.le_of_ble_eq_true rfl) ?_
  intro p e s m below meth c A0 F hr hW ls hl
  obtain ⟨hx, hb, hml, hown, hts, hK, hNW, hlocks, hA, hSX⟩ := id F
  have hl : lv_has ls 1 [(0, .int x1)] := hl
  have hW : Wd G A0 s ([]) s.heap [] := hW
  show W p l e rmX0_burnsOf s m ([.int x1] : List Value).toArray below meth c s.heap [] 0 0 (Qi below G ([]) o A0 ([.int x1] : List Value).toArray s) (F0 m 0 ls [])
  refine lv_iload_n hx hb dX0_burnsOf_0 rfl (lv_at hl 0 rfl) ?_
  obtain ⟨ht_1_0, h⟩ := of_ite h
  by_cases c_1_0 : x1 = (1 : Int32)
  · have h := ht_1_0 c_1_0
    refine x_tableIn c_1_0 hx hb dX0_burnsOf_1 (by decide) (by decide) (off := (35)) rfl (tgt := 36) (by decide) ?_
    refine lv_iconst (v := (2 : Int32)) hx hb dX0_burnsOf_36 (by decide) ?_
    obtain rfl := Option.some.inj h
    exact x_reti F hr hW rfl dX0_burnsOf_37
  have h := h c_1_0
  obtain ⟨ht_1_1, h⟩ := of_ite h
  by_cases c_1_1 : x1 = (2 : Int32)
  · have h := ht_1_1 c_1_1
    refine x_tableIn c_1_1 hx hb dX0_burnsOf_1 (by decide) (by decide) (off := (37)) rfl (tgt := 38) (by decide) ?_
    refine lv_iconst (v := (1 : Int32)) hx hb dX0_burnsOf_38 (by decide) ?_
    obtain rfl := Option.some.inj h
    exact x_reti F hr hW rfl dX0_burnsOf_39
  have h := h c_1_1
  obtain ⟨ht_1_2, h⟩ := of_ite h
  by_cases c_1_2 : x1 = (3 : Int32)
  · have h := ht_1_2 c_1_2
    refine x_tableIn c_1_2 hx hb dX0_burnsOf_1 (by decide) (by decide) (off := (37)) rfl (tgt := 38) (by decide) ?_
    refine lv_iconst (v := (1 : Int32)) hx hb dX0_burnsOf_38 (by decide) ?_
    obtain rfl := Option.some.inj h
    exact x_reti F hr hW rfl dX0_burnsOf_39
  have h := h c_1_2
  obtain ⟨ht_1_3, h⟩ := of_ite h
  by_cases c_1_3 : x1 = (4 : Int32)
  · have h := ht_1_3 c_1_3
    refine x_tableIn c_1_3 hx hb dX0_burnsOf_1 (by decide) (by decide) (off := (35)) rfl (tgt := 36) (by decide) ?_
    refine lv_iconst (v := (2 : Int32)) hx hb dX0_burnsOf_36 (by decide) ?_
    obtain rfl := Option.some.inj h
    exact x_reti F hr hW rfl dX0_burnsOf_37
  have h := h c_1_3
  obtain ⟨ht_1_4, h⟩ := of_ite h
  by_cases c_1_4 : x1 = (5 : Int32)
  · have h := ht_1_4 c_1_4
    refine x_tableIn c_1_4 hx hb dX0_burnsOf_1 (by decide) (by decide) (off := (35)) rfl (tgt := 36) (by decide) ?_
    refine lv_iconst (v := (2 : Int32)) hx hb dX0_burnsOf_36 (by decide) ?_
    obtain rfl := Option.some.inj h
    exact x_reti F hr hW rfl dX0_burnsOf_37
  have h := h c_1_4
  refine lv_tableOut hx hb dX0_burnsOf_1 (by have z0 := x_ne c_1_0 (z := 1) (by decide); have z1 := x_ne c_1_1 (z := 2) (by decide); have z2 := x_ne c_1_2 (z := 3) (by decide); have z3 := x_ne c_1_3 (z := 4) (by decide); have z4 := x_ne c_1_4 (z := 5) (by decide); omega) (tgt := 38) (by decide) ?_
  refine lv_iconst (v := (1 : Int32)) hx hb dX0_burnsOf_38 (by decide) ?_
  obtain rfl := Option.some.inj h
  exact x_reti F hr hW rfl dX0_burnsOf_39
def f_X1_become (w : LD) (w2 : LD) : Option (LD) :=
  some (w2.1, w2.2.1, w2.2.2.1, w2.2.2.2.1, w2.2.2.2.2.1, w2.2.2.2.2.2.1, w2.2.2.2.2.2.2.1, w2.2.2.2.2.2.2.2.1, w2.2.2.2.2.2.2.2.2)
abbrev rmX1_become : Room := { frames := 1, cells := 0, slots := 0, locals := 64 }
set_option maxRecDepth 100000 in
set_option maxHeartbeats 4000000 in
theorem c_X1_become (l : Launch) (G : EnT) (q : Nat → Nat) (w : LD) (q2 : Nat → Nat) (w2 : LD) (o : LD) (h : f_X1_become w w2 = some o) : Mv l yX1_become rmX1_become cX1_become 2 none G false [.ref (q 0), .ref (q2 0)] (cLD G q w ++ cLD G q2 w2) (cLD G q o ++ cLD G q2 w2) := by
  refine Mv_of (by decide) (Nat.le_of_ble_eq_true rfl) ?_
  intro p e s m below meth c A0 F hr hW ls hl
  obtain ⟨hx, hb, hml, hown, hts, hK, hNW, hlocks, hA, hSX⟩ := id F
  have hl : lv_has ls 2 [(0, .ref (q 0)), (1, .ref (q2 0))] := hl
  have hW : Wd G A0 s (cLD G q w ++ cLD G q2 w2) s.heap [] := hW
  show W p l e rmX1_become s m ([.ref (q 0), .ref (q2 0)] : List Value).toArray below meth c s.heap [] 0 0 (Qv below G (cLD G q o ++ cLD G q2 w2) A0 ([.ref (q 0), .ref (q2 0)] : List Value).toArray s) (F0 m 0 ls [])
  refine lv_aload_n hx hb dX1_become_0 rfl (lv_at hl 1 rfl) ?_
  refine x_get F hW 6 rfl fa_X1_9 rfl dX1_become_1 ?_
  refine lv_iconst (v := (0 : Int32)) hx hb dX1_become_4 (by decide) ?_
  refine lv_aload_n hx hb dX1_become_5 rfl (lv_at hl 0 rfl) ?_
  refine x_get F hW 0 rfl fa_X1_9 rfl dX1_become_6 ?_
  refine lv_iconst (v := (0 : Int32)) hx hb dX1_become_9 (by decide) ?_
  refine lv_bipush (v := (20 : Int32)) hx hb dX1_become_10 (by decide) ?_
  refine x_copy F hW hl 7 1 rfl rfl (ws' := cLD G q (w2.1, w.2.1, w.2.2.1, w.2.2.2.1, w.2.2.2.2.1, w.2.2.2.2.2.1, w.2.2.2.2.2.2.1, w.2.2.2.2.2.2.2.1, w.2.2.2.2.2.2.2.2) ++ cLD G q2 w2) rfl (hts _ wd_333) (by decide) (Nat.le_of_ble_eq_true rfl) (Nat.le_of_ble_eq_true rfl) dX1_become_12 (fun H locs hW => ?_)
  refine lv_aload_n hx hb dX1_become_15 rfl (lv_at hl 1 rfl) ?_
  refine x_get F hW 6 rfl fa_X1_15 rfl dX1_become_16 ?_
  refine lv_iconst (v := (0 : Int32)) hx hb dX1_become_19 (by decide) ?_
  refine lv_aload_n hx hb dX1_become_20 rfl (lv_at hl 0 rfl) ?_
  refine x_get F hW 0 rfl fa_X1_15 rfl dX1_become_21 ?_
  refine lv_iconst (v := (0 : Int32)) hx hb dX1_become_24 (by decide) ?_
  refine lv_bipush (v := (8 : Int32)) hx hb dX1_become_25 (by decide) ?_
  refine x_copy F hW hl 8 2 rfl rfl (ws' := cLD G q (w2.1, w2.2.1, w.2.2.1, w.2.2.2.1, w.2.2.2.2.1, w.2.2.2.2.2.1, w.2.2.2.2.2.2.1, w.2.2.2.2.2.2.2.1, w.2.2.2.2.2.2.2.2) ++ cLD G q2 w2) rfl (hts _ wd_333) (by decide) (Nat.le_of_ble_eq_true rfl) (Nat.le_of_ble_eq_true rfl) dX1_become_27 (fun H locs hW => ?_)
  refine lv_aload_n hx hb dX1_become_30 rfl (lv_at hl 1 rfl) ?_
  refine x_get F hW 6 rfl fa_X1_18 rfl dX1_become_31 ?_
  refine lv_iconst (v := (0 : Int32)) hx hb dX1_become_34 (by decide) ?_
  refine lv_aload_n hx hb dX1_become_35 rfl (lv_at hl 0 rfl) ?_
  refine x_get F hW 0 rfl fa_X1_18 rfl dX1_become_36 ?_
  refine lv_iconst (v := (0 : Int32)) hx hb dX1_become_39 (by decide) ?_
  refine lv_bipush (v := (8 : Int32)) hx hb dX1_become_40 (by decide) ?_
  refine x_copy F hW hl 9 3 rfl rfl (ws' := cLD G q (w2.1, w2.2.1, w2.2.2.1, w.2.2.2.1, w.2.2.2.2.1, w.2.2.2.2.2.1, w.2.2.2.2.2.2.1, w.2.2.2.2.2.2.2.1, w.2.2.2.2.2.2.2.2) ++ cLD G q2 w2) rfl (hts _ wd_333) (by decide) (Nat.le_of_ble_eq_true rfl) (Nat.le_of_ble_eq_true rfl) dX1_become_42 (fun H locs hW => ?_)
  refine lv_aload_n hx hb dX1_become_45 rfl (lv_at hl 1 rfl) ?_
  refine x_get F hW 6 rfl fa_X1_21 rfl dX1_become_46 ?_
  refine lv_iconst (v := (0 : Int32)) hx hb dX1_become_49 (by decide) ?_
  refine lv_aload_n hx hb dX1_become_50 rfl (lv_at hl 0 rfl) ?_
  refine x_get F hW 0 rfl fa_X1_21 rfl dX1_become_51 ?_
  refine lv_iconst (v := (0 : Int32)) hx hb dX1_become_54 (by decide) ?_
  refine lv_bipush (v := (8 : Int32)) hx hb dX1_become_55 (by decide) ?_
  refine x_copy F hW hl 10 4 rfl rfl (ws' := cLD G q (w2.1, w2.2.1, w2.2.2.1, w2.2.2.2.1, w.2.2.2.2.1, w.2.2.2.2.2.1, w.2.2.2.2.2.2.1, w.2.2.2.2.2.2.2.1, w.2.2.2.2.2.2.2.2) ++ cLD G q2 w2) rfl (hts _ wd_333) (by decide) (Nat.le_of_ble_eq_true rfl) (Nat.le_of_ble_eq_true rfl) dX1_become_57 (fun H locs hW => ?_)
  refine lv_aload_n hx hb dX1_become_60 rfl (lv_at hl 1 rfl) ?_
  refine x_get F hW 6 rfl fa_X1_24 rfl dX1_become_61 ?_
  refine lv_iconst (v := (0 : Int32)) hx hb dX1_become_64 (by decide) ?_
  refine lv_aload_n hx hb dX1_become_65 rfl (lv_at hl 0 rfl) ?_
  refine x_get F hW 0 rfl fa_X1_24 rfl dX1_become_66 ?_
  refine lv_iconst (v := (0 : Int32)) hx hb dX1_become_69 (by decide) ?_
  refine lv_bipush (v := (8 : Int32)) hx hb dX1_become_70 (by decide) ?_
  refine x_copy F hW hl 11 5 rfl rfl (ws' := cLD G q (w2.1, w2.2.1, w2.2.2.1, w2.2.2.2.1, w2.2.2.2.2.1, w.2.2.2.2.2.1, w.2.2.2.2.2.2.1, w.2.2.2.2.2.2.2.1, w.2.2.2.2.2.2.2.2) ++ cLD G q2 w2) rfl (hts _ wd_333) (by decide) (Nat.le_of_ble_eq_true rfl) (Nat.le_of_ble_eq_true rfl) dX1_become_72 (fun H locs hW => ?_)
  refine lv_aload_n hx hb dX1_become_75 rfl (lv_at hl 0 rfl) ?_
  refine lv_aload_n hx hb dX1_become_76 rfl (lv_at hl 1 rfl) ?_
  refine x_get F hW 6 rfl fa_X1_33 rfl dX1_become_77 ?_
  refine x_put F hW 0 rfl fp_X1_33 rfl rfl (Nat.le_of_ble_eq_true rfl) (ws' := cLD G q (w2.1, w2.2.1, w2.2.2.1, w2.2.2.2.1, w2.2.2.2.2.1, w2.2.2.2.2.2.1, w.2.2.2.2.2.2.1, w.2.2.2.2.2.2.2.1, w.2.2.2.2.2.2.2.2) ++ cLD G q2 w2) rfl dX1_become_80 (fun H locs hW => ?_)
  refine lv_aload_n hx hb dX1_become_83 rfl (lv_at hl 0 rfl) ?_
  refine lv_aload_n hx hb dX1_become_84 rfl (lv_at hl 1 rfl) ?_
  refine x_get F hW 6 rfl fa_X1_37 rfl dX1_become_85 ?_
  refine x_put F hW 0 rfl fp_X1_37 rfl rfl (Nat.le_of_ble_eq_true rfl) (ws' := cLD G q (w2.1, w2.2.1, w2.2.2.1, w2.2.2.2.1, w2.2.2.2.2.1, w2.2.2.2.2.2.1, w2.2.2.2.2.2.2.1, w.2.2.2.2.2.2.2.1, w.2.2.2.2.2.2.2.2) ++ cLD G q2 w2) rfl dX1_become_88 (fun H locs hW => ?_)
  refine lv_aload_n hx hb dX1_become_91 rfl (lv_at hl 0 rfl) ?_
  refine lv_aload_n hx hb dX1_become_92 rfl (lv_at hl 1 rfl) ?_
  refine x_get F hW 6 rfl fa_X1_40 rfl dX1_become_93 ?_
  refine x_put F hW 0 rfl fp_X1_40 rfl rfl (Nat.le_of_ble_eq_true rfl) (ws' := cLD G q (w2.1, w2.2.1, w2.2.2.1, w2.2.2.2.1, w2.2.2.2.2.1, w2.2.2.2.2.2.1, w2.2.2.2.2.2.2.1, w2.2.2.2.2.2.2.2.1, w.2.2.2.2.2.2.2.2) ++ cLD G q2 w2) rfl dX1_become_96 (fun H locs hW => ?_)
  refine lv_aload_n hx hb dX1_become_99 rfl (lv_at hl 0 rfl) ?_
  refine lv_aload_n hx hb dX1_become_100 rfl (lv_at hl 1 rfl) ?_
  refine x_get F hW 6 rfl fa_X1_43 rfl dX1_become_101 ?_
  refine x_put F hW 0 rfl fp_X1_43 rfl rfl (Nat.le_of_ble_eq_true rfl) (ws' := cLD G q (w2.1, w2.2.1, w2.2.2.1, w2.2.2.2.1, w2.2.2.2.2.1, w2.2.2.2.2.2.1, w2.2.2.2.2.2.2.1, w2.2.2.2.2.2.2.2.1, w2.2.2.2.2.2.2.2.2) ++ cLD G q2 w2) rfl dX1_become_104 (fun H locs hW => ?_)
  obtain rfl := Option.some.inj h
  exact x_retv F hr hW dX1_become_107
def f_X1_isCell (x1 : Int32) : Option (Int32) :=
  if x1 < 0 then
    some (0 : Int32)
    else
    if (20 : Int32) ≤ x1 then
    some (0 : Int32)
    else
    some (1 : Int32)
abbrev rmX1_isCell : Room := { frames := 0, cells := 0, slots := 0, locals := 0 }
set_option maxRecDepth 100000 in
set_option maxHeartbeats 4000000 in
theorem c_X1_isCell (l : Launch) (G : EnT) (x1 : Int32) (o : Int32) (h : f_X1_isCell x1 = some o) : Mi l yX1_isCell rmX1_isCell cX1_isCell 1 (some .boolean) G false [.int x1] ([]) o ([]) := by
  refine Mi_of (by decide) (Nat.le_of_ble_eq_true rfl) ?_
  intro p e s m below meth c A0 F hr hW ls hl
  obtain ⟨hx, hb, hml, hown, hts, hK, hNW, hlocks, hA, hSX⟩ := id F
  have hl : lv_has ls 1 [(0, .int x1)] := hl
  have hW : Wd G A0 s ([]) s.heap [] := hW
  show W p l e rmX1_isCell s m ([.int x1] : List Value).toArray below meth c s.heap [] 0 0 (Qi below G ([]) o A0 ([.int x1] : List Value).toArray s) (F0 m 0 ls [])
  refine lv_iload_n hx hb dX1_isCell_0 rfl (lv_at hl 0 rfl) ?_
  obtain ⟨ht_1, hf_1⟩ := of_ite h
  refine lv_if_lt (tgt := 14) hx hb dX1_isCell_1 (by decide) (fun c_1 => ?_) (fun c_1 => ?_)
  · have h := ht_1 c_1
    refine lv_iconst (v := (0 : Int32)) hx hb dX1_isCell_14 (by decide) ?_
    obtain rfl := Option.some.inj h
    exact x_retz F hr hW (Or.inl rfl) rfl dX1_isCell_15
  · have h := hf_1 c_1
    refine lv_iload_n hx hb dX1_isCell_4 rfl (lv_at hl 0 rfl) ?_
    refine lv_bipush (v := (20 : Int32)) hx hb dX1_isCell_5 (by decide) ?_
    obtain ⟨ht_7, hf_7⟩ := of_ite h
    refine lv_icmp_ge (tgt := 14) hx hb dX1_isCell_7 (by decide) (fun c_7 => ?_) (fun c_7 => ?_)
    · have h := ht_7 c_7
      refine lv_iconst (v := (0 : Int32)) hx hb dX1_isCell_14 (by decide) ?_
      obtain rfl := Option.some.inj h
      exact x_retz F hr hW (Or.inl rfl) rfl dX1_isCell_15
    · have h := hf_7 c_7
      refine lv_iconst (v := (1 : Int32)) hx hb dX1_isCell_10 (by decide) ?_
      refine lv_goto (tgt := 15) hx hb dX1_isCell_11 (by decide) ?_
      obtain rfl := Option.some.inj h
      exact x_retz F hr hW (Or.inr rfl) rfl dX1_isCell_15
def f_X1_isHouse (w : LD) (x1 : Int32) : Option (Int32) :=
  if x1 < 0 then
    some (0 : Int32)
    else
    if w.2.2.2.2.2.1 ≤ x1 then
    some (0 : Int32)
    else
    some (1 : Int32)
abbrev rmX1_isHouse : Room := { frames := 0, cells := 0, slots := 0, locals := 0 }
set_option maxRecDepth 100000 in
set_option maxHeartbeats 4000000 in
theorem c_X1_isHouse (l : Launch) (G : EnT) (q : Nat → Nat) (w : LD) (x1 : Int32) (o : Int32) (h : f_X1_isHouse w x1 = some o) : Mi l yX1_isHouse rmX1_isHouse cX1_isHouse 2 (some .boolean) G false [.ref (q 0), .int x1] (cLD G q w) o (cLD G q w) := by
  refine Mi_of (by decide) (Nat.le_of_ble_eq_true rfl) ?_
  intro p e s m below meth c A0 F hr hW ls hl
  obtain ⟨hx, hb, hml, hown, hts, hK, hNW, hlocks, hA, hSX⟩ := id F
  have hl : lv_has ls 2 [(0, .ref (q 0)), (1, .int x1)] := hl
  have hW : Wd G A0 s (cLD G q w) s.heap [] := hW
  show W p l e rmX1_isHouse s m ([.ref (q 0), .int x1] : List Value).toArray below meth c s.heap [] 0 0 (Qi below G (cLD G q w) o A0 ([.ref (q 0), .int x1] : List Value).toArray s) (F0 m 0 ls [])
  refine lv_iload_n hx hb dX1_isHouse_0 rfl (lv_at hl 1 rfl) ?_
  obtain ⟨ht_1, hf_1⟩ := of_ite h
  refine lv_if_lt (tgt := 16) hx hb dX1_isHouse_1 (by decide) (fun c_1 => ?_) (fun c_1 => ?_)
  · have h := ht_1 c_1
    refine lv_iconst (v := (0 : Int32)) hx hb dX1_isHouse_16 (by decide) ?_
    obtain rfl := Option.some.inj h
    exact x_retz F hr hW (Or.inl rfl) rfl dX1_isHouse_17
  · have h := hf_1 c_1
    refine lv_iload_n hx hb dX1_isHouse_4 rfl (lv_at hl 1 rfl) ?_
    refine lv_aload_n hx hb dX1_isHouse_5 rfl (lv_at hl 0 rfl) ?_
    refine x_get F hW 0 rfl fa_X1_33 rfl dX1_isHouse_6 ?_
    obtain ⟨ht_9, hf_9⟩ := of_ite h
    refine lv_icmp_ge (tgt := 16) hx hb dX1_isHouse_9 (by decide) (fun c_9 => ?_) (fun c_9 => ?_)
    · have h := ht_9 c_9
      refine lv_iconst (v := (0 : Int32)) hx hb dX1_isHouse_16 (by decide) ?_
      obtain rfl := Option.some.inj h
      exact x_retz F hr hW (Or.inl rfl) rfl dX1_isHouse_17
    · have h := hf_9 c_9
      refine lv_iconst (v := (1 : Int32)) hx hb dX1_isHouse_12 (by decide) ?_
      refine lv_goto (tgt := 17) hx hb dX1_isHouse_13 (by decide) ?_
      obtain rfl := Option.some.inj h
      exact x_retz F hr hW (Or.inr rfl) rfl dX1_isHouse_17
def f_X1_allHouses (w : LD) : Option (Int32) :=
  some (((1 : Int32) <<< (w.2.2.2.2.2.1 &&& 31)) - (1 : Int32))
abbrev rmX1_allHouses : Room := { frames := 0, cells := 0, slots := 0, locals := 0 }
set_option maxRecDepth 100000 in
set_option maxHeartbeats 4000000 in
theorem c_X1_allHouses (l : Launch) (G : EnT) (q : Nat → Nat) (w : LD) (o : Int32) (h : f_X1_allHouses w = some o) : Mi l yX1_allHouses rmX1_allHouses cX1_allHouses 1 (some .int) G false [.ref (q 0)] (cLD G q w) o (cLD G q w) := by
  refine Mi_of (by decide) (Nat.le_of_ble_eq_true rfl) ?_
  intro p e s m below meth c A0 F hr hW ls hl
  obtain ⟨hx, hb, hml, hown, hts, hK, hNW, hlocks, hA, hSX⟩ := id F
  have hl : lv_has ls 1 [(0, .ref (q 0))] := hl
  have hW : Wd G A0 s (cLD G q w) s.heap [] := hW
  show W p l e rmX1_allHouses s m ([.ref (q 0)] : List Value).toArray below meth c s.heap [] 0 0 (Qi below G (cLD G q w) o A0 ([.ref (q 0)] : List Value).toArray s) (F0 m 0 ls [])
  refine lv_iconst (v := (1 : Int32)) hx hb dX1_allHouses_0 (by decide) ?_
  refine lv_aload_n hx hb dX1_allHouses_1 rfl (lv_at hl 0 rfl) ?_
  refine x_get F hW 0 rfl fa_X1_33 rfl dX1_allHouses_2 ?_
  refine lv_ishl hx hb dX1_allHouses_5 ?_
  refine lv_iconst (v := (1 : Int32)) hx hb dX1_allHouses_6 (by decide) ?_
  refine lv_isub hx hb dX1_allHouses_7 ?_
  obtain rfl := Option.some.inj h
  exact x_reti F hr hW rfl dX1_allHouses_8
def f_X1_putHeight (w : LD) (x1 : Int32) (x2 : Int32) : Option (Int32 × LD) :=
  Option.bind (f_X1_isCell x1) fun p_1 =>
    if p_1 = 0 then
    some ((0 : Int32), w)
    else
    if inR x1 20 then
    some ((1 : Int32), ((upd w.1 x1.toNatClampNeg x2), w.2.1, w.2.2.1, w.2.2.2.1, w.2.2.2.2.1, w.2.2.2.2.2.1, w.2.2.2.2.2.2.1, w.2.2.2.2.2.2.2.1, w.2.2.2.2.2.2.2.2))
    else none
abbrev rmX1_putHeight : Room := { frames := 1, cells := 0, slots := 0, locals := 20 }
set_option maxRecDepth 100000 in
set_option maxHeartbeats 4000000 in
theorem c_X1_putHeight (l : Launch) (G : EnT) (q : Nat → Nat) (w : LD) (x1 : Int32) (x2 : Int32) (o : Int32 × LD) (h : f_X1_putHeight w x1 x2 = some o) : Mi l yX1_putHeight rmX1_putHeight cX1_putHeight 3 (some .boolean) G false [.ref (q 0), .int x1, .int x2] (cLD G q w) o.1 (cLD G q o.2) := by
  refine Mi_of (by decide) (Nat.le_of_ble_eq_true rfl) ?_
  intro p e s m below meth c A0 F hr hW ls hl
  obtain ⟨hx, hb, hml, hown, hts, hK, hNW, hlocks, hA, hSX⟩ := id F
  have hl : lv_has ls 3 [(0, .ref (q 0)), (1, .int x1), (2, .int x2)] := hl
  have hW : Wd G A0 s (cLD G q w) s.heap [] := hW
  show W p l e rmX1_putHeight s m ([.ref (q 0), .int x1, .int x2] : List Value).toArray below meth c s.heap [] 0 0 (Qi below G (cLD G q o.2) o.1 A0 ([.ref (q 0), .int x1, .int x2] : List Value).toArray s) (F0 m 0 ls [])
  refine lv_iload_n hx hb dX1_putHeight_0 rfl (lv_at hl 1 rfl) ?_
  obtain ⟨p_1, hc_1, h⟩ := of_bind h
  refine x_Si (av := [.int x1]) F hW (c_X1_isCell l G x1 _ hc_1) [] rfl rfl (by intro q; cases q) cs_X1_46 rfl rfl hl (Nat.le_of_ble_eq_true rfl) ⟨Nat.le_of_ble_eq_true rfl, Nat.le_of_ble_eq_true rfl⟩ ⟨rfl, rfl⟩ ⟨Nat.le_of_ble_eq_true rfl, Nat.le_of_ble_eq_true rfl⟩ dX1_putHeight_1 rfl [none, none, none, none, none, none] rfl (ws' := cLD G q w) rfl (fun H locs hW => ?_)
  obtain ⟨ht_4, hf_4⟩ := of_ite h
  refine lv_if_ne (tgt := 9) hx hb dX1_putHeight_4 (by decide) (fun c_4 => ?_) (fun c_4 => ?_)
  · have h := hf_4 c_4
    refine lv_aload_n hx hb dX1_putHeight_9 rfl (lv_at hl 0 rfl) ?_
    refine x_get F hW 0 rfl fa_X1_9 rfl dX1_putHeight_10 ?_
    refine lv_iload_n hx hb dX1_putHeight_13 rfl (lv_at hl 1 rfl) ?_
    refine lv_iload_n hx hb dX1_putHeight_14 rfl (lv_at hl 2 rfl) ?_
    obtain ⟨g_15, h⟩ := of_guard h
    refine x_iast F hW 1 rfl g_15 (ws' := cLD G q ((upd w.1 x1.toNatClampNeg x2), w.2.1, w.2.2.1, w.2.2.2.1, w.2.2.2.2.1, w.2.2.2.2.2.1, w.2.2.2.2.2.2.1, w.2.2.2.2.2.2.2.1, w.2.2.2.2.2.2.2.2)) rfl dX1_putHeight_15 (fun H locs hW => ?_)
    refine lv_iconst (v := (1 : Int32)) hx hb dX1_putHeight_16 (by decide) ?_
    obtain rfl := Option.some.inj h
    exact x_retz F hr hW (Or.inr rfl) rfl dX1_putHeight_17
  · have h := ht_4 c_4
    refine lv_iconst (v := (0 : Int32)) hx hb dX1_putHeight_7 (by decide) ?_
    obtain rfl := Option.some.inj h
    exact x_retz F hr hW (Or.inl rfl) rfl dX1_putHeight_8
def f_X1_addHouse (w : LD) (x1 : Int32) (x2 : Int32) (x3 : Int32) : Option (Int32 × LD) :=
  if (8 : Int32) ≤ w.2.2.2.2.2.1 then
    some ((0 : Int32), w)
    else
    Option.bind (f_X1_isCell x3) fun p_10 =>
    if p_10 = 0 then
    some ((0 : Int32), w)
    else
    if inR w.2.2.2.2.2.1 8 then
    if inR w.2.2.2.2.2.1 8 then
    if inR w.2.2.2.2.2.1 8 then
    if inR w.2.2.2.2.2.1 8 then
    some ((1 : Int32), (w.1, (upd w.2.1 w.2.2.2.2.2.1.toNatClampNeg x1), (upd w.2.2.1 w.2.2.2.2.2.1.toNatClampNeg x2), (upd w.2.2.2.1 w.2.2.2.2.2.1.toNatClampNeg x3), (upd w.2.2.2.2.1 w.2.2.2.2.2.1.toNatClampNeg (20 : Int32)), (w.2.2.2.2.2.1 + (1 : Int32)), w.2.2.2.2.2.2.1, w.2.2.2.2.2.2.2.1, w.2.2.2.2.2.2.2.2))
    else none
    else none
    else none
    else none
abbrev rmX1_addHouse : Room := { frames := 1, cells := 0, slots := 0, locals := 20 }
set_option maxRecDepth 100000 in
set_option maxHeartbeats 4000000 in
theorem c_X1_addHouse (l : Launch) (G : EnT) (q : Nat → Nat) (w : LD) (x1 : Int32) (x2 : Int32) (x3 : Int32) (o : Int32 × LD) (h : f_X1_addHouse w x1 x2 x3 = some o) : Mi l yX1_addHouse rmX1_addHouse cX1_addHouse 4 (some .boolean) G false [.ref (q 0), .int x1, .int x2, .int x3] (cLD G q w) o.1 (cLD G q o.2) := by
  refine Mi_of (by decide) (Nat.le_of_ble_eq_true rfl) ?_
  intro p e s m below meth c A0 F hr hW ls hl
  obtain ⟨hx, hb, hml, hown, hts, hK, hNW, hlocks, hA, hSX⟩ := id F
  have hl : lv_has ls 4 [(0, .ref (q 0)), (1, .int x1), (2, .int x2), (3, .int x3)] := hl
  have hW : Wd G A0 s (cLD G q w) s.heap [] := hW
  show W p l e rmX1_addHouse s m ([.ref (q 0), .int x1, .int x2, .int x3] : List Value).toArray below meth c s.heap [] 0 0 (Qi below G (cLD G q o.2) o.1 A0 ([.ref (q 0), .int x1, .int x2, .int x3] : List Value).toArray s) (F0 m 0 ls [])
  refine lv_aload_n hx hb dX1_addHouse_0 rfl (lv_at hl 0 rfl) ?_
  refine x_get F hW 0 rfl fa_X1_33 rfl dX1_addHouse_1 ?_
  refine lv_bipush (v := (8 : Int32)) hx hb dX1_addHouse_4 (by decide) ?_
  obtain ⟨ht_6, hf_6⟩ := of_ite h
  refine lv_icmp_ge (tgt := 16) hx hb dX1_addHouse_6 (by decide) (fun c_6 => ?_) (fun c_6 => ?_)
  · have h := ht_6 c_6
    refine lv_iconst (v := (0 : Int32)) hx hb dX1_addHouse_16 (by decide) ?_
    obtain rfl := Option.some.inj h
    exact x_retz F hr hW (Or.inl rfl) rfl dX1_addHouse_17
  · have h := hf_6 c_6
    refine lv_iload_n hx hb dX1_addHouse_9 rfl (lv_at hl 3 rfl) ?_
    obtain ⟨p_10, hc_10, h⟩ := of_bind h
    refine x_Si (av := [.int x3]) F hW (c_X1_isCell l G x3 _ hc_10) [] rfl rfl (by intro q; cases q) cs_X1_46 rfl rfl hl (Nat.le_of_ble_eq_true rfl) ⟨Nat.le_of_ble_eq_true rfl, Nat.le_of_ble_eq_true rfl⟩ ⟨rfl, rfl⟩ ⟨Nat.le_of_ble_eq_true rfl, Nat.le_of_ble_eq_true rfl⟩ dX1_addHouse_10 rfl [none, none, none, none, none, none] rfl (ws' := cLD G q w) rfl (fun H locs hW => ?_)
    obtain ⟨ht_13, hf_13⟩ := of_ite h
    refine lv_if_ne (tgt := 18) hx hb dX1_addHouse_13 (by decide) (fun c_13 => ?_) (fun c_13 => ?_)
    · have h := hf_13 c_13
      refine lv_aload_n hx hb dX1_addHouse_18 rfl (lv_at hl 0 rfl) ?_
      refine x_get F hW 0 rfl fa_X1_15 rfl dX1_addHouse_19 ?_
      refine lv_aload_n hx hb dX1_addHouse_22 rfl (lv_at hl 0 rfl) ?_
      refine x_get F hW 0 rfl fa_X1_33 rfl dX1_addHouse_23 ?_
      refine lv_iload_n hx hb dX1_addHouse_26 rfl (lv_at hl 1 rfl) ?_
      obtain ⟨g_27, h⟩ := of_guard h
      refine x_iast F hW 2 rfl g_27 (ws' := cLD G q (w.1, (upd w.2.1 w.2.2.2.2.2.1.toNatClampNeg x1), w.2.2.1, w.2.2.2.1, w.2.2.2.2.1, w.2.2.2.2.2.1, w.2.2.2.2.2.2.1, w.2.2.2.2.2.2.2.1, w.2.2.2.2.2.2.2.2)) rfl dX1_addHouse_27 (fun H locs hW => ?_)
      refine lv_aload_n hx hb dX1_addHouse_28 rfl (lv_at hl 0 rfl) ?_
      refine x_get F hW 0 rfl fa_X1_18 rfl dX1_addHouse_29 ?_
      refine lv_aload_n hx hb dX1_addHouse_32 rfl (lv_at hl 0 rfl) ?_
      refine x_get F hW 0 rfl fa_X1_33 rfl dX1_addHouse_33 ?_
      refine lv_iload_n hx hb dX1_addHouse_36 rfl (lv_at hl 2 rfl) ?_
      obtain ⟨g_37, h⟩ := of_guard h
      refine x_iast F hW 3 rfl g_37 (ws' := cLD G q (w.1, (upd w.2.1 w.2.2.2.2.2.1.toNatClampNeg x1), (upd w.2.2.1 w.2.2.2.2.2.1.toNatClampNeg x2), w.2.2.2.1, w.2.2.2.2.1, w.2.2.2.2.2.1, w.2.2.2.2.2.2.1, w.2.2.2.2.2.2.2.1, w.2.2.2.2.2.2.2.2)) rfl dX1_addHouse_37 (fun H locs hW => ?_)
      refine lv_aload_n hx hb dX1_addHouse_38 rfl (lv_at hl 0 rfl) ?_
      refine x_get F hW 0 rfl fa_X1_21 rfl dX1_addHouse_39 ?_
      refine lv_aload_n hx hb dX1_addHouse_42 rfl (lv_at hl 0 rfl) ?_
      refine x_get F hW 0 rfl fa_X1_33 rfl dX1_addHouse_43 ?_
      refine lv_iload_n hx hb dX1_addHouse_46 rfl (lv_at hl 3 rfl) ?_
      obtain ⟨g_47, h⟩ := of_guard h
      refine x_iast F hW 4 rfl g_47 (ws' := cLD G q (w.1, (upd w.2.1 w.2.2.2.2.2.1.toNatClampNeg x1), (upd w.2.2.1 w.2.2.2.2.2.1.toNatClampNeg x2), (upd w.2.2.2.1 w.2.2.2.2.2.1.toNatClampNeg x3), w.2.2.2.2.1, w.2.2.2.2.2.1, w.2.2.2.2.2.2.1, w.2.2.2.2.2.2.2.1, w.2.2.2.2.2.2.2.2)) rfl dX1_addHouse_47 (fun H locs hW => ?_)
      refine lv_aload_n hx hb dX1_addHouse_48 rfl (lv_at hl 0 rfl) ?_
      refine x_get F hW 0 rfl fa_X1_24 rfl dX1_addHouse_49 ?_
      refine lv_aload_n hx hb dX1_addHouse_52 rfl (lv_at hl 0 rfl) ?_
      refine x_get F hW 0 rfl fa_X1_33 rfl dX1_addHouse_53 ?_
      refine lv_bipush (v := (20 : Int32)) hx hb dX1_addHouse_56 (by decide) ?_
      obtain ⟨g_58, h⟩ := of_guard h
      refine x_iast F hW 5 rfl g_58 (ws' := cLD G q (w.1, (upd w.2.1 w.2.2.2.2.2.1.toNatClampNeg x1), (upd w.2.2.1 w.2.2.2.2.2.1.toNatClampNeg x2), (upd w.2.2.2.1 w.2.2.2.2.2.1.toNatClampNeg x3), (upd w.2.2.2.2.1 w.2.2.2.2.2.1.toNatClampNeg (20 : Int32)), w.2.2.2.2.2.1, w.2.2.2.2.2.2.1, w.2.2.2.2.2.2.2.1, w.2.2.2.2.2.2.2.2)) rfl dX1_addHouse_58 (fun H locs hW => ?_)
      refine lv_aload_n hx hb dX1_addHouse_59 rfl (lv_at hl 0 rfl) ?_
      refine lv_dup hx hb dX1_addHouse_60 rfl ?_
      refine x_get F hW 0 rfl fa_X1_33 rfl dX1_addHouse_61 ?_
      refine lv_iconst (v := (1 : Int32)) hx hb dX1_addHouse_64 (by decide) ?_
      refine lv_iadd hx hb dX1_addHouse_65 ?_
      refine x_put F hW 0 rfl fp_X1_33 rfl rfl (Nat.le_of_ble_eq_true rfl) (ws' := cLD G q (w.1, (upd w.2.1 w.2.2.2.2.2.1.toNatClampNeg x1), (upd w.2.2.1 w.2.2.2.2.2.1.toNatClampNeg x2), (upd w.2.2.2.1 w.2.2.2.2.2.1.toNatClampNeg x3), (upd w.2.2.2.2.1 w.2.2.2.2.2.1.toNatClampNeg (20 : Int32)), (w.2.2.2.2.2.1 + (1 : Int32)), w.2.2.2.2.2.2.1, w.2.2.2.2.2.2.2.1, w.2.2.2.2.2.2.2.2)) rfl dX1_addHouse_66 (fun H locs hW => ?_)
      refine lv_iconst (v := (1 : Int32)) hx hb dX1_addHouse_69 (by decide) ?_
      obtain rfl := Option.some.inj h
      exact x_retz F hr hW (Or.inr rfl) rfl dX1_addHouse_70
    · have h := ht_13 c_13
      refine lv_iconst (v := (0 : Int32)) hx hb dX1_addHouse_16 (by decide) ?_
      obtain rfl := Option.some.inj h
      exact x_retz F hr hW (Or.inl rfl) rfl dX1_addHouse_17
def f_X1_putHouse (w : LD) (x1 : Int32) (x2 : Int32) : Option (Int32 × LD) :=
  Option.bind (f_X1_isHouse w x1) fun p_2 =>
    if p_2 = 0 then
    some ((0 : Int32), w)
    else
    Option.bind (f_X1_isCell x2) fun p_9 =>
    if p_9 = 0 then
    some ((0 : Int32), w)
    else
    if inR x1 8 then
    some ((1 : Int32), (w.1, w.2.1, w.2.2.1, (upd w.2.2.2.1 x1.toNatClampNeg x2), w.2.2.2.2.1, w.2.2.2.2.2.1, w.2.2.2.2.2.2.1, w.2.2.2.2.2.2.2.1, w.2.2.2.2.2.2.2.2))
    else none
abbrev rmX1_putHouse : Room := { frames := 1, cells := 0, slots := 0, locals := 21 }
set_option maxRecDepth 100000 in
set_option maxHeartbeats 4000000 in
theorem c_X1_putHouse (l : Launch) (G : EnT) (q : Nat → Nat) (w : LD) (x1 : Int32) (x2 : Int32) (o : Int32 × LD) (h : f_X1_putHouse w x1 x2 = some o) : Mi l yX1_putHouse rmX1_putHouse cX1_putHouse 3 (some .boolean) G false [.ref (q 0), .int x1, .int x2] (cLD G q w) o.1 (cLD G q o.2) := by
  refine Mi_of (by decide) (Nat.le_of_ble_eq_true rfl) ?_
  intro p e s m below meth c A0 F hr hW ls hl
  obtain ⟨hx, hb, hml, hown, hts, hK, hNW, hlocks, hA, hSX⟩ := id F
  have hl : lv_has ls 3 [(0, .ref (q 0)), (1, .int x1), (2, .int x2)] := hl
  have hW : Wd G A0 s (cLD G q w) s.heap [] := hW
  show W p l e rmX1_putHouse s m ([.ref (q 0), .int x1, .int x2] : List Value).toArray below meth c s.heap [] 0 0 (Qi below G (cLD G q o.2) o.1 A0 ([.ref (q 0), .int x1, .int x2] : List Value).toArray s) (F0 m 0 ls [])
  refine lv_aload_n hx hb dX1_putHouse_0 rfl (lv_at hl 0 rfl) ?_
  refine lv_iload_n hx hb dX1_putHouse_1 rfl (lv_at hl 1 rfl) ?_
  obtain ⟨p_2, hc_2, h⟩ := of_bind h
  refine x_Vi (av := [.ref (q 0), .int x1]) (As := [.int x1]) F hW (c_X1_isHouse l G q w x1 _ hc_2) [0, 1, 2, 3, 4, 5] rfl rfl (by intro q; cases q) cv_X1_50 rfl ⟨_, rfl, rfl⟩ rfl rfl rfl hl (Nat.le_of_ble_eq_true rfl) ⟨Nat.le_of_ble_eq_true rfl, Nat.le_of_ble_eq_true rfl⟩ ⟨rfl, rfl⟩ ⟨Nat.le_of_ble_eq_true rfl, Nat.le_of_ble_eq_true rfl⟩ dX1_putHouse_2 rfl [some 0, some 1, some 2, some 3, some 4, some 5] rfl (ws' := cLD G q w) rfl (fun H locs hW => ?_)
  obtain ⟨ht_5, hf_5⟩ := of_ite h
  refine lv_if_eq (tgt := 15) hx hb dX1_putHouse_5 (by decide) (fun c_5 => ?_) (fun c_5 => ?_)
  · have h := ht_5 c_5
    refine lv_iconst (v := (0 : Int32)) hx hb dX1_putHouse_15 (by decide) ?_
    obtain rfl := Option.some.inj h
    exact x_retz F hr hW (Or.inl rfl) rfl dX1_putHouse_16
  · have h := hf_5 c_5
    refine lv_iload_n hx hb dX1_putHouse_8 rfl (lv_at hl 2 rfl) ?_
    obtain ⟨p_9, hc_9, h⟩ := of_bind h
    refine x_Si (av := [.int x2]) F hW (c_X1_isCell l G x2 _ hc_9) [] rfl rfl (by intro q; cases q) cs_X1_46 rfl rfl hl (Nat.le_of_ble_eq_true rfl) ⟨Nat.le_of_ble_eq_true rfl, Nat.le_of_ble_eq_true rfl⟩ ⟨rfl, rfl⟩ ⟨Nat.le_of_ble_eq_true rfl, Nat.le_of_ble_eq_true rfl⟩ dX1_putHouse_9 rfl [none, none, none, none, none, none] rfl (ws' := cLD G q w) rfl (fun H locs hW => ?_)
    obtain ⟨ht_12, hf_12⟩ := of_ite h
    refine lv_if_ne (tgt := 17) hx hb dX1_putHouse_12 (by decide) (fun c_12 => ?_) (fun c_12 => ?_)
    · have h := hf_12 c_12
      refine lv_aload_n hx hb dX1_putHouse_17 rfl (lv_at hl 0 rfl) ?_
      refine x_get F hW 0 rfl fa_X1_21 rfl dX1_putHouse_18 ?_
      refine lv_iload_n hx hb dX1_putHouse_21 rfl (lv_at hl 1 rfl) ?_
      refine lv_iload_n hx hb dX1_putHouse_22 rfl (lv_at hl 2 rfl) ?_
      obtain ⟨g_23, h⟩ := of_guard h
      refine x_iast F hW 4 rfl g_23 (ws' := cLD G q (w.1, w.2.1, w.2.2.1, (upd w.2.2.2.1 x1.toNatClampNeg x2), w.2.2.2.2.1, w.2.2.2.2.2.1, w.2.2.2.2.2.2.1, w.2.2.2.2.2.2.2.1, w.2.2.2.2.2.2.2.2)) rfl dX1_putHouse_23 (fun H locs hW => ?_)
      refine lv_iconst (v := (1 : Int32)) hx hb dX1_putHouse_24 (by decide) ?_
      obtain rfl := Option.some.inj h
      exact x_retz F hr hW (Or.inr rfl) rfl dX1_putHouse_25
    · have h := ht_12 c_12
      refine lv_iconst (v := (0 : Int32)) hx hb dX1_putHouse_15 (by decide) ?_
      obtain rfl := Option.some.inj h
      exact x_retz F hr hW (Or.inl rfl) rfl dX1_putHouse_16
def f_X1_addWicks (w : LD) (x1 : Int32) (x2 : Int32) : Option (Int32 × LD) :=
  Option.bind (f_X1_isHouse w x1) fun p_2 =>
    if p_2 = 0 then
    some ((0 : Int32), w)
    else
    if inR x1 8 then
    if inR x1 8 then
    some ((1 : Int32), (w.1, w.2.1, w.2.2.1, w.2.2.2.1, (upd w.2.2.2.2.1 x1.toNatClampNeg (minI (99 : Int32) ((w.2.2.2.2.1 x1.toNatClampNeg) + x2))), w.2.2.2.2.2.1, w.2.2.2.2.2.2.1, w.2.2.2.2.2.2.2.1, w.2.2.2.2.2.2.2.2))
    else none
    else none
abbrev rmX1_addWicks : Room := { frames := 1, cells := 0, slots := 0, locals := 21 }
set_option maxRecDepth 100000 in
set_option maxHeartbeats 4000000 in
theorem c_X1_addWicks (l : Launch) (G : EnT) (q : Nat → Nat) (w : LD) (x1 : Int32) (x2 : Int32) (o : Int32 × LD) (h : f_X1_addWicks w x1 x2 = some o) : Mi l yX1_addWicks rmX1_addWicks cX1_addWicks 3 (some .boolean) G false [.ref (q 0), .int x1, .int x2] (cLD G q w) o.1 (cLD G q o.2) := by
  refine Mi_of (by decide) (Nat.le_of_ble_eq_true rfl) ?_
  intro p e s m below meth c A0 F hr hW ls hl
  obtain ⟨hx, hb, hml, hown, hts, hK, hNW, hlocks, hA, hSX⟩ := id F
  have hl : lv_has ls 3 [(0, .ref (q 0)), (1, .int x1), (2, .int x2)] := hl
  have hW : Wd G A0 s (cLD G q w) s.heap [] := hW
  show W p l e rmX1_addWicks s m ([.ref (q 0), .int x1, .int x2] : List Value).toArray below meth c s.heap [] 0 0 (Qi below G (cLD G q o.2) o.1 A0 ([.ref (q 0), .int x1, .int x2] : List Value).toArray s) (F0 m 0 ls [])
  refine lv_aload_n hx hb dX1_addWicks_0 rfl (lv_at hl 0 rfl) ?_
  refine lv_iload_n hx hb dX1_addWicks_1 rfl (lv_at hl 1 rfl) ?_
  obtain ⟨p_2, hc_2, h⟩ := of_bind h
  refine x_Vi (av := [.ref (q 0), .int x1]) (As := [.int x1]) F hW (c_X1_isHouse l G q w x1 _ hc_2) [0, 1, 2, 3, 4, 5] rfl rfl (by intro q; cases q) cv_X1_50 rfl ⟨_, rfl, rfl⟩ rfl rfl rfl hl (Nat.le_of_ble_eq_true rfl) ⟨Nat.le_of_ble_eq_true rfl, Nat.le_of_ble_eq_true rfl⟩ ⟨rfl, rfl⟩ ⟨Nat.le_of_ble_eq_true rfl, Nat.le_of_ble_eq_true rfl⟩ dX1_addWicks_2 rfl [some 0, some 1, some 2, some 3, some 4, some 5] rfl (ws' := cLD G q w) rfl (fun H locs hW => ?_)
  obtain ⟨ht_5, hf_5⟩ := of_ite h
  refine lv_if_ne (tgt := 10) hx hb dX1_addWicks_5 (by decide) (fun c_5 => ?_) (fun c_5 => ?_)
  · have h := hf_5 c_5
    refine lv_aload_n hx hb dX1_addWicks_10 rfl (lv_at hl 0 rfl) ?_
    refine x_get F hW 0 rfl fa_X1_24 rfl dX1_addWicks_11 ?_
    refine lv_iload_n hx hb dX1_addWicks_14 rfl (lv_at hl 1 rfl) ?_
    refine lv_bipush (v := (99 : Int32)) hx hb dX1_addWicks_15 (by decide) ?_
    refine lv_aload_n hx hb dX1_addWicks_17 rfl (lv_at hl 0 rfl) ?_
    refine x_get F hW 0 rfl fa_X1_24 rfl dX1_addWicks_18 ?_
    refine lv_iload_n hx hb dX1_addWicks_21 rfl (lv_at hl 1 rfl) ?_
    obtain ⟨g_22, h⟩ := of_guard h
    refine x_iald F hW 5 rfl g_22 dX1_addWicks_22 ?_
    refine lv_iload_n hx hb dX1_addWicks_23 rfl (lv_at hl 2 rfl) ?_
    refine lv_iadd hx hb dX1_addWicks_24 ?_
    refine va_mmin hx hb (hml.trans hl.1.symm) hown (hts _ wd_379) (hts _ wd_289) (hts _ wd_11) (hts _ wd_290) (Nat.le_of_ble_eq_true rfl) (Nat.le_of_ble_eq_true rfl) (Nat.le_of_ble_eq_true rfl) (Nat.le_of_ble_eq_true rfl) dX1_addWicks_25 ?_
    obtain ⟨g_28, h⟩ := of_guard h
    refine x_iast F hW 5 rfl g_28 (ws' := cLD G q (w.1, w.2.1, w.2.2.1, w.2.2.2.1, (upd w.2.2.2.2.1 x1.toNatClampNeg (minI (99 : Int32) ((w.2.2.2.2.1 x1.toNatClampNeg) + x2))), w.2.2.2.2.2.1, w.2.2.2.2.2.2.1, w.2.2.2.2.2.2.2.1, w.2.2.2.2.2.2.2.2)) rfl dX1_addWicks_28 (fun H locs hW => ?_)
    refine lv_iconst (v := (1 : Int32)) hx hb dX1_addWicks_29 (by decide) ?_
    obtain rfl := Option.some.inj h
    exact x_retz F hr hW (Or.inr rfl) rfl dX1_addWicks_30
  · have h := ht_5 c_5
    refine lv_iconst (v := (0 : Int32)) hx hb dX1_addWicks_8 (by decide) ?_
    obtain rfl := Option.some.inj h
    exact x_retz F hr hW (Or.inl rfl) rfl dX1_addWicks_9
def f_X1_switchCall (w : LD) (x1 : Int32) : Option (Int32 × LD) :=
  Option.bind (f_X1_isHouse w x1) fun p_2 =>
    if p_2 = 0 then
    some ((0 : Int32), w)
    else
    some ((1 : Int32), (w.1, w.2.1, w.2.2.1, w.2.2.2.1, w.2.2.2.2.1, w.2.2.2.2.2.1, (w.2.2.2.2.2.2.1 ^^^ ((1 : Int32) <<< (x1 &&& 31))), w.2.2.2.2.2.2.2.1, w.2.2.2.2.2.2.2.2))
abbrev rmX1_switchCall : Room := { frames := 1, cells := 0, slots := 0, locals := 21 }
set_option maxRecDepth 100000 in
set_option maxHeartbeats 4000000 in
theorem c_X1_switchCall (l : Launch) (G : EnT) (q : Nat → Nat) (w : LD) (x1 : Int32) (o : Int32 × LD) (h : f_X1_switchCall w x1 = some o) : Mi l yX1_switchCall rmX1_switchCall cX1_switchCall 2 (some .boolean) G false [.ref (q 0), .int x1] (cLD G q w) o.1 (cLD G q o.2) := by
  refine Mi_of (by decide) (Nat.le_of_ble_eq_true rfl) ?_
  intro p e s m below meth c A0 F hr hW ls hl
  obtain ⟨hx, hb, hml, hown, hts, hK, hNW, hlocks, hA, hSX⟩ := id F
  have hl : lv_has ls 2 [(0, .ref (q 0)), (1, .int x1)] := hl
  have hW : Wd G A0 s (cLD G q w) s.heap [] := hW
  show W p l e rmX1_switchCall s m ([.ref (q 0), .int x1] : List Value).toArray below meth c s.heap [] 0 0 (Qi below G (cLD G q o.2) o.1 A0 ([.ref (q 0), .int x1] : List Value).toArray s) (F0 m 0 ls [])
  refine lv_aload_n hx hb dX1_switchCall_0 rfl (lv_at hl 0 rfl) ?_
  refine lv_iload_n hx hb dX1_switchCall_1 rfl (lv_at hl 1 rfl) ?_
  obtain ⟨p_2, hc_2, h⟩ := of_bind h
  refine x_Vi (av := [.ref (q 0), .int x1]) (As := [.int x1]) F hW (c_X1_isHouse l G q w x1 _ hc_2) [0, 1, 2, 3, 4, 5] rfl rfl (by intro q; cases q) cv_X1_50 rfl ⟨_, rfl, rfl⟩ rfl rfl rfl hl (Nat.le_of_ble_eq_true rfl) ⟨Nat.le_of_ble_eq_true rfl, Nat.le_of_ble_eq_true rfl⟩ ⟨rfl, rfl⟩ ⟨Nat.le_of_ble_eq_true rfl, Nat.le_of_ble_eq_true rfl⟩ dX1_switchCall_2 rfl [some 0, some 1, some 2, some 3, some 4, some 5] rfl (ws' := cLD G q w) rfl (fun H locs hW => ?_)
  obtain ⟨ht_5, hf_5⟩ := of_ite h
  refine lv_if_ne (tgt := 10) hx hb dX1_switchCall_5 (by decide) (fun c_5 => ?_) (fun c_5 => ?_)
  · have h := hf_5 c_5
    refine lv_aload_n hx hb dX1_switchCall_10 rfl (lv_at hl 0 rfl) ?_
    refine lv_dup hx hb dX1_switchCall_11 rfl ?_
    refine x_get F hW 0 rfl fa_X1_37 rfl dX1_switchCall_12 ?_
    refine lv_iconst (v := (1 : Int32)) hx hb dX1_switchCall_15 (by decide) ?_
    refine lv_iload_n hx hb dX1_switchCall_16 rfl (lv_at hl 1 rfl) ?_
    refine lv_ishl hx hb dX1_switchCall_17 ?_
    refine lv_ixor hx hb dX1_switchCall_18 ?_
    refine x_put F hW 0 rfl fp_X1_37 rfl rfl (Nat.le_of_ble_eq_true rfl) (ws' := cLD G q (w.1, w.2.1, w.2.2.1, w.2.2.2.1, w.2.2.2.2.1, w.2.2.2.2.2.1, (w.2.2.2.2.2.2.1 ^^^ ((1 : Int32) <<< (x1 &&& 31))), w.2.2.2.2.2.2.2.1, w.2.2.2.2.2.2.2.2)) rfl dX1_switchCall_19 (fun H locs hW => ?_)
    refine lv_iconst (v := (1 : Int32)) hx hb dX1_switchCall_22 (by decide) ?_
    obtain rfl := Option.some.inj h
    exact x_retz F hr hW (Or.inr rfl) rfl dX1_switchCall_23
  · have h := ht_5 c_5
    refine lv_iconst (v := (0 : Int32)) hx hb dX1_switchCall_8 (by decide) ?_
    obtain rfl := Option.some.inj h
    exact x_retz F hr hW (Or.inl rfl) rfl dX1_switchCall_9
def f_X5_has (x1 : Int32) (x2 : Int32) : Option (Int32) :=
  if ((x1 >>> (x2 &&& 31)) &&& (1 : Int32)) = 0 then
    some (0 : Int32)
    else
    some (1 : Int32)
abbrev rmX5_has : Room := { frames := 0, cells := 0, slots := 0, locals := 0 }
set_option maxRecDepth 100000 in
set_option maxHeartbeats 4000000 in
theorem c_X5_has (l : Launch) (G : EnT) (x1 : Int32) (x2 : Int32) (o : Int32) (h : f_X5_has x1 x2 = some o) : Mi l yX5_has rmX5_has cX5_has 2 (some .boolean) G false [.int x1, .int x2] ([]) o ([]) := by
  refine Mi_of (by decide) (Nat.le_of_ble_eq_true rfl) ?_
  intro p e s m below meth c A0 F hr hW ls hl
  obtain ⟨hx, hb, hml, hown, hts, hK, hNW, hlocks, hA, hSX⟩ := id F
  have hl : lv_has ls 2 [(0, .int x1), (1, .int x2)] := hl
  have hW : Wd G A0 s ([]) s.heap [] := hW
  show W p l e rmX5_has s m ([.int x1, .int x2] : List Value).toArray below meth c s.heap [] 0 0 (Qi below G ([]) o A0 ([.int x1, .int x2] : List Value).toArray s) (F0 m 0 ls [])
  refine lv_iload_n hx hb dX5_has_0 rfl (lv_at hl 0 rfl) ?_
  refine lv_iload_n hx hb dX5_has_1 rfl (lv_at hl 1 rfl) ?_
  refine lv_ishr hx hb dX5_has_2 ?_
  refine lv_iconst (v := (1 : Int32)) hx hb dX5_has_3 (by decide) ?_
  refine lv_iand hx hb dX5_has_4 ?_
  obtain ⟨ht_5, hf_5⟩ := of_ite h
  refine lv_if_eq (tgt := 12) hx hb dX5_has_5 (by decide) (fun c_5 => ?_) (fun c_5 => ?_)
  · have h := ht_5 c_5
    refine lv_iconst (v := (0 : Int32)) hx hb dX5_has_12 (by decide) ?_
    obtain rfl := Option.some.inj h
    exact x_retz F hr hW (Or.inl rfl) rfl dX5_has_13
  · have h := hf_5 c_5
    refine lv_iconst (v := (1 : Int32)) hx hb dX5_has_8 (by decide) ?_
    refine lv_goto (tgt := 13) hx hb dX5_has_9 (by decide) ?_
    obtain rfl := Option.some.inj h
    exact x_retz F hr hW (Or.inr rfl) rfl dX5_has_13
def f_X1_isLit (w : LD) (x1 : Int32) : Option (Int32) :=
  if inR x1 8 then
    if inR x1 8 then
    Option.bind (f_X0_burnsOf (w.2.1 x1.toNatClampNeg)) fun p_12 =>
    if (w.2.2.2.2.1 x1.toNatClampNeg) < p_12 then
    some (0 : Int32)
    else
    Option.bind (f_X5_has w.2.2.2.2.2.2.1 x1) fun p_23 =>
    if p_23 = 0 then
    if inR x1 8 then
    if inR x1 8 then
    Option.bind (f_X0_sleepsIn (w.2.1 x1.toNatClampNeg) (w.2.2.1 x1.toNatClampNeg) w.2.2.2.2.2.2.2.2) fun p_45 =>
    if p_45 = 0 then
    some (1 : Int32)
    else
    some (0 : Int32)
    else none
    else none
    else
    some (1 : Int32)
    else none
    else none
abbrev rmX1_isLit : Room := { frames := 1, cells := 0, slots := 0, locals := 23 }
set_option maxRecDepth 100000 in
set_option maxHeartbeats 4000000 in
theorem c_X1_isLit (l : Launch) (G : EnT) (q : Nat → Nat) (w : LD) (x1 : Int32) (o : Int32) (h : f_X1_isLit w x1 = some o) : Mi l yX1_isLit rmX1_isLit cX1_isLit 2 (some .boolean) G false [.ref (q 0), .int x1] (cLD G q w) o (cLD G q w) := by
  refine Mi_of (by decide) (Nat.le_of_ble_eq_true rfl) ?_
  intro p e s m below meth c A0 F hr hW ls hl
  obtain ⟨hx, hb, hml, hown, hts, hK, hNW, hlocks, hA, hSX⟩ := id F
  have hl : lv_has ls 2 [(0, .ref (q 0)), (1, .int x1)] := hl
  have hW : Wd G A0 s (cLD G q w) s.heap [] := hW
  show W p l e rmX1_isLit s m ([.ref (q 0), .int x1] : List Value).toArray below meth c s.heap [] 0 0 (Qi below G (cLD G q w) o A0 ([.ref (q 0), .int x1] : List Value).toArray s) (F0 m 0 ls [])
  refine lv_aload_n hx hb dX1_isLit_0 rfl (lv_at hl 0 rfl) ?_
  refine x_get F hW 0 rfl fa_X1_24 rfl dX1_isLit_1 ?_
  refine lv_iload_n hx hb dX1_isLit_4 rfl (lv_at hl 1 rfl) ?_
  obtain ⟨g_5, h⟩ := of_guard h
  refine x_iald F hW 5 rfl g_5 dX1_isLit_5 ?_
  refine lv_aload_n hx hb dX1_isLit_6 rfl (lv_at hl 0 rfl) ?_
  refine x_get F hW 0 rfl fa_X1_15 rfl dX1_isLit_7 ?_
  refine lv_iload_n hx hb dX1_isLit_10 rfl (lv_at hl 1 rfl) ?_
  obtain ⟨g_11, h⟩ := of_guard h
  refine x_iald F hW 2 rfl g_11 dX1_isLit_11 ?_
  obtain ⟨p_12, hc_12, h⟩ := of_bind h
  refine x_Si (av := [.int (w.2.1 x1.toNatClampNeg)]) F hW (c_X0_burnsOf l G (w.2.1 x1.toNatClampNeg) _ hc_12) [] rfl rfl (by intro q; cases q) cs_X1_71 rfl rfl hl (Nat.le_of_ble_eq_true rfl) ⟨Nat.le_of_ble_eq_true rfl, Nat.le_of_ble_eq_true rfl⟩ ⟨rfl, rfl⟩ ⟨Nat.le_of_ble_eq_true rfl, Nat.le_of_ble_eq_true rfl⟩ dX1_isLit_12 rfl [none, none, none, none, none, none] rfl (ws' := cLD G q w) rfl (fun H locs hW => ?_)
  obtain ⟨ht_15, hf_15⟩ := of_ite h
  refine lv_icmp_lt (tgt := 55) hx hb dX1_isLit_15 (by decide) (fun c_15 => ?_) (fun c_15 => ?_)
  · have h := ht_15 c_15
    refine lv_iconst (v := (0 : Int32)) hx hb dX1_isLit_55 (by decide) ?_
    obtain rfl := Option.some.inj h
    exact x_retz F hr hW (Or.inl rfl) rfl dX1_isLit_56
  · have h := hf_15 c_15
    refine lv_aload_n hx hb dX1_isLit_18 rfl (lv_at hl 0 rfl) ?_
    refine x_get F hW 0 rfl fa_X1_37 rfl dX1_isLit_19 ?_
    refine lv_iload_n hx hb dX1_isLit_22 rfl (lv_at hl 1 rfl) ?_
    obtain ⟨p_23, hc_23, h⟩ := of_bind h
    refine x_Ni (av := [.int w.2.2.2.2.2.2.1, .int x1]) F hW (c_X5_has l G w.2.2.2.2.2.2.1 x1 _ hc_23) [] rfl rfl (by intro q; cases q) cn_X1_62 rfl rfl hl (Nat.le_of_ble_eq_true rfl) ⟨Nat.le_of_ble_eq_true rfl, Nat.le_of_ble_eq_true rfl⟩ ⟨rfl, rfl⟩ ⟨Nat.le_of_ble_eq_true rfl, Nat.le_of_ble_eq_true rfl⟩ dX1_isLit_23 rfl [none, none, none, none, none, none] rfl (ws' := cLD G q w) rfl (fun H locs hW => ?_)
    obtain ⟨ht_26, hf_26⟩ := of_ite h
    refine lv_if_ne (tgt := 51) hx hb dX1_isLit_26 (by decide) (fun c_26 => ?_) (fun c_26 => ?_)
    · have h := hf_26 c_26
      refine lv_iconst (v := (1 : Int32)) hx hb dX1_isLit_51 (by decide) ?_
      refine lv_goto (tgt := 56) hx hb dX1_isLit_52 (by decide) ?_
      obtain rfl := Option.some.inj h
      exact x_retz F hr hW (Or.inr rfl) rfl dX1_isLit_56
    · have h := ht_26 c_26
      refine lv_aload_n hx hb dX1_isLit_29 rfl (lv_at hl 0 rfl) ?_
      refine x_get F hW 0 rfl fa_X1_15 rfl dX1_isLit_30 ?_
      refine lv_iload_n hx hb dX1_isLit_33 rfl (lv_at hl 1 rfl) ?_
      obtain ⟨g_34, h⟩ := of_guard h
      refine x_iald F hW 2 rfl g_34 dX1_isLit_34 ?_
      refine lv_aload_n hx hb dX1_isLit_35 rfl (lv_at hl 0 rfl) ?_
      refine x_get F hW 0 rfl fa_X1_18 rfl dX1_isLit_36 ?_
      refine lv_iload_n hx hb dX1_isLit_39 rfl (lv_at hl 1 rfl) ?_
      obtain ⟨g_40, h⟩ := of_guard h
      refine x_iald F hW 3 rfl g_40 dX1_isLit_40 ?_
      refine lv_aload_n hx hb dX1_isLit_41 rfl (lv_at hl 0 rfl) ?_
      refine x_get F hW 0 rfl fa_X1_43 rfl dX1_isLit_42 ?_
      obtain ⟨p_45, hc_45, h⟩ := of_bind h
      refine x_Si (av := [.int (w.2.1 x1.toNatClampNeg), .int (w.2.2.1 x1.toNatClampNeg), .int w.2.2.2.2.2.2.2.2]) F hW (c_X0_sleepsIn l G (w.2.1 x1.toNatClampNeg) (w.2.2.1 x1.toNatClampNeg) w.2.2.2.2.2.2.2.2 _ hc_45) [] rfl rfl (by intro q; cases q) cs_X1_75 rfl rfl hl (Nat.le_of_ble_eq_true rfl) ⟨Nat.le_of_ble_eq_true rfl, Nat.le_of_ble_eq_true rfl⟩ ⟨rfl, rfl⟩ ⟨Nat.le_of_ble_eq_true rfl, Nat.le_of_ble_eq_true rfl⟩ dX1_isLit_45 rfl [none, none, none, none, none, none] rfl (ws' := cLD G q w) rfl (fun H locs hW => ?_)
      obtain ⟨ht_48, hf_48⟩ := of_ite h
      refine lv_if_ne (tgt := 55) hx hb dX1_isLit_48 (by decide) (fun c_48 => ?_) (fun c_48 => ?_)
      · have h := hf_48 c_48
        refine lv_iconst (v := (0 : Int32)) hx hb dX1_isLit_55 (by decide) ?_
        obtain rfl := Option.some.inj h
        exact x_retz F hr hW (Or.inl rfl) rfl dX1_isLit_56
      · have h := ht_48 c_48
        refine lv_iconst (v := (1 : Int32)) hx hb dX1_isLit_51 (by decide) ?_
        refine lv_goto (tgt := 56) hx hb dX1_isLit_52 (by decide) ?_
        obtain rfl := Option.some.inj h
        exact x_retz F hr hW (Or.inr rfl) rfl dX1_isLit_56
def f_X1_passNight_2 : Nat → Int32 → LD → Option (LD)
  | 0, _, _ => none
  | n0 + 1, v1_2, w_2 =>
    if w_2.2.2.2.2.2.1 ≤ v1_2 then
    some (w_2.1, w_2.2.1, w_2.2.2.1, w_2.2.2.2.1, w_2.2.2.2.2.1, w_2.2.2.2.2.2.1, w_2.2.2.2.2.2.2.1, w_2.2.2.2.2.2.2.2.1, (w_2.2.2.2.2.2.2.2.2 + (1 : Int32)))
    else
    Option.bind (f_X1_isLit w_2 v1_2) fun p_12 =>
    if p_12 = 0 then
    f_X1_passNight_2 n0 (v1_2 + (1 : Int32)) w_2
    else
    if inR v1_2 8 then
    if inR v1_2 8 then
    Option.bind (f_X0_burnsOf (w_2.2.1 v1_2.toNatClampNeg)) fun p_31 =>
    if inR v1_2 8 then
    f_X1_passNight_2 n0 (v1_2 + (1 : Int32)) (w_2.1, w_2.2.1, w_2.2.2.1, w_2.2.2.2.1, (upd w_2.2.2.2.2.1 v1_2.toNatClampNeg ((w_2.2.2.2.2.1 v1_2.toNatClampNeg) - p_31)), w_2.2.2.2.2.2.1, w_2.2.2.2.2.2.2.1, w_2.2.2.2.2.2.2.2.1, w_2.2.2.2.2.2.2.2.2)
    else none
    else none
    else none
def f_X1_passNight (w : LD) : Option (LD) :=
  f_X1_passNight_2 200 (0 : Int32) w
abbrev rmX1_passNight : Room := { frames := 2, cells := 0, slots := 0, locals := 44 }
set_option maxRecDepth 100000 in
set_option maxHeartbeats 4000000 in
theorem c_X1_passNight (l : Launch) (G : EnT) (q : Nat → Nat) (w : LD) (o : LD) (h : f_X1_passNight w = some o) : Mv l yX1_passNight rmX1_passNight cX1_passNight 2 none G false [.ref (q 0)] (cLD G q w) (cLD G q o) := by
  refine Mv_of (by decide) (Nat.le_of_ble_eq_true rfl) ?_
  intro p e s m below meth c A0 F hr hW ls hl
  obtain ⟨hx, hb, hml, hown, hts, hK, hNW, hlocks, hA, hSX⟩ := id F
  have hl : lv_has ls 2 [(0, .ref (q 0))] := hl
  have hW : Wd G A0 s (cLD G q w) s.heap [] := hW
  show W p l e rmX1_passNight s m ([.ref (q 0)] : List Value).toArray below meth c s.heap [] 0 0 (Qv below G (cLD G q o) A0 ([.ref (q 0)] : List Value).toArray s) (F0 m 0 ls [])
  refine lv_iconst (v := (0 : Int32)) hx hb dX1_passNight_0 (by decide) ?_
  refine lv_istore_n (lv' := [(1, .int (0 : Int32)), (0, .ref (q 0))]) hx hb dX1_passNight_1 rfl hl (by decide) rfl (fun ls hl => ?_)
  have L0 : ∀ (n0 : Nat) (v1_2 : Int32) (w_2 : LD) (H : Heap) (locs : List Loc) (ls : Array Slot), f_X1_passNight_2 n0 v1_2 w_2 = some o → Wd G A0 s (cLD G q w_2) H locs → lv_has ls 2 [(1, .int v1_2), (0, .ref (q 0))] → W p l e rmX1_passNight s m ([.ref (q 0)] : List Value).toArray below meth c H locs 0 0 (Qv below G (cLD G q o) A0 ([.ref (q 0)] : List Value).toArray s) (F0 m 2 ls []) := by
    intro n0
    induction n0 with
    | zero => intro v1_2 w_2 H locs ls h; cases (show (none : Option (LD)) = some o from h)
    | succ n0 ih0 =>
      intro v1_2 w_2 H locs ls h hW hl
      refine lv_iload_n hx hb dX1_passNight_2 rfl (lv_at hl 0 rfl) ?_
      refine lv_aload_n hx hb dX1_passNight_3 rfl (lv_at hl 1 rfl) ?_
      refine x_get F hW 0 rfl fa_X1_33 rfl dX1_passNight_4 ?_
      obtain ⟨ht_7, hf_7⟩ := of_ite h
      refine lv_icmp_ge (tgt := 42) hx hb dX1_passNight_7 (by decide) (fun c_7 => ?_) (fun c_7 => ?_)
      · have h := ht_7 c_7
        refine lv_aload_n hx hb dX1_passNight_42 rfl (lv_at hl 1 rfl) ?_
        refine lv_dup hx hb dX1_passNight_43 rfl ?_
        refine x_get F hW 0 rfl fa_X1_43 rfl dX1_passNight_44 ?_
        refine lv_iconst (v := (1 : Int32)) hx hb dX1_passNight_47 (by decide) ?_
        refine lv_iadd hx hb dX1_passNight_48 ?_
        refine x_put F hW 0 rfl fp_X1_43 rfl rfl (Nat.le_of_ble_eq_true rfl) (ws' := cLD G q (w_2.1, w_2.2.1, w_2.2.2.1, w_2.2.2.2.1, w_2.2.2.2.2.1, w_2.2.2.2.2.2.1, w_2.2.2.2.2.2.2.1, w_2.2.2.2.2.2.2.2.1, (w_2.2.2.2.2.2.2.2.2 + (1 : Int32)))) rfl dX1_passNight_49 (fun H locs hW => ?_)
        obtain rfl := Option.some.inj h
        exact x_retv F hr hW dX1_passNight_52
      · have h := hf_7 c_7
        refine lv_aload_n hx hb dX1_passNight_10 rfl (lv_at hl 1 rfl) ?_
        refine lv_iload_n hx hb dX1_passNight_11 rfl (lv_at hl 0 rfl) ?_
        obtain ⟨p_12, hc_12, h⟩ := of_bind h
        refine x_Vi (av := [.ref (q 0), .int v1_2]) (As := [.int v1_2]) F hW (c_X1_isLit l G q w_2 v1_2 _ hc_12) [0, 1, 2, 3, 4, 5] rfl rfl (by intro q; cases q) cv_X1_79 rfl ⟨_, rfl, rfl⟩ rfl rfl rfl hl (Nat.le_of_ble_eq_true rfl) ⟨Nat.le_of_ble_eq_true rfl, Nat.le_of_ble_eq_true rfl⟩ ⟨rfl, rfl⟩ ⟨Nat.le_of_ble_eq_true rfl, Nat.le_of_ble_eq_true rfl⟩ dX1_passNight_12 rfl [some 0, some 1, some 2, some 3, some 4, some 5] rfl (ws' := cLD G q w_2) rfl (fun H locs hW => ?_)
        obtain ⟨ht_15, hf_15⟩ := of_ite h
        refine lv_if_eq (tgt := 36) hx hb dX1_passNight_15 (by decide) (fun c_15 => ?_) (fun c_15 => ?_)
        · have h := ht_15 c_15
          refine lv_iinc (v := (v1_2 + (1 : Int32))) (lv' := [(1, .int (v1_2 + (1 : Int32))), (0, .ref (q 0))]) hx hb dX1_passNight_36 hl (k := 0) rfl rfl (by decide) rfl (fun ls hl => ?_)
          refine lv_goto (tgt := 2) hx hb dX1_passNight_39 (by decide) ?_
          exact ih0 (v1_2 + (1 : Int32)) w_2 _ _ _ h hW (lv_sub hl [0, 1] rfl)
        · have h := hf_15 c_15
          refine lv_aload_n hx hb dX1_passNight_18 rfl (lv_at hl 1 rfl) ?_
          refine x_get F hW 0 rfl fa_X1_24 rfl dX1_passNight_19 ?_
          refine lv_iload_n hx hb dX1_passNight_22 rfl (lv_at hl 0 rfl) ?_
          refine lv_dup2_11 hx hb dX1_passNight_23 rfl rfl ?_
          obtain ⟨g_24, h⟩ := of_guard h
          refine x_iald F hW 5 rfl g_24 dX1_passNight_24 ?_
          refine lv_aload_n hx hb dX1_passNight_25 rfl (lv_at hl 1 rfl) ?_
          refine x_get F hW 0 rfl fa_X1_15 rfl dX1_passNight_26 ?_
          refine lv_iload_n hx hb dX1_passNight_29 rfl (lv_at hl 0 rfl) ?_
          obtain ⟨g_30, h⟩ := of_guard h
          refine x_iald F hW 2 rfl g_30 dX1_passNight_30 ?_
          obtain ⟨p_31, hc_31, h⟩ := of_bind h
          refine x_Si (av := [.int (w_2.2.1 v1_2.toNatClampNeg)]) F hW (c_X0_burnsOf l G (w_2.2.1 v1_2.toNatClampNeg) _ hc_31) [] rfl rfl (by intro q; cases q) cs_X1_71 rfl rfl hl (Nat.le_of_ble_eq_true rfl) ⟨Nat.le_of_ble_eq_true rfl, Nat.le_of_ble_eq_true rfl⟩ ⟨rfl, rfl⟩ ⟨Nat.le_of_ble_eq_true rfl, Nat.le_of_ble_eq_true rfl⟩ dX1_passNight_31 rfl [none, none, none, none, none, none] rfl (ws' := cLD G q w_2) rfl (fun H locs hW => ?_)
          refine lv_isub hx hb dX1_passNight_34 ?_
          obtain ⟨g_35, h⟩ := of_guard h
          refine x_iast F hW 5 rfl g_35 (ws' := cLD G q (w_2.1, w_2.2.1, w_2.2.2.1, w_2.2.2.2.1, (upd w_2.2.2.2.2.1 v1_2.toNatClampNeg ((w_2.2.2.2.2.1 v1_2.toNatClampNeg) - p_31)), w_2.2.2.2.2.2.1, w_2.2.2.2.2.2.2.1, w_2.2.2.2.2.2.2.2.1, w_2.2.2.2.2.2.2.2.2)) rfl dX1_passNight_35 (fun H locs hW => ?_)
          refine lv_iinc (v := (v1_2 + (1 : Int32))) (lv' := [(1, .int (v1_2 + (1 : Int32))), (0, .ref (q 0))]) hx hb dX1_passNight_36 hl (k := 0) rfl rfl (by decide) rfl (fun ls hl => ?_)
          refine lv_goto (tgt := 2) hx hb dX1_passNight_39 (by decide) ?_
          exact ih0 (v1_2 + (1 : Int32)) (w_2.1, w_2.2.1, w_2.2.2.1, w_2.2.2.2.1, (upd w_2.2.2.2.2.1 v1_2.toNatClampNeg ((w_2.2.2.2.2.1 v1_2.toNatClampNeg) - p_31)), w_2.2.2.2.2.2.1, w_2.2.2.2.2.2.2.1, w_2.2.2.2.2.2.2.2.1, w_2.2.2.2.2.2.2.2.2) _ _ _ h hW (lv_sub hl [0, 1] rfl)
  exact L0 200 (0 : Int32) w _ _ _ h hW (lv_sub hl [0, 1] rfl)
def f_X1_goBy_27 (x1 : Int32) : Nat → Int32 → LD → Option (Int32 × LD)
  | 0, _, _ => none
  | n0 + 1, v2_27, w_27 =>
    if x1 ≤ v2_27 then
    some ((1 : Int32), w_27)
    else
    Option.bind (f_X1_passNight w_27) fun p_33 =>
    f_X1_goBy_27 x1 n0 (v2_27 + (1 : Int32)) p_33
def f_X1_goBy (w : LD) (x1 : Int32) : Option (Int32 × LD) :=
  if x1 < (1 : Int32) then
    some ((0 : Int32), w)
    else
    if (60 : Int32) < x1 then
    some ((0 : Int32), w)
    else
    if (w.2.2.2.2.2.2.2.2 + x1) ≤ (999 : Int32) then
    f_X1_goBy_27 x1 200 (0 : Int32) w
    else
    some ((0 : Int32), w)
abbrev rmX1_goBy : Room := { frames := 3, cells := 0, slots := 0, locals := 65 }
set_option maxRecDepth 100000 in
set_option maxHeartbeats 4000000 in
theorem c_X1_goBy (l : Launch) (G : EnT) (q : Nat → Nat) (w : LD) (x1 : Int32) (o : Int32 × LD) (h : f_X1_goBy w x1 = some o) : Mi l yX1_goBy rmX1_goBy cX1_goBy 3 (some .boolean) G false [.ref (q 0), .int x1] (cLD G q w) o.1 (cLD G q o.2) := by
  refine Mi_of (by decide) (Nat.le_of_ble_eq_true rfl) ?_
  intro p e s m below meth c A0 F hr hW ls hl
  obtain ⟨hx, hb, hml, hown, hts, hK, hNW, hlocks, hA, hSX⟩ := id F
  have hl : lv_has ls 3 [(0, .ref (q 0)), (1, .int x1)] := hl
  have hW : Wd G A0 s (cLD G q w) s.heap [] := hW
  show W p l e rmX1_goBy s m ([.ref (q 0), .int x1] : List Value).toArray below meth c s.heap [] 0 0 (Qi below G (cLD G q o.2) o.1 A0 ([.ref (q 0), .int x1] : List Value).toArray s) (F0 m 0 ls [])
  refine lv_iload_n hx hb dX1_goBy_0 rfl (lv_at hl 1 rfl) ?_
  refine lv_iconst (v := (1 : Int32)) hx hb dX1_goBy_1 (by decide) ?_
  obtain ⟨ht_2, hf_2⟩ := of_ite h
  refine lv_icmp_lt (tgt := 23) hx hb dX1_goBy_2 (by decide) (fun c_2 => ?_) (fun c_2 => ?_)
  · have h := ht_2 c_2
    refine lv_iconst (v := (0 : Int32)) hx hb dX1_goBy_23 (by decide) ?_
    obtain rfl := Option.some.inj h
    exact x_retz F hr hW (Or.inl rfl) rfl dX1_goBy_24
  · have h := hf_2 c_2
    refine lv_iload_n hx hb dX1_goBy_5 rfl (lv_at hl 1 rfl) ?_
    refine lv_bipush (v := (60 : Int32)) hx hb dX1_goBy_6 (by decide) ?_
    obtain ⟨ht_8, hf_8⟩ := of_ite h
    refine lv_icmp_gt (tgt := 23) hx hb dX1_goBy_8 (by decide) (fun c_8 => ?_) (fun c_8 => ?_)
    · have h := ht_8 c_8
      refine lv_iconst (v := (0 : Int32)) hx hb dX1_goBy_23 (by decide) ?_
      obtain rfl := Option.some.inj h
      exact x_retz F hr hW (Or.inl rfl) rfl dX1_goBy_24
    · have h := hf_8 c_8
      refine lv_aload_n hx hb dX1_goBy_11 rfl (lv_at hl 0 rfl) ?_
      refine x_get F hW 0 rfl fa_X1_43 rfl dX1_goBy_12 ?_
      refine lv_iload_n hx hb dX1_goBy_15 rfl (lv_at hl 1 rfl) ?_
      refine lv_iadd hx hb dX1_goBy_16 ?_
      refine lv_sipush (v := (999 : Int32)) hx hb dX1_goBy_17 (by decide) ?_
      obtain ⟨ht_20, hf_20⟩ := of_ite h
      refine lv_icmp_le (tgt := 25) hx hb dX1_goBy_20 (by decide) (fun c_20 => ?_) (fun c_20 => ?_)
      · have h := ht_20 c_20
        refine lv_iconst (v := (0 : Int32)) hx hb dX1_goBy_25 (by decide) ?_
        refine lv_istore_n (lv' := [(2, .int (0 : Int32)), (0, .ref (q 0)), (1, .int x1)]) hx hb dX1_goBy_26 rfl hl (by decide) rfl (fun ls hl => ?_)
        have L0 : ∀ (n0 : Nat) (v2_27 : Int32) (w_27 : LD) (H : Heap) (locs : List Loc) (ls : Array Slot), f_X1_goBy_27 x1 n0 v2_27 w_27 = some o → Wd G A0 s (cLD G q w_27) H locs → lv_has ls 3 [(2, .int v2_27), (0, .ref (q 0)), (1, .int x1)] → W p l e rmX1_goBy s m ([.ref (q 0), .int x1] : List Value).toArray below meth c H locs 0 0 (Qi below G (cLD G q o.2) o.1 A0 ([.ref (q 0), .int x1] : List Value).toArray s) (F0 m 27 ls []) := by
          intro n0
          induction n0 with
          | zero => intro v2_27 w_27 H locs ls h; cases (show (none : Option (Int32 × LD)) = some o from h)
          | succ n0 ih0 =>
            intro v2_27 w_27 H locs ls h hW hl
            refine lv_iload_n hx hb dX1_goBy_27 rfl (lv_at hl 0 rfl) ?_
            refine lv_iload_n hx hb dX1_goBy_28 rfl (lv_at hl 2 rfl) ?_
            obtain ⟨ht_29, hf_29⟩ := of_ite h
            refine lv_icmp_ge (tgt := 42) hx hb dX1_goBy_29 (by decide) (fun c_29 => ?_) (fun c_29 => ?_)
            · have h := ht_29 c_29
              refine lv_iconst (v := (1 : Int32)) hx hb dX1_goBy_42 (by decide) ?_
              obtain rfl := Option.some.inj h
              exact x_retz F hr hW (Or.inr rfl) rfl dX1_goBy_43
            · have h := hf_29 c_29
              refine lv_aload_n hx hb dX1_goBy_32 rfl (lv_at hl 1 rfl) ?_
              obtain ⟨p_33, hc_33, h⟩ := of_bind h
              refine x_Vv (av := [.ref (q 0)]) (As := []) F hW (c_X1_passNight l G q w_27 _ hc_33) [0, 1, 2, 3, 4, 5] rfl rfl (by intro q; cases q) cv_X1_59 rfl ⟨_, rfl, rfl⟩ rfl rfl rfl hl (Nat.le_of_ble_eq_true rfl) ⟨Nat.le_of_ble_eq_true rfl, Nat.le_of_ble_eq_true rfl⟩ ⟨rfl, rfl⟩ ⟨Nat.le_of_ble_eq_true rfl, Nat.le_of_ble_eq_true rfl⟩ dX1_goBy_33 rfl [some 0, some 1, some 2, some 3, some 4, some 5] rfl (ws' := cLD G q p_33) rfl (fun H locs hW => ?_)
              refine lv_iinc (v := (v2_27 + (1 : Int32))) (lv' := [(2, .int (v2_27 + (1 : Int32))), (0, .ref (q 0)), (1, .int x1)]) hx hb dX1_goBy_36 hl (k := 0) rfl rfl (by decide) rfl (fun ls hl => ?_)
              refine lv_goto (tgt := 27) hx hb dX1_goBy_39 (by decide) ?_
              exact ih0 (v2_27 + (1 : Int32)) p_33 _ _ _ h hW (lv_sub hl [0, 1, 2] rfl)
        exact L0 200 (0 : Int32) w _ _ _ h hW (lv_sub hl [0, 1, 2] rfl)
      · have h := hf_20 c_20
        refine lv_iconst (v := (0 : Int32)) hx hb dX1_goBy_23 (by decide) ?_
        obtain rfl := Option.some.inj h
        exact x_retz F hr hW (Or.inl rfl) rfl dX1_goBy_24
def f_X1_putCalled (w : LD) (x1 : Int32) (x2 : Int32) : Option (LD) :=
  if x2 = 0 then
    some (w.1, w.2.1, w.2.2.1, w.2.2.2.1, w.2.2.2.2.1, w.2.2.2.2.2.1, (w.2.2.2.2.2.2.1 &&& (((1 : Int32) <<< (x1 &&& 31)) ^^^ (-1 : Int32))), w.2.2.2.2.2.2.2.1, w.2.2.2.2.2.2.2.2)
    else
    some (w.1, w.2.1, w.2.2.1, w.2.2.2.1, w.2.2.2.2.1, w.2.2.2.2.2.1, (w.2.2.2.2.2.2.1 ||| ((1 : Int32) <<< (x1 &&& 31))), w.2.2.2.2.2.2.2.1, w.2.2.2.2.2.2.2.2)
abbrev rmX1_putCalled : Room := { frames := 0, cells := 0, slots := 0, locals := 0 }
set_option maxRecDepth 100000 in
set_option maxHeartbeats 4000000 in
theorem c_X1_putCalled (l : Launch) (G : EnT) (q : Nat → Nat) (w : LD) (x1 : Int32) (x2 : Int32) (o : LD) (h : f_X1_putCalled w x1 x2 = some o) : Mv l yX1_putCalled rmX1_putCalled cX1_putCalled 3 none G false [.ref (q 0), .int x1, .int x2] (cLD G q w) (cLD G q o) := by
  refine Mv_of (by decide) (Nat.le_of_ble_eq_true rfl) ?_
  intro p e s m below meth c A0 F hr hW ls hl
  obtain ⟨hx, hb, hml, hown, hts, hK, hNW, hlocks, hA, hSX⟩ := id F
  have hl : lv_has ls 3 [(0, .ref (q 0)), (1, .int x1), (2, .int x2)] := hl
  have hW : Wd G A0 s (cLD G q w) s.heap [] := hW
  show W p l e rmX1_putCalled s m ([.ref (q 0), .int x1, .int x2] : List Value).toArray below meth c s.heap [] 0 0 (Qv below G (cLD G q o) A0 ([.ref (q 0), .int x1, .int x2] : List Value).toArray s) (F0 m 0 ls [])
  refine lv_aload_n hx hb dX1_putCalled_0 rfl (lv_at hl 0 rfl) ?_
  refine lv_iload_n hx hb dX1_putCalled_1 rfl (lv_at hl 2 rfl) ?_
  obtain ⟨ht_2, hf_2⟩ := of_ite h
  refine lv_if_eq (tgt := 16) hx hb dX1_putCalled_2 (by decide) (fun c_2 => ?_) (fun c_2 => ?_)
  · have h := ht_2 c_2
    refine lv_aload_n hx hb dX1_putCalled_16 rfl (lv_at hl 0 rfl) ?_
    refine x_get F hW 0 rfl fa_X1_37 rfl dX1_putCalled_17 ?_
    refine lv_iconst (v := (1 : Int32)) hx hb dX1_putCalled_20 (by decide) ?_
    refine lv_iload_n hx hb dX1_putCalled_21 rfl (lv_at hl 1 rfl) ?_
    refine lv_ishl hx hb dX1_putCalled_22 ?_
    refine lv_iconst (v := (-1 : Int32)) hx hb dX1_putCalled_23 (by decide) ?_
    refine lv_ixor hx hb dX1_putCalled_24 ?_
    refine lv_iand hx hb dX1_putCalled_25 ?_
    refine x_put F hW 0 rfl fp_X1_37 rfl rfl (Nat.le_of_ble_eq_true rfl) (ws' := cLD G q (w.1, w.2.1, w.2.2.1, w.2.2.2.1, w.2.2.2.2.1, w.2.2.2.2.2.1, (w.2.2.2.2.2.2.1 &&& (((1 : Int32) <<< (x1 &&& 31)) ^^^ (-1 : Int32))), w.2.2.2.2.2.2.2.1, w.2.2.2.2.2.2.2.2)) rfl dX1_putCalled_26 (fun H locs hW => ?_)
    obtain rfl := Option.some.inj h
    exact x_retv F hr hW dX1_putCalled_29
  · have h := hf_2 c_2
    refine lv_aload_n hx hb dX1_putCalled_5 rfl (lv_at hl 0 rfl) ?_
    refine x_get F hW 0 rfl fa_X1_37 rfl dX1_putCalled_6 ?_
    refine lv_iconst (v := (1 : Int32)) hx hb dX1_putCalled_9 (by decide) ?_
    refine lv_iload_n hx hb dX1_putCalled_10 rfl (lv_at hl 1 rfl) ?_
    refine lv_ishl hx hb dX1_putCalled_11 ?_
    refine lv_ior hx hb dX1_putCalled_12 ?_
    refine lv_goto (tgt := 26) hx hb dX1_putCalled_13 (by decide) ?_
    refine x_put F hW 0 rfl fp_X1_37 rfl rfl (Nat.le_of_ble_eq_true rfl) (ws' := cLD G q (w.1, w.2.1, w.2.2.1, w.2.2.2.1, w.2.2.2.2.1, w.2.2.2.2.2.1, (w.2.2.2.2.2.2.1 ||| ((1 : Int32) <<< (x1 &&& 31))), w.2.2.2.2.2.2.2.1, w.2.2.2.2.2.2.2.2)) rfl dX1_putCalled_26 (fun H locs hW => ?_)
    obtain rfl := Option.some.inj h
    exact x_retv F hr hW dX1_putCalled_29
def f_X1_isCalled (w : LD) (x1 : Int32) : Option (Int32) :=
  Option.bind (f_X5_has w.2.2.2.2.2.2.1 x1) fun p_5 =>
    if p_5 = 0 ∨ p_5 = 1 then some p_5 else none
abbrev rmX1_isCalled : Room := { frames := 1, cells := 0, slots := 0, locals := 21 }
set_option maxRecDepth 100000 in
set_option maxHeartbeats 4000000 in
theorem c_X1_isCalled (l : Launch) (G : EnT) (q : Nat → Nat) (w : LD) (x1 : Int32) (o : Int32) (h : f_X1_isCalled w x1 = some o) : Mi l yX1_isCalled rmX1_isCalled cX1_isCalled 2 (some .boolean) G false [.ref (q 0), .int x1] (cLD G q w) o (cLD G q w) := by
  refine Mi_of (by decide) (Nat.le_of_ble_eq_true rfl) ?_
  intro p e s m below meth c A0 F hr hW ls hl
  obtain ⟨hx, hb, hml, hown, hts, hK, hNW, hlocks, hA, hSX⟩ := id F
  have hl : lv_has ls 2 [(0, .ref (q 0)), (1, .int x1)] := hl
  have hW : Wd G A0 s (cLD G q w) s.heap [] := hW
  show W p l e rmX1_isCalled s m ([.ref (q 0), .int x1] : List Value).toArray below meth c s.heap [] 0 0 (Qi below G (cLD G q w) o A0 ([.ref (q 0), .int x1] : List Value).toArray s) (F0 m 0 ls [])
  refine lv_aload_n hx hb dX1_isCalled_0 rfl (lv_at hl 0 rfl) ?_
  refine x_get F hW 0 rfl fa_X1_37 rfl dX1_isCalled_1 ?_
  refine lv_iload_n hx hb dX1_isCalled_4 rfl (lv_at hl 1 rfl) ?_
  obtain ⟨p_5, hc_5, h⟩ := of_bind h
  refine x_Ni (av := [.int w.2.2.2.2.2.2.1, .int x1]) F hW (c_X5_has l G w.2.2.2.2.2.2.1 x1 _ hc_5) [] rfl rfl (by intro q; cases q) cn_X1_62 rfl rfl hl (Nat.le_of_ble_eq_true rfl) ⟨Nat.le_of_ble_eq_true rfl, Nat.le_of_ble_eq_true rfl⟩ ⟨rfl, rfl⟩ ⟨Nat.le_of_ble_eq_true rfl, Nat.le_of_ble_eq_true rfl⟩ dX1_isCalled_5 rfl [none, none, none, none, none, none] rfl (ws' := cLD G q w) rfl (fun H locs hW => ?_)
  obtain ⟨g_8, h⟩ := of_guard h
  obtain rfl := Option.some.inj h
  exact x_retz F hr hW g_8 rfl dX1_isCalled_8
def f_X1_eyeOf (w : LD) (x1 : Int32) : Option (Int32) :=
  if inR x1 8 then
    if inR (w.2.2.2.1 x1.toNatClampNeg) 20 then
    if inR x1 8 then
    if inR x1 8 then
    Option.bind (f_X0_candleOf (w.2.1 x1.toNatClampNeg) (w.2.2.1 x1.toNatClampNeg)) fun p_23 =>
    some ((w.1 (w.2.2.2.1 x1.toNatClampNeg).toNatClampNeg) + p_23)
    else none
    else none
    else none
    else none
abbrev rmX1_eyeOf : Room := { frames := 1, cells := 0, slots := 0, locals := 21 }
set_option maxRecDepth 100000 in
set_option maxHeartbeats 4000000 in
theorem c_X1_eyeOf (l : Launch) (G : EnT) (q : Nat → Nat) (w : LD) (x1 : Int32) (o : Int32) (h : f_X1_eyeOf w x1 = some o) : Mi l yX1_eyeOf rmX1_eyeOf cX1_eyeOf 2 (some .int) G false [.ref (q 0), .int x1] (cLD G q w) o (cLD G q w) := by
  refine Mi_of (by decide) (Nat.le_of_ble_eq_true rfl) ?_
  intro p e s m below meth c A0 F hr hW ls hl
  obtain ⟨hx, hb, hml, hown, hts, hK, hNW, hlocks, hA, hSX⟩ := id F
  have hl : lv_has ls 2 [(0, .ref (q 0)), (1, .int x1)] := hl
  have hW : Wd G A0 s (cLD G q w) s.heap [] := hW
  show W p l e rmX1_eyeOf s m ([.ref (q 0), .int x1] : List Value).toArray below meth c s.heap [] 0 0 (Qi below G (cLD G q w) o A0 ([.ref (q 0), .int x1] : List Value).toArray s) (F0 m 0 ls [])
  refine lv_aload_n hx hb dX1_eyeOf_0 rfl (lv_at hl 0 rfl) ?_
  refine x_get F hW 0 rfl fa_X1_9 rfl dX1_eyeOf_1 ?_
  refine lv_aload_n hx hb dX1_eyeOf_4 rfl (lv_at hl 0 rfl) ?_
  refine x_get F hW 0 rfl fa_X1_21 rfl dX1_eyeOf_5 ?_
  refine lv_iload_n hx hb dX1_eyeOf_8 rfl (lv_at hl 1 rfl) ?_
  obtain ⟨g_9, h⟩ := of_guard h
  refine x_iald F hW 4 rfl g_9 dX1_eyeOf_9 ?_
  obtain ⟨g_10, h⟩ := of_guard h
  refine x_iald F hW 1 rfl g_10 dX1_eyeOf_10 ?_
  refine lv_aload_n hx hb dX1_eyeOf_11 rfl (lv_at hl 0 rfl) ?_
  refine x_get F hW 0 rfl fa_X1_15 rfl dX1_eyeOf_12 ?_
  refine lv_iload_n hx hb dX1_eyeOf_15 rfl (lv_at hl 1 rfl) ?_
  obtain ⟨g_16, h⟩ := of_guard h
  refine x_iald F hW 2 rfl g_16 dX1_eyeOf_16 ?_
  refine lv_aload_n hx hb dX1_eyeOf_17 rfl (lv_at hl 0 rfl) ?_
  refine x_get F hW 0 rfl fa_X1_18 rfl dX1_eyeOf_18 ?_
  refine lv_iload_n hx hb dX1_eyeOf_21 rfl (lv_at hl 1 rfl) ?_
  obtain ⟨g_22, h⟩ := of_guard h
  refine x_iald F hW 3 rfl g_22 dX1_eyeOf_22 ?_
  obtain ⟨p_23, hc_23, h⟩ := of_bind h
  refine x_Si (av := [.int (w.2.1 x1.toNatClampNeg), .int (w.2.2.1 x1.toNatClampNeg)]) F hW (c_X0_candleOf l G (w.2.1 x1.toNatClampNeg) (w.2.2.1 x1.toNatClampNeg) _ hc_23) [] rfl rfl (by intro q; cases q) cs_X1_66 rfl rfl hl (Nat.le_of_ble_eq_true rfl) ⟨Nat.le_of_ble_eq_true rfl, Nat.le_of_ble_eq_true rfl⟩ ⟨rfl, rfl⟩ ⟨Nat.le_of_ble_eq_true rfl, Nat.le_of_ble_eq_true rfl⟩ dX1_eyeOf_23 rfl [none, none, none, none, none, none] rfl (ws' := cLD G q w) rfl (fun H locs hW => ?_)
  refine lv_iadd hx hb dX1_eyeOf_26 ?_
  obtain rfl := Option.some.inj h
  exact x_reti F hr hW rfl dX1_eyeOf_27
def f_X1_burnsOf (w : LD) (x1 : Int32) : Option (Int32) :=
  if inR x1 8 then
    Option.bind (f_X0_burnsOf (w.2.1 x1.toNatClampNeg)) fun p_6 =>
    some p_6
    else none
abbrev rmX1_burnsOf : Room := { frames := 1, cells := 0, slots := 0, locals := 20 }
set_option maxRecDepth 100000 in
set_option maxHeartbeats 4000000 in
theorem c_X1_burnsOf (l : Launch) (G : EnT) (q : Nat → Nat) (w : LD) (x1 : Int32) (o : Int32) (h : f_X1_burnsOf w x1 = some o) : Mi l yX1_burnsOf rmX1_burnsOf cX1_burnsOf 2 (some .int) G false [.ref (q 0), .int x1] (cLD G q w) o (cLD G q w) := by
  refine Mi_of (by decide) (Nat.le_of_ble_eq_true rfl) ?_
  intro p e s m below meth c A0 F hr hW ls hl
  obtain ⟨hx, hb, hml, hown, hts, hK, hNW, hlocks, hA, hSX⟩ := id F
  have hl : lv_has ls 2 [(0, .ref (q 0)), (1, .int x1)] := hl
  have hW : Wd G A0 s (cLD G q w) s.heap [] := hW
  show W p l e rmX1_burnsOf s m ([.ref (q 0), .int x1] : List Value).toArray below meth c s.heap [] 0 0 (Qi below G (cLD G q w) o A0 ([.ref (q 0), .int x1] : List Value).toArray s) (F0 m 0 ls [])
  refine lv_aload_n hx hb dX1_burnsOf_0 rfl (lv_at hl 0 rfl) ?_
  refine x_get F hW 0 rfl fa_X1_15 rfl dX1_burnsOf_1 ?_
  refine lv_iload_n hx hb dX1_burnsOf_4 rfl (lv_at hl 1 rfl) ?_
  obtain ⟨g_5, h⟩ := of_guard h
  refine x_iald F hW 2 rfl g_5 dX1_burnsOf_5 ?_
  obtain ⟨p_6, hc_6, h⟩ := of_bind h
  refine x_Si (av := [.int (w.2.1 x1.toNatClampNeg)]) F hW (c_X0_burnsOf l G (w.2.1 x1.toNatClampNeg) _ hc_6) [] rfl rfl (by intro q; cases q) cs_X1_71 rfl rfl hl (Nat.le_of_ble_eq_true rfl) ⟨Nat.le_of_ble_eq_true rfl, Nat.le_of_ble_eq_true rfl⟩ ⟨rfl, rfl⟩ ⟨Nat.le_of_ble_eq_true rfl, Nat.le_of_ble_eq_true rfl⟩ dX1_burnsOf_6 rfl [none, none, none, none, none, none] rfl (ws' := cLD G q w) rfl (fun H locs hW => ?_)
  obtain rfl := Option.some.inj h
  exact x_reti F hr hW rfl dX1_burnsOf_9
def f_X1_lit_4 (w : LD) : Nat → Int32 → Int32 → Option (Int32)
  | 0, _, _ => none
  | n0 + 1, v2_4, v1_4 =>
    if w.2.2.2.2.2.1 ≤ v2_4 then
    some v1_4
    else
    Option.bind (f_X1_isLit w v2_4) fun p_14 =>
    if p_14 = 0 then
    f_X1_lit_4 w n0 (v2_4 + (1 : Int32)) v1_4
    else
    nm (v1_4 ||| ((1 : Int32) <<< (v2_4 &&& 31))) fun x_25 =>
    f_X1_lit_4 w n0 (v2_4 + (1 : Int32)) x_25
def f_X1_lit (w : LD) : Option (Int32) :=
  f_X1_lit_4 w 200 (0 : Int32) (0 : Int32)
abbrev rmX1_lit : Room := { frames := 2, cells := 0, slots := 0, locals := 44 }
set_option maxRecDepth 100000 in
set_option maxHeartbeats 4000000 in
theorem c_X1_lit (l : Launch) (G : EnT) (q : Nat → Nat) (w : LD) (o : Int32) (h : f_X1_lit w = some o) : Mi l yX1_lit rmX1_lit cX1_lit 3 (some .int) G false [.ref (q 0)] (cLD G q w) o (cLD G q w) := by
  refine Mi_of (by decide) (Nat.le_of_ble_eq_true rfl) ?_
  intro p e s m below meth c A0 F hr hW ls hl
  obtain ⟨hx, hb, hml, hown, hts, hK, hNW, hlocks, hA, hSX⟩ := id F
  have hl : lv_has ls 3 [(0, .ref (q 0))] := hl
  have hW : Wd G A0 s (cLD G q w) s.heap [] := hW
  show W p l e rmX1_lit s m ([.ref (q 0)] : List Value).toArray below meth c s.heap [] 0 0 (Qi below G (cLD G q w) o A0 ([.ref (q 0)] : List Value).toArray s) (F0 m 0 ls [])
  refine lv_iconst (v := (0 : Int32)) hx hb dX1_lit_0 (by decide) ?_
  refine lv_istore_n (lv' := [(1, .int (0 : Int32)), (0, .ref (q 0))]) hx hb dX1_lit_1 rfl hl (by decide) rfl (fun ls hl => ?_)
  refine lv_iconst (v := (0 : Int32)) hx hb dX1_lit_2 (by decide) ?_
  refine lv_istore_n (lv' := [(2, .int (0 : Int32)), (1, .int (0 : Int32)), (0, .ref (q 0))]) hx hb dX1_lit_3 rfl hl (by decide) rfl (fun ls hl => ?_)
  have L0 : ∀ (n0 : Nat) (v2_4 : Int32) (v1_4 : Int32) (H : Heap) (locs : List Loc) (ls : Array Slot), f_X1_lit_4 w n0 v2_4 v1_4 = some o → Wd G A0 s (cLD G q w) H locs → lv_has ls 3 [(2, .int v2_4), (1, .int v1_4), (0, .ref (q 0))] → W p l e rmX1_lit s m ([.ref (q 0)] : List Value).toArray below meth c H locs 0 0 (Qi below G (cLD G q w) o A0 ([.ref (q 0)] : List Value).toArray s) (F0 m 4 ls []) := by
    intro n0
    induction n0 with
    | zero => intro v2_4 v1_4 H locs ls h; cases (show (none : Option (Int32)) = some o from h)
    | succ n0 ih0 =>
      intro v2_4 v1_4 H locs ls h hW hl
      refine lv_iload_n hx hb dX1_lit_4 rfl (lv_at hl 0 rfl) ?_
      refine lv_aload_n hx hb dX1_lit_5 rfl (lv_at hl 2 rfl) ?_
      refine x_get F hW 0 rfl fa_X1_33 rfl dX1_lit_6 ?_
      obtain ⟨ht_9, hf_9⟩ := of_ite h
      refine lv_icmp_ge (tgt := 32) hx hb dX1_lit_9 (by decide) (fun c_9 => ?_) (fun c_9 => ?_)
      · have h := ht_9 c_9
        refine lv_iload_n hx hb dX1_lit_32 rfl (lv_at hl 1 rfl) ?_
        obtain rfl := Option.some.inj h
        exact x_reti F hr hW rfl dX1_lit_33
      · have h := hf_9 c_9
        refine lv_aload_n hx hb dX1_lit_12 rfl (lv_at hl 2 rfl) ?_
        refine lv_iload_n hx hb dX1_lit_13 rfl (lv_at hl 0 rfl) ?_
        obtain ⟨p_14, hc_14, h⟩ := of_bind h
        refine x_Vi (av := [.ref (q 0), .int v2_4]) (As := [.int v2_4]) F hW (c_X1_isLit l G q w v2_4 _ hc_14) [0, 1, 2, 3, 4, 5] rfl rfl (by intro q; cases q) cv_X1_79 rfl ⟨_, rfl, rfl⟩ rfl rfl rfl hl (Nat.le_of_ble_eq_true rfl) ⟨Nat.le_of_ble_eq_true rfl, Nat.le_of_ble_eq_true rfl⟩ ⟨rfl, rfl⟩ ⟨Nat.le_of_ble_eq_true rfl, Nat.le_of_ble_eq_true rfl⟩ dX1_lit_14 rfl [some 0, some 1, some 2, some 3, some 4, some 5] rfl (ws' := cLD G q w) rfl (fun H locs hW => ?_)
        obtain ⟨ht_17, hf_17⟩ := of_ite h
        refine lv_if_eq (tgt := 26) hx hb dX1_lit_17 (by decide) (fun c_17 => ?_) (fun c_17 => ?_)
        · have h := ht_17 c_17
          refine lv_iinc (v := (v2_4 + (1 : Int32))) (lv' := [(2, .int (v2_4 + (1 : Int32))), (1, .int v1_4), (0, .ref (q 0))]) hx hb dX1_lit_26 hl (k := 0) rfl rfl (by decide) rfl (fun ls hl => ?_)
          refine lv_goto (tgt := 4) hx hb dX1_lit_29 (by decide) ?_
          exact ih0 (v2_4 + (1 : Int32)) v1_4 _ _ _ h hW (lv_sub hl [0, 1, 2] rfl)
        · have h := hf_17 c_17
          refine lv_iload_n hx hb dX1_lit_20 rfl (lv_at hl 1 rfl) ?_
          refine lv_iconst (v := (1 : Int32)) hx hb dX1_lit_21 (by decide) ?_
          refine lv_iload_n hx hb dX1_lit_22 rfl (lv_at hl 0 rfl) ?_
          refine lv_ishl hx hb dX1_lit_23 ?_
          refine lv_ior hx hb dX1_lit_24 ?_
          obtain ⟨x_25, e_x_25, h⟩ := of_nm h
          refine x_topi e_x_25 ?_
          refine lv_istore_n (lv' := [(1, .int x_25), (2, .int v2_4), (0, .ref (q 0))]) hx hb dX1_lit_25 rfl hl (by decide) rfl (fun ls hl => ?_)
          refine lv_iinc (v := (v2_4 + (1 : Int32))) (lv' := [(2, .int (v2_4 + (1 : Int32))), (1, .int x_25), (0, .ref (q 0))]) hx hb dX1_lit_26 hl (k := 1) rfl rfl (by decide) rfl (fun ls hl => ?_)
          refine lv_goto (tgt := 4) hx hb dX1_lit_29 (by decide) ?_
          exact ih0 (v2_4 + (1 : Int32)) x_25 _ _ _ h hW (lv_sub hl [0, 1, 2] rfl)
  exact L0 200 (0 : Int32) (0 : Int32) _ _ _ h hW (lv_sub hl [0, 1, 2] rfl)
def f_X1_allWicks_4 (w : LD) : Nat → Int32 → Int32 → Option (Int32)
  | 0, _, _ => none
  | n0 + 1, v2_4, v1_4 =>
    if w.2.2.2.2.2.1 ≤ v2_4 then
    some v1_4
    else
    if inR v2_4 8 then
    nm (v1_4 + (w.2.2.2.2.1 v2_4.toNatClampNeg)) fun x_20 =>
    f_X1_allWicks_4 w n0 (v2_4 + (1 : Int32)) x_20
    else none
def f_X1_allWicks (w : LD) : Option (Int32) :=
  f_X1_allWicks_4 w 200 (0 : Int32) (0 : Int32)
abbrev rmX1_allWicks : Room := { frames := 0, cells := 0, slots := 0, locals := 0 }
set_option maxRecDepth 100000 in
set_option maxHeartbeats 4000000 in
theorem c_X1_allWicks (l : Launch) (G : EnT) (q : Nat → Nat) (w : LD) (o : Int32) (h : f_X1_allWicks w = some o) : Mi l yX1_allWicks rmX1_allWicks cX1_allWicks 3 (some .int) G false [.ref (q 0)] (cLD G q w) o (cLD G q w) := by
  refine Mi_of (by decide) (Nat.le_of_ble_eq_true rfl) ?_
  intro p e s m below meth c A0 F hr hW ls hl
  obtain ⟨hx, hb, hml, hown, hts, hK, hNW, hlocks, hA, hSX⟩ := id F
  have hl : lv_has ls 3 [(0, .ref (q 0))] := hl
  have hW : Wd G A0 s (cLD G q w) s.heap [] := hW
  show W p l e rmX1_allWicks s m ([.ref (q 0)] : List Value).toArray below meth c s.heap [] 0 0 (Qi below G (cLD G q w) o A0 ([.ref (q 0)] : List Value).toArray s) (F0 m 0 ls [])
  refine lv_iconst (v := (0 : Int32)) hx hb dX1_allWicks_0 (by decide) ?_
  refine lv_istore_n (lv' := [(1, .int (0 : Int32)), (0, .ref (q 0))]) hx hb dX1_allWicks_1 rfl hl (by decide) rfl (fun ls hl => ?_)
  refine lv_iconst (v := (0 : Int32)) hx hb dX1_allWicks_2 (by decide) ?_
  refine lv_istore_n (lv' := [(2, .int (0 : Int32)), (1, .int (0 : Int32)), (0, .ref (q 0))]) hx hb dX1_allWicks_3 rfl hl (by decide) rfl (fun ls hl => ?_)
  have L0 : ∀ (n0 : Nat) (v2_4 : Int32) (v1_4 : Int32) (H : Heap) (locs : List Loc) (ls : Array Slot), f_X1_allWicks_4 w n0 v2_4 v1_4 = some o → Wd G A0 s (cLD G q w) H locs → lv_has ls 3 [(2, .int v2_4), (1, .int v1_4), (0, .ref (q 0))] → W p l e rmX1_allWicks s m ([.ref (q 0)] : List Value).toArray below meth c H locs 0 0 (Qi below G (cLD G q w) o A0 ([.ref (q 0)] : List Value).toArray s) (F0 m 4 ls []) := by
    intro n0
    induction n0 with
    | zero => intro v2_4 v1_4 H locs ls h; cases (show (none : Option (Int32)) = some o from h)
    | succ n0 ih0 =>
      intro v2_4 v1_4 H locs ls h hW hl
      refine lv_iload_n hx hb dX1_allWicks_4 rfl (lv_at hl 0 rfl) ?_
      refine lv_aload_n hx hb dX1_allWicks_5 rfl (lv_at hl 2 rfl) ?_
      refine x_get F hW 0 rfl fa_X1_33 rfl dX1_allWicks_6 ?_
      obtain ⟨ht_9, hf_9⟩ := of_ite h
      refine lv_icmp_ge (tgt := 27) hx hb dX1_allWicks_9 (by decide) (fun c_9 => ?_) (fun c_9 => ?_)
      · have h := ht_9 c_9
        refine lv_iload_n hx hb dX1_allWicks_27 rfl (lv_at hl 1 rfl) ?_
        obtain rfl := Option.some.inj h
        exact x_reti F hr hW rfl dX1_allWicks_28
      · have h := hf_9 c_9
        refine lv_iload_n hx hb dX1_allWicks_12 rfl (lv_at hl 1 rfl) ?_
        refine lv_aload_n hx hb dX1_allWicks_13 rfl (lv_at hl 2 rfl) ?_
        refine x_get F hW 0 rfl fa_X1_24 rfl dX1_allWicks_14 ?_
        refine lv_iload_n hx hb dX1_allWicks_17 rfl (lv_at hl 0 rfl) ?_
        obtain ⟨g_18, h⟩ := of_guard h
        refine x_iald F hW 5 rfl g_18 dX1_allWicks_18 ?_
        refine lv_iadd hx hb dX1_allWicks_19 ?_
        obtain ⟨x_20, e_x_20, h⟩ := of_nm h
        refine x_topi e_x_20 ?_
        refine lv_istore_n (lv' := [(1, .int x_20), (2, .int v2_4), (0, .ref (q 0))]) hx hb dX1_allWicks_20 rfl hl (by decide) rfl (fun ls hl => ?_)
        refine lv_iinc (v := (v2_4 + (1 : Int32))) (lv' := [(2, .int (v2_4 + (1 : Int32))), (1, .int x_20), (0, .ref (q 0))]) hx hb dX1_allWicks_21 hl (k := 1) rfl rfl (by decide) rfl (fun ls hl => ?_)
        refine lv_goto (tgt := 4) hx hb dX1_allWicks_24 (by decide) ?_
        exact ih0 (v2_4 + (1 : Int32)) x_20 _ _ _ h hW (lv_sub hl [0, 1, 2] rfl)
  exact L0 200 (0 : Int32) (0 : Int32) _ _ _ h hW (lv_sub hl [0, 1, 2] rfl)
def f_X1_passNights_2 (x1 : Int32) : Nat → Int32 → LD → Option (LD)
  | 0, _, _ => none
  | n0 + 1, v2_2, w_2 =>
    if x1 ≤ v2_2 then
    some w_2
    else
    Option.bind (f_X1_passNight w_2) fun p_8 =>
    f_X1_passNights_2 x1 n0 (v2_2 + (1 : Int32)) p_8
def f_X1_passNights (w : LD) (x1 : Int32) : Option (LD) :=
  f_X1_passNights_2 x1 200 (0 : Int32) w
abbrev rmX1_passNights : Room := { frames := 3, cells := 0, slots := 0, locals := 65 }
set_option maxRecDepth 100000 in
set_option maxHeartbeats 4000000 in
theorem c_X1_passNights (l : Launch) (G : EnT) (q : Nat → Nat) (w : LD) (x1 : Int32) (o : LD) (h : f_X1_passNights w x1 = some o) : Mv l yX1_passNights rmX1_passNights cX1_passNights 3 none G false [.ref (q 0), .int x1] (cLD G q w) (cLD G q o) := by
  refine Mv_of (by decide) (Nat.le_of_ble_eq_true rfl) ?_
  intro p e s m below meth c A0 F hr hW ls hl
  obtain ⟨hx, hb, hml, hown, hts, hK, hNW, hlocks, hA, hSX⟩ := id F
  have hl : lv_has ls 3 [(0, .ref (q 0)), (1, .int x1)] := hl
  have hW : Wd G A0 s (cLD G q w) s.heap [] := hW
  show W p l e rmX1_passNights s m ([.ref (q 0), .int x1] : List Value).toArray below meth c s.heap [] 0 0 (Qv below G (cLD G q o) A0 ([.ref (q 0), .int x1] : List Value).toArray s) (F0 m 0 ls [])
  refine lv_iconst (v := (0 : Int32)) hx hb dX1_passNights_0 (by decide) ?_
  refine lv_istore_n (lv' := [(2, .int (0 : Int32)), (0, .ref (q 0)), (1, .int x1)]) hx hb dX1_passNights_1 rfl hl (by decide) rfl (fun ls hl => ?_)
  have L0 : ∀ (n0 : Nat) (v2_2 : Int32) (w_2 : LD) (H : Heap) (locs : List Loc) (ls : Array Slot), f_X1_passNights_2 x1 n0 v2_2 w_2 = some o → Wd G A0 s (cLD G q w_2) H locs → lv_has ls 3 [(2, .int v2_2), (0, .ref (q 0)), (1, .int x1)] → W p l e rmX1_passNights s m ([.ref (q 0), .int x1] : List Value).toArray below meth c H locs 0 0 (Qv below G (cLD G q o) A0 ([.ref (q 0), .int x1] : List Value).toArray s) (F0 m 2 ls []) := by
    intro n0
    induction n0 with
    | zero => intro v2_2 w_2 H locs ls h; cases (show (none : Option (LD)) = some o from h)
    | succ n0 ih0 =>
      intro v2_2 w_2 H locs ls h hW hl
      refine lv_iload_n hx hb dX1_passNights_2 rfl (lv_at hl 0 rfl) ?_
      refine lv_iload_n hx hb dX1_passNights_3 rfl (lv_at hl 2 rfl) ?_
      obtain ⟨ht_4, hf_4⟩ := of_ite h
      refine lv_icmp_ge (tgt := 17) hx hb dX1_passNights_4 (by decide) (fun c_4 => ?_) (fun c_4 => ?_)
      · have h := ht_4 c_4
        obtain rfl := Option.some.inj h
        exact x_retv F hr hW dX1_passNights_17
      · have h := hf_4 c_4
        refine lv_aload_n hx hb dX1_passNights_7 rfl (lv_at hl 1 rfl) ?_
        obtain ⟨p_8, hc_8, h⟩ := of_bind h
        refine x_Vv (av := [.ref (q 0)]) (As := []) F hW (c_X1_passNight l G q w_2 _ hc_8) [0, 1, 2, 3, 4, 5] rfl rfl (by intro q; cases q) cv_X1_59 rfl ⟨_, rfl, rfl⟩ rfl rfl rfl hl (Nat.le_of_ble_eq_true rfl) ⟨Nat.le_of_ble_eq_true rfl, Nat.le_of_ble_eq_true rfl⟩ ⟨rfl, rfl⟩ ⟨Nat.le_of_ble_eq_true rfl, Nat.le_of_ble_eq_true rfl⟩ dX1_passNights_8 rfl [some 0, some 1, some 2, some 3, some 4, some 5] rfl (ws' := cLD G q p_8) rfl (fun H locs hW => ?_)
        refine lv_iinc (v := (v2_2 + (1 : Int32))) (lv' := [(2, .int (v2_2 + (1 : Int32))), (0, .ref (q 0)), (1, .int x1)]) hx hb dX1_passNights_11 hl (k := 0) rfl rfl (by decide) rfl (fun ls hl => ?_)
        refine lv_goto (tgt := 2) hx hb dX1_passNights_14 (by decide) ?_
        exact ih0 (v2_2 + (1 : Int32)) p_8 _ _ _ h hW (lv_sub hl [0, 1, 2] rfl)
  exact L0 200 (0 : Int32) w _ _ _ h hW (lv_sub hl [0, 1, 2] rfl)
def f_X2_isFull (w : LT) : Option (Int32) :=
  if w.2.1 < (96 : Int32) then
    some (0 : Int32)
    else
    some (1 : Int32)
abbrev rmX2_isFull : Room := { frames := 0, cells := 0, slots := 0, locals := 0 }
set_option maxRecDepth 100000 in
set_option maxHeartbeats 4000000 in
theorem c_X2_isFull (l : Launch) (G : EnT) (q : Nat → Nat) (w : LT) (o : Int32) (h : f_X2_isFull w = some o) : Mi l yX2_isFull rmX2_isFull cX2_isFull 1 (some .boolean) G false [.ref (q 0)] (cLT G q w) o (cLT G q w) := by
  refine Mi_of (by decide) (Nat.le_of_ble_eq_true rfl) ?_
  intro p e s m below meth c A0 F hr hW ls hl
  obtain ⟨hx, hb, hml, hown, hts, hK, hNW, hlocks, hA, hSX⟩ := id F
  have hl : lv_has ls 1 [(0, .ref (q 0))] := hl
  have hW : Wd G A0 s (cLT G q w) s.heap [] := hW
  show W p l e rmX2_isFull s m ([.ref (q 0)] : List Value).toArray below meth c s.heap [] 0 0 (Qi below G (cLT G q w) o A0 ([.ref (q 0)] : List Value).toArray s) (F0 m 0 ls [])
  refine lv_aload_n hx hb dX2_isFull_0 rfl (lv_at hl 0 rfl) ?_
  refine x_get F hW 0 rfl fa_X2_15 rfl dX2_isFull_1 ?_
  refine lv_bipush (v := (96 : Int32)) hx hb dX2_isFull_4 (by decide) ?_
  obtain ⟨ht_6, hf_6⟩ := of_ite h
  refine lv_icmp_lt (tgt := 13) hx hb dX2_isFull_6 (by decide) (fun c_6 => ?_) (fun c_6 => ?_)
  · have h := ht_6 c_6
    refine lv_iconst (v := (0 : Int32)) hx hb dX2_isFull_13 (by decide) ?_
    obtain rfl := Option.some.inj h
    exact x_retz F hr hW (Or.inl rfl) rfl dX2_isFull_14
  · have h := hf_6 c_6
    refine lv_iconst (v := (1 : Int32)) hx hb dX2_isFull_9 (by decide) ?_
    refine lv_goto (tgt := 14) hx hb dX2_isFull_10 (by decide) ?_
    obtain rfl := Option.some.inj h
    exact x_retz F hr hW (Or.inr rfl) rfl dX2_isFull_14
def f_X2_add (w : LT) (x1 : Int32) : Option (Int32 × LT) :=
  Option.bind (f_X2_isFull w) fun p_1 =>
    if p_1 = 0 then
    if inR w.2.1 96 then
    some ((w.2.1 + (1 : Int32)), ((upd w.1 w.2.1.toNatClampNeg x1), (w.2.1 + (1 : Int32)), w.2.2))
    else none
    else
    some (w.2.1, w)
abbrev rmX2_add : Room := { frames := 1, cells := 0, slots := 0, locals := 20 }
set_option maxRecDepth 100000 in
set_option maxHeartbeats 4000000 in
theorem c_X2_add (l : Launch) (G : EnT) (q : Nat → Nat) (w : LT) (x1 : Int32) (o : Int32 × LT) (h : f_X2_add w x1 = some o) : Mi l yX2_add rmX2_add cX2_add 2 (some .int) G false [.ref (q 0), .int x1] (cLT G q w) o.1 (cLT G q o.2) := by
  refine Mi_of (by decide) (Nat.le_of_ble_eq_true rfl) ?_
  intro p e s m below meth c A0 F hr hW ls hl
  obtain ⟨hx, hb, hml, hown, hts, hK, hNW, hlocks, hA, hSX⟩ := id F
  have hl : lv_has ls 2 [(0, .ref (q 0)), (1, .int x1)] := hl
  have hW : Wd G A0 s (cLT G q w) s.heap [] := hW
  show W p l e rmX2_add s m ([.ref (q 0), .int x1] : List Value).toArray below meth c s.heap [] 0 0 (Qi below G (cLT G q o.2) o.1 A0 ([.ref (q 0), .int x1] : List Value).toArray s) (F0 m 0 ls [])
  refine lv_aload_n hx hb dX2_add_0 rfl (lv_at hl 0 rfl) ?_
  obtain ⟨p_1, hc_1, h⟩ := of_bind h
  refine x_Vi (av := [.ref (q 0)]) (As := []) F hW (c_X2_isFull l G q w _ hc_1) [0, 1] rfl rfl (by intro q; cases q) cv_X2_19 rfl ⟨_, rfl, rfl⟩ rfl rfl rfl hl (Nat.le_of_ble_eq_true rfl) ⟨Nat.le_of_ble_eq_true rfl, Nat.le_of_ble_eq_true rfl⟩ ⟨rfl, rfl⟩ ⟨Nat.le_of_ble_eq_true rfl, Nat.le_of_ble_eq_true rfl⟩ dX2_add_1 rfl [some 0, some 1] rfl (ws' := cLT G q w) rfl (fun H locs hW => ?_)
  obtain ⟨ht_4, hf_4⟩ := of_ite h
  refine lv_if_ne (tgt := 27) hx hb dX2_add_4 (by decide) (fun c_4 => ?_) (fun c_4 => ?_)
  · have h := hf_4 c_4
    refine lv_aload_n hx hb dX2_add_27 rfl (lv_at hl 0 rfl) ?_
    refine x_get F hW 0 rfl fa_X2_15 rfl dX2_add_28 ?_
    obtain rfl := Option.some.inj h
    exact x_reti F hr hW rfl dX2_add_31
  · have h := ht_4 c_4
    refine lv_aload_n hx hb dX2_add_7 rfl (lv_at hl 0 rfl) ?_
    refine x_get F hW 0 rfl fa_X2_9 rfl dX2_add_8 ?_
    refine lv_aload_n hx hb dX2_add_11 rfl (lv_at hl 0 rfl) ?_
    refine x_get F hW 0 rfl fa_X2_15 rfl dX2_add_12 ?_
    refine lv_iload_n hx hb dX2_add_15 rfl (lv_at hl 1 rfl) ?_
    obtain ⟨g_16, h⟩ := of_guard h
    refine x_iast F hW 1 rfl g_16 (ws' := cLT G q ((upd w.1 w.2.1.toNatClampNeg x1), w.2.1, w.2.2)) rfl dX2_add_16 (fun H locs hW => ?_)
    refine lv_aload_n hx hb dX2_add_17 rfl (lv_at hl 0 rfl) ?_
    refine lv_dup hx hb dX2_add_18 rfl ?_
    refine x_get F hW 0 rfl fa_X2_15 rfl dX2_add_19 ?_
    refine lv_iconst (v := (1 : Int32)) hx hb dX2_add_22 (by decide) ?_
    refine lv_iadd hx hb dX2_add_23 ?_
    refine x_put F hW 0 rfl fp_X2_15 rfl rfl (Nat.le_of_ble_eq_true rfl) (ws' := cLT G q ((upd w.1 w.2.1.toNatClampNeg x1), (w.2.1 + (1 : Int32)), w.2.2)) rfl dX2_add_24 (fun H locs hW => ?_)
    refine lv_aload_n hx hb dX2_add_27 rfl (lv_at hl 0 rfl) ?_
    refine x_get F hW 0 rfl fa_X2_15 rfl dX2_add_28 ?_
    obtain rfl := Option.some.inj h
    exact x_reti F hr hW rfl dX2_add_31
def f_X2_forget (w : LT) : Option (LT) :=
  some (w.1, (0 : Int32), w.2.2)
abbrev rmX2_forget : Room := { frames := 0, cells := 0, slots := 0, locals := 0 }
set_option maxRecDepth 100000 in
set_option maxHeartbeats 4000000 in
theorem c_X2_forget (l : Launch) (G : EnT) (q : Nat → Nat) (w : LT) (o : LT) (h : f_X2_forget w = some o) : Mv l yX2_forget rmX2_forget cX2_forget 1 none G false [.ref (q 0)] (cLT G q w) (cLT G q o) := by
  refine Mv_of (by decide) (Nat.le_of_ble_eq_true rfl) ?_
  intro p e s m below meth c A0 F hr hW ls hl
  obtain ⟨hx, hb, hml, hown, hts, hK, hNW, hlocks, hA, hSX⟩ := id F
  have hl : lv_has ls 1 [(0, .ref (q 0))] := hl
  have hW : Wd G A0 s (cLT G q w) s.heap [] := hW
  show W p l e rmX2_forget s m ([.ref (q 0)] : List Value).toArray below meth c s.heap [] 0 0 (Qv below G (cLT G q o) A0 ([.ref (q 0)] : List Value).toArray s) (F0 m 0 ls [])
  refine lv_aload_n hx hb dX2_forget_0 rfl (lv_at hl 0 rfl) ?_
  refine lv_iconst (v := (0 : Int32)) hx hb dX2_forget_1 (by decide) ?_
  refine x_put F hW 0 rfl fp_X2_15 rfl rfl (Nat.le_of_ble_eq_true rfl) (ws' := cLT G q (w.1, (0 : Int32), w.2.2)) rfl dX2_forget_2 (fun H locs hW => ?_)
  obtain rfl := Option.some.inj h
  exact x_retv F hr hW dX2_forget_5
