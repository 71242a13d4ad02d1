def f_X2_formBehind (x1 : Int32) : Option (Nat) :=
  if x1 = (99 : Int32) then
    some 0
    else
    if x1 = (100 : Int32) then
    some 4
    else
    if x1 = (101 : Int32) then
    some 4
    else
    if x1 = (102 : Int32) then
    some 2
    else
    if x1 = (103 : Int32) then
    some 4
    else
    if x1 = (104 : Int32) then
    some 1
    else
    if x1 = (105 : Int32) then
    some 4
    else
    if x1 = (106 : Int32) then
    some 4
    else
    if x1 = (107 : Int32) then
    some 4
    else
    if x1 = (108 : Int32) then
    some 4
    else
    if x1 = (109 : Int32) then
    some 0
    else
    if x1 = (110 : Int32) then
    some 3
    else
    if x1 = (111 : Int32) then
    some 4
    else
    if x1 = (112 : Int32) then
    some 4
    else
    if x1 = (113 : Int32) then
    some 4
    else
    if x1 = (114 : Int32) then
    some 4
    else
    if x1 = (115 : Int32) then
    some 4
    else
    if x1 = (116 : Int32) then
    some 4
    else
    if x1 = (117 : Int32) then
    some 2
    else
    if x1 = (118 : Int32) then
    some 4
    else
    if x1 = (119 : Int32) then
    some 0
    else
    some 4
abbrev rmX2_formBehind : Room := { frames := 0, cells := 0, slots := 0, locals := 0 }
set_option maxRecDepth 100000 in
set_option maxHeartbeats 4000000 in
theorem c_X2_formBehind (l : Launch) (G : EnT) (x1 : Int32) (o : Nat) (h : f_X2_formBehind x1 = some o) : Mr l yX2_formBehind rmX2_formBehind cX2_formBehind 1 (some (.object "java/lang/String")) G true [.int x1] ([]) (G.2.2.1 o) ([]) := by
  refine Mr_of (by decide) (Nat.le_of_ble_eq_true rfl) ?_
  intro p e s m below meth c A0 F hr hW ls hl
  obtain ⟨hx, hb, hml, hown, hts, hK, hNW, hlocks, hA, hSX⟩ := id F
  have hl : lv_has ls 1 [(0, .int x1)] := hl
  have hW : Wd G A0 s ([]) s.heap [] := hW
  show W p l e rmX2_formBehind s m ([.int x1] : List Value).toArray below meth c s.heap [] 0 0 (Qr below G ([]) (G.2.2.1 o) A0 ([.int x1] : List Value).toArray s) (F0 m 0 ls [])
  refine lv_iload_n hx hb dX2_formBehind_0 rfl (lv_at hl 0 rfl) ?_
  obtain ⟨ht_1_0, h⟩ := of_ite h
  by_cases c_1_0 : x1 = (99 : Int32)
  · have h := ht_1_0 c_1_0
    refine x_tableIn c_1_0 hx hb dX2_formBehind_1 (by decide) (by decide) (off := (99)) rfl (tgt := 100) (by decide) ?_
    refine va_ldcS hx hb hown ((hSX rfl).2.2.2 0 (by decide)) dX2_formBehind_100 ?_
    obtain rfl := Option.some.inj h
    exact x_retr F hr hW rfl dX2_formBehind_102
  have h := h c_1_0
  obtain ⟨ht_1_1, h⟩ := of_ite h
  by_cases c_1_1 : x1 = (100 : Int32)
  · have h := ht_1_1 c_1_1
    refine x_tableIn c_1_1 hx hb dX2_formBehind_1 (by decide) (by decide) (off := (111)) rfl (tgt := 112) (by decide) ?_
    refine va_ldcS hx hb hown ((hSX rfl).2.2.2 4 (by decide)) dX2_formBehind_112 ?_
    obtain rfl := Option.some.inj h
    exact x_retr F hr hW rfl dX2_formBehind_114
  have h := h c_1_1
  obtain ⟨ht_1_2, h⟩ := of_ite h
  by_cases c_1_2 : x1 = (101 : Int32)
  · have h := ht_1_2 c_1_2
    refine x_tableIn c_1_2 hx hb dX2_formBehind_1 (by decide) (by decide) (off := (111)) rfl (tgt := 112) (by decide) ?_
    refine va_ldcS hx hb hown ((hSX rfl).2.2.2 4 (by decide)) dX2_formBehind_112 ?_
    obtain rfl := Option.some.inj h
    exact x_retr F hr hW rfl dX2_formBehind_114
  have h := h c_1_2
  obtain ⟨ht_1_3, h⟩ := of_ite h
  by_cases c_1_3 : x1 = (102 : Int32)
  · have h := ht_1_3 c_1_3
    refine x_tableIn c_1_3 hx hb dX2_formBehind_1 (by decide) (by decide) (off := (105)) rfl (tgt := 106) (by decide) ?_
    refine va_ldcS hx hb hown ((hSX rfl).2.2.2 2 (by decide)) dX2_formBehind_106 ?_
    obtain rfl := Option.some.inj h
    exact x_retr F hr hW rfl dX2_formBehind_108
  have h := h c_1_3
  obtain ⟨ht_1_4, h⟩ := of_ite h
  by_cases c_1_4 : x1 = (103 : Int32)
  · have h := ht_1_4 c_1_4
    refine x_tableIn c_1_4 hx hb dX2_formBehind_1 (by decide) (by decide) (off := (111)) rfl (tgt := 112) (by decide) ?_
    refine va_ldcS hx hb hown ((hSX rfl).2.2.2 4 (by decide)) dX2_formBehind_112 ?_
    obtain rfl := Option.some.inj h
    exact x_retr F hr hW rfl dX2_formBehind_114
  have h := h c_1_4
  obtain ⟨ht_1_5, h⟩ := of_ite h
  by_cases c_1_5 : x1 = (104 : Int32)
  · have h := ht_1_5 c_1_5
    refine x_tableIn c_1_5 hx hb dX2_formBehind_1 (by decide) (by decide) (off := (102)) rfl (tgt := 103) (by decide) ?_
    refine va_ldcS hx hb hown ((hSX rfl).2.2.2 1 (by decide)) dX2_formBehind_103 ?_
    obtain rfl := Option.some.inj h
    exact x_retr F hr hW rfl dX2_formBehind_105
  have h := h c_1_5
  obtain ⟨ht_1_6, h⟩ := of_ite h
  by_cases c_1_6 : x1 = (105 : Int32)
  · have h := ht_1_6 c_1_6
    refine x_tableIn c_1_6 hx hb dX2_formBehind_1 (by decide) (by decide) (off := (111)) rfl (tgt := 112) (by decide) ?_
    refine va_ldcS hx hb hown ((hSX rfl).2.2.2 4 (by decide)) dX2_formBehind_112 ?_
    obtain rfl := Option.some.inj h
    exact x_retr F hr hW rfl dX2_formBehind_114
  have h := h c_1_6
  obtain ⟨ht_1_7, h⟩ := of_ite h
  by_cases c_1_7 : x1 = (106 : Int32)
  · have h := ht_1_7 c_1_7
    refine x_tableIn c_1_7 hx hb dX2_formBehind_1 (by decide) (by decide) (off := (111)) rfl (tgt := 112) (by decide) ?_
    refine va_ldcS hx hb hown ((hSX rfl).2.2.2 4 (by decide)) dX2_formBehind_112 ?_
    obtain rfl := Option.some.inj h
    exact x_retr F hr hW rfl dX2_formBehind_114
  have h := h c_1_7
  obtain ⟨ht_1_8, h⟩ := of_ite h
  by_cases c_1_8 : x1 = (107 : Int32)
  · have h := ht_1_8 c_1_8
    refine x_tableIn c_1_8 hx hb dX2_formBehind_1 (by decide) (by decide) (off := (111)) rfl (tgt := 112) (by decide) ?_
    refine va_ldcS hx hb hown ((hSX rfl).2.2.2 4 (by decide)) dX2_formBehind_112 ?_
    obtain rfl := Option.some.inj h
    exact x_retr F hr hW rfl dX2_formBehind_114
  have h := h c_1_8
  obtain ⟨ht_1_9, h⟩ := of_ite h
  by_cases c_1_9 : x1 = (108 : Int32)
  · have h := ht_1_9 c_1_9
    refine x_tableIn c_1_9 hx hb dX2_formBehind_1 (by decide) (by decide) (off := (111)) rfl (tgt := 112) (by decide) ?_
    refine va_ldcS hx hb hown ((hSX rfl).2.2.2 4 (by decide)) dX2_formBehind_112 ?_
    obtain rfl := Option.some.inj h
    exact x_retr F hr hW rfl dX2_formBehind_114
  have h := h c_1_9
  obtain ⟨ht_1_10, h⟩ := of_ite h
  by_cases c_1_10 : x1 = (109 : Int32)
  · have h := ht_1_10 c_1_10
    refine x_tableIn c_1_10 hx hb dX2_formBehind_1 (by decide) (by decide) (off := (99)) rfl (tgt := 100) (by decide) ?_
    refine va_ldcS hx hb hown ((hSX rfl).2.2.2 0 (by decide)) dX2_formBehind_100 ?_
    obtain rfl := Option.some.inj h
    exact x_retr F hr hW rfl dX2_formBehind_102
  have h := h c_1_10
  obtain ⟨ht_1_11, h⟩ := of_ite h
  by_cases c_1_11 : x1 = (110 : Int32)
  · have h := ht_1_11 c_1_11
    refine x_tableIn c_1_11 hx hb dX2_formBehind_1 (by decide) (by decide) (off := (108)) rfl (tgt := 109) (by decide) ?_
    refine va_ldcS hx hb hown ((hSX rfl).2.2.2 3 (by decide)) dX2_formBehind_109 ?_
    obtain rfl := Option.some.inj h
    exact x_retr F hr hW rfl dX2_formBehind_111
  have h := h c_1_11
  obtain ⟨ht_1_12, h⟩ := of_ite h
  by_cases c_1_12 : x1 = (111 : Int32)
  · have h := ht_1_12 c_1_12
    refine x_tableIn c_1_12 hx hb dX2_formBehind_1 (by decide) (by decide) (off := (111)) rfl (tgt := 112) (by decide) ?_
    refine va_ldcS hx hb hown ((hSX rfl).2.2.2 4 (by decide)) dX2_formBehind_112 ?_
    obtain rfl := Option.some.inj h
    exact x_retr F hr hW rfl dX2_formBehind_114
  have h := h c_1_12
  obtain ⟨ht_1_13, h⟩ := of_ite h
  by_cases c_1_13 : x1 = (112 : Int32)
  · have h := ht_1_13 c_1_13
    refine x_tableIn c_1_13 hx hb dX2_formBehind_1 (by decide) (by decide) (off := (111)) rfl (tgt := 112) (by decide) ?_
    refine va_ldcS hx hb hown ((hSX rfl).2.2.2 4 (by decide)) dX2_formBehind_112 ?_
    obtain rfl := Option.some.inj h
    exact x_retr F hr hW rfl dX2_formBehind_114
  have h := h c_1_13
  obtain ⟨ht_1_14, h⟩ := of_ite h
  by_cases c_1_14 : x1 = (113 : Int32)
  · have h := ht_1_14 c_1_14
    refine x_tableIn c_1_14 hx hb dX2_formBehind_1 (by decide) (by decide) (off := (111)) rfl (tgt := 112) (by decide) ?_
    refine va_ldcS hx hb hown ((hSX rfl).2.2.2 4 (by decide)) dX2_formBehind_112 ?_
    obtain rfl := Option.some.inj h
    exact x_retr F hr hW rfl dX2_formBehind_114
  have h := h c_1_14
  obtain ⟨ht_1_15, h⟩ := of_ite h
  by_cases c_1_15 : x1 = (114 : Int32)
  · have h := ht_1_15 c_1_15
    refine x_tableIn c_1_15 hx hb dX2_formBehind_1 (by decide) (by decide) (off := (111)) rfl (tgt := 112) (by decide) ?_
    refine va_ldcS hx hb hown ((hSX rfl).2.2.2 4 (by decide)) dX2_formBehind_112 ?_
    obtain rfl := Option.some.inj h
    exact x_retr F hr hW rfl dX2_formBehind_114
  have h := h c_1_15
  obtain ⟨ht_1_16, h⟩ := of_ite h
  by_cases c_1_16 : x1 = (115 : Int32)
  · have h := ht_1_16 c_1_16
    refine x_tableIn c_1_16 hx hb dX2_formBehind_1 (by decide) (by decide) (off := (111)) rfl (tgt := 112) (by decide) ?_
    refine va_ldcS hx hb hown ((hSX rfl).2.2.2 4 (by decide)) dX2_formBehind_112 ?_
    obtain rfl := Option.some.inj h
    exact x_retr F hr hW rfl dX2_formBehind_114
  have h := h c_1_16
  obtain ⟨ht_1_17, h⟩ := of_ite h
  by_cases c_1_17 : x1 = (116 : Int32)
  · have h := ht_1_17 c_1_17
    refine x_tableIn c_1_17 hx hb dX2_formBehind_1 (by decide) (by decide) (off := (111)) rfl (tgt := 112) (by decide) ?_
    refine va_ldcS hx hb hown ((hSX rfl).2.2.2 4 (by decide)) dX2_formBehind_112 ?_
    obtain rfl := Option.some.inj h
    exact x_retr F hr hW rfl dX2_formBehind_114
  have h := h c_1_17
  obtain ⟨ht_1_18, h⟩ := of_ite h
  by_cases c_1_18 : x1 = (117 : Int32)
  · have h := ht_1_18 c_1_18
    refine x_tableIn c_1_18 hx hb dX2_formBehind_1 (by decide) (by decide) (off := (105)) rfl (tgt := 106) (by decide) ?_
    refine va_ldcS hx hb hown ((hSX rfl).2.2.2 2 (by decide)) dX2_formBehind_106 ?_
    obtain rfl := Option.some.inj h
    exact x_retr F hr hW rfl dX2_formBehind_108
  have h := h c_1_18
  obtain ⟨ht_1_19, h⟩ := of_ite h
  by_cases c_1_19 : x1 = (118 : Int32)
  · have h := ht_1_19 c_1_19
    refine x_tableIn c_1_19 hx hb dX2_formBehind_1 (by decide) (by decide) (off := (111)) rfl (tgt := 112) (by decide) ?_
    refine va_ldcS hx hb hown ((hSX rfl).2.2.2 4 (by decide)) dX2_formBehind_112 ?_
    obtain rfl := Option.some.inj h
    exact x_retr F hr hW rfl dX2_formBehind_114
  have h := h c_1_19
  obtain ⟨ht_1_20, h⟩ := of_ite h
  by_cases c_1_20 : x1 = (119 : Int32)
  · have h := ht_1_20 c_1_20
    refine x_tableIn c_1_20 hx hb dX2_formBehind_1 (by decide) (by decide) (off := (99)) rfl (tgt := 100) (by decide) ?_
    refine va_ldcS hx hb hown ((hSX rfl).2.2.2 0 (by decide)) dX2_formBehind_100 ?_
    obtain rfl := Option.some.inj h
    exact x_retr F hr hW rfl dX2_formBehind_102
  have h := h c_1_20
  refine lv_tableOut hx hb dX2_formBehind_1 (by have z0 := x_ne c_1_0 (z := 99) (by decide); have z1 := x_ne c_1_1 (z := 100) (by decide); have z2 := x_ne c_1_2 (z := 101) (by decide); have z3 := x_ne c_1_3 (z := 102) (by decide); have z4 := x_ne c_1_4 (z := 103) (by decide); have z5 := x_ne c_1_5 (z := 104) (by decide); have z6 := x_ne c_1_6 (z := 105) (by decide); have z7 := x_ne c_1_7 (z := 106) (by decide); have z8 := x_ne c_1_8 (z := 107) (by decide); have z9 := x_ne c_1_9 (z := 108) (by decide); have z10 := x_ne c_1_10 (z := 109) (by decide); have z11 := x_ne c_1_11 (z := 110) (by decide); have z12 := x_ne c_1_12 (z := 111) (by decide); have z13 := x_ne c_1_13 (z := 112) (by decide); have z14 := x_ne c_1_14 (z := 113) (by decide); have z15 := x_ne c_1_15 (z := 114) (by decide); have z16 := x_ne c_1_16 (z := 115) (by decide); have z17 := x_ne c_1_17 (z := 116) (by decide); have z18 := x_ne c_1_18 (z := 117) (by decide); have z19 := x_ne c_1_19 (z := 118) (by decide); have z20 := x_ne c_1_20 (z := 119) (by decide); omega) (tgt := 112) (by decide) ?_
  refine va_ldcS hx hb hown ((hSX rfl).2.2.2 4 (by decide)) dX2_formBehind_112 ?_
  obtain rfl := Option.some.inj h
  exact x_retr F hr hW rfl dX2_formBehind_114
theorem ix_formBehind {x1 : Int32} {p : Nat} (h : f_X2_formBehind x1 = some p) : p < 6 := by
  unfold f_X2_formBehind at h
  by_cases c : x1 = (99 : Int32)
  · rw [if_pos c] at h; cases h; decide
  rw [if_neg c] at h; clear c
  by_cases c : x1 = (100 : Int32)
  · rw [if_pos c] at h; cases h; decide
  rw [if_neg c] at h; clear c
  by_cases c : x1 = (101 : Int32)
  · rw [if_pos c] at h; cases h; decide
  rw [if_neg c] at h; clear c
  by_cases c : x1 = (102 : Int32)
  · rw [if_pos c] at h; cases h; decide
  rw [if_neg c] at h; clear c
  by_cases c : x1 = (103 : Int32)
  · rw [if_pos c] at h; cases h; decide
  rw [if_neg c] at h; clear c
  by_cases c : x1 = (104 : Int32)
  · rw [if_pos c] at h; cases h; decide
  rw [if_neg c] at h; clear c
  by_cases c : x1 = (105 : Int32)
  · rw [if_pos c] at h; cases h; decide
  rw [if_neg c] at h; clear c
  by_cases c : x1 = (106 : Int32)
  · rw [if_pos c] at h; cases h; decide
  rw [if_neg c] at h; clear c
  by_cases c : x1 = (107 : Int32)
  · rw [if_pos c] at h; cases h; decide
  rw [if_neg c] at h; clear c
  by_cases c : x1 = (108 : Int32)
  · rw [if_pos c] at h; cases h; decide
  rw [if_neg c] at h; clear c
  by_cases c : x1 = (109 : Int32)
  · rw [if_pos c] at h; cases h; decide
  rw [if_neg c] at h; clear c
  by_cases c : x1 = (110 : Int32)
  · rw [if_pos c] at h; cases h; decide
  rw [if_neg c] at h; clear c
  by_cases c : x1 = (111 : Int32)
  · rw [if_pos c] at h; cases h; decide
  rw [if_neg c] at h; clear c
  by_cases c : x1 = (112 : Int32)
  · rw [if_pos c] at h; cases h; decide
  rw [if_neg c] at h; clear c
  by_cases c : x1 = (113 : Int32)
  · rw [if_pos c] at h; cases h; decide
  rw [if_neg c] at h; clear c
  by_cases c : x1 = (114 : Int32)
  · rw [if_pos c] at h; cases h; decide
  rw [if_neg c] at h; clear c
  by_cases c : x1 = (115 : Int32)
  · rw [if_pos c] at h; cases h; decide
  rw [if_neg c] at h; clear c
  by_cases c : x1 = (116 : Int32)
  · rw [if_pos c] at h; cases h; decide
  rw [if_neg c] at h; clear c
  by_cases c : x1 = (117 : Int32)
  · rw [if_pos c] at h; cases h; decide
  rw [if_neg c] at h; clear c
  by_cases c : x1 = (118 : Int32)
  · rw [if_pos c] at h; cases h; decide
  rw [if_neg c] at h; clear c
  by_cases c : x1 = (119 : Int32)
  · rw [if_pos c] at h; cases h; decide
  rw [if_neg c] at h; clear c
  cases h; decide

def f_J0_isLatin1_aae02 (i : Nat) : Option (Int32) :=
  if i < 6 then
    some (1 : Int32)
    else none
abbrev rmJ0_isLatin1_aae02 : Room := { frames := 0, cells := 0, slots := 0, locals := 0 }
set_option maxRecDepth 100000 in
set_option maxHeartbeats 4000000 in
theorem c_J0_isLatin1_aae02 (l : Launch) (G : EnT) (i : Nat) (o : Int32) (h : f_J0_isLatin1_aae02 i = some o) : Mi l yJ0_isLatin1_aae02 rmJ0_isLatin1_aae02 cJ0_isLatin1_aae02 1 (some .boolean) G true [.ref (G.2.2.1 i)] ([]) o ([]) := by
  refine Mi_of (by decide) (Nat.le_of_ble_eq_true rfl) ?_
  intro p e s m below meth c A0 F hr hW ls hl
  obtain ⟨hx, hb, hml, hown, hts, hK, hNW, hlocks, hA, hSX⟩ := id F
  have hl : lv_has ls 1 [(0, .ref (G.2.2.1 i))] := hl
  have hW : Wd G A0 s ([]) s.heap [] := hW
  show W p l e rmJ0_isLatin1_aae02 s m ([.ref (G.2.2.1 i)] : List Value).toArray below meth c s.heap [] 0 0 (Qi below G ([]) o A0 ([.ref (G.2.2.1 i)] : List Value).toArray s) (F0 m 0 ls [])
  obtain ⟨hi, h⟩ := of_guard h
  refine va_gets hx hb (hSX rfl).2.1 hW.2.2 hown (hts _ wd_226) (fun x h => h) dJ0_isLatin1_aae02_0 ?_
  refine lv_if_eq (tgt := 17) hx hb dJ0_isLatin1_aae02_3 (by decide) (fun c_3 => ?_) (fun c_3 => ?_)
  · exact absurd c_3 (by decide)
  · skip
    refine lv_aload_n hx hb dJ0_isLatin1_aae02_6 rfl (lv_at hl 0 rfl) ?_
    refine vk_getf hx hb ((hSX rfl).1.1 i hi).2.1 hW.2.2 hown (hts _ wd_1250) (fun x h => h) dJ0_isLatin1_aae02_7 ?_
    refine lv_if_ne (tgt := 17) hx hb dJ0_isLatin1_aae02_10 (by decide) (fun c_10 => ?_) (fun c_10 => ?_)
    · exact absurd c_10 (by decide)
    · skip
      refine lv_iconst (v := (1 : Int32)) hx hb dJ0_isLatin1_aae02_13 (by decide) ?_
      refine lv_goto (tgt := 18) hx hb dJ0_isLatin1_aae02_14 (by decide) ?_
      obtain rfl := Option.some.inj h
      exact x_retz F hr hW (Or.inr rfl) rfl dJ0_isLatin1_aae02_18
theorem lit_isLatin1 {i : Nat} {p : Int32} (h : f_J0_isLatin1_aae02 i = some p) : p = 1 := by
  unfold f_J0_isLatin1_aae02 at h
  split at h
  · exact (Option.some.inj h).symm
  · cases h

def f_J0_coder_7d493 (i : Nat) : Option (Int32) :=
  if i < 6 then
    some (0 : Int32)
    else none
abbrev rmJ0_coder_7d493 : Room := { frames := 0, cells := 0, slots := 0, locals := 0 }
set_option maxRecDepth 100000 in
set_option maxHeartbeats 4000000 in
theorem c_J0_coder_7d493 (l : Launch) (G : EnT) (i : Nat) (o : Int32) (h : f_J0_coder_7d493 i = some o) : Mi l yJ0_coder_7d493 rmJ0_coder_7d493 cJ0_coder_7d493 1 (some .byte) G true [.ref (G.2.2.1 i)] ([]) o ([]) := by
  refine Mi_of (by decide) (Nat.le_of_ble_eq_true rfl) ?_
  intro p e s m below meth c A0 F hr hW ls hl
  obtain ⟨hx, hb, hml, hown, hts, hK, hNW, hlocks, hA, hSX⟩ := id F
  have hl : lv_has ls 1 [(0, .ref (G.2.2.1 i))] := hl
  have hW : Wd G A0 s ([]) s.heap [] := hW
  show W p l e rmJ0_coder_7d493 s m ([.ref (G.2.2.1 i)] : List Value).toArray below meth c s.heap [] 0 0 (Qi below G ([]) o A0 ([.ref (G.2.2.1 i)] : List Value).toArray s) (F0 m 0 ls [])
  obtain ⟨hi, h⟩ := of_guard h
  refine va_gets hx hb (hSX rfl).2.1 hW.2.2 hown (hts _ wd_226) (fun x h => h) dJ0_coder_7d493_0 ?_
  refine lv_if_eq (tgt := 13) hx hb dJ0_coder_7d493_3 (by decide) (fun c_3 => ?_) (fun c_3 => ?_)
  · exact absurd c_3 (by decide)
  · skip
    refine lv_aload_n hx hb dJ0_coder_7d493_6 rfl (lv_at hl 0 rfl) ?_
    refine vk_getf hx hb ((hSX rfl).1.1 i hi).2.1 hW.2.2 hown (hts _ wd_1250) (fun x h => h) dJ0_coder_7d493_7 ?_
    refine lv_goto (tgt := 14) hx hb dJ0_coder_7d493_10 (by decide) ?_
    obtain rfl := Option.some.inj h
    exact x_retn F hr hW rfl rfl dJ0_coder_7d493_14
theorem lit_coder {i : Nat} {p : Int32} (h : f_J0_coder_7d493 i = some p) : p = 0 := by
  unfold f_J0_coder_7d493 at h
  split at h
  · exact (Option.some.inj h).symm
  · cases h

def f_J0_length_8abf5 (i : Nat) : Option (Int32) :=
  if i < 6 then
    Option.bind (f_J0_coder_7d493 i) fun p_6 =>
    some ((nI (sLen.getD i 0)) >>> ((0 : Int32) &&& 31))
    else none
abbrev rmJ0_length_8abf5 : Room := { frames := 1, cells := 0, slots := 0, locals := 20 }
set_option maxRecDepth 100000 in
set_option maxHeartbeats 4000000 in
theorem c_J0_length_8abf5 (l : Launch) (G : EnT) (i : Nat) (o : Int32) (h : f_J0_length_8abf5 i = some o) : Mi l yJ0_length_8abf5 rmJ0_length_8abf5 cJ0_length_8abf5 1 (some .int) G true [.ref (G.2.2.1 i)] ([]) o ([]) := by
  refine Mi_of (by decide) (Nat.le_of_ble_eq_true rfl) ?_
  intro p e s m below meth c A0 F hr hW ls hl
  obtain ⟨hx, hb, hml, hown, hts, hK, hNW, hlocks, hA, hSX⟩ := id F
  have hl : lv_has ls 1 [(0, .ref (G.2.2.1 i))] := hl
  have hW : Wd G A0 s ([]) s.heap [] := hW
  show W p l e rmJ0_length_8abf5 s m ([.ref (G.2.2.1 i)] : List Value).toArray below meth c s.heap [] 0 0 (Qi below G ([]) o A0 ([.ref (G.2.2.1 i)] : List Value).toArray s) (F0 m 0 ls [])
  obtain ⟨hi, h⟩ := of_guard h
  refine lv_aload_n hx hb dJ0_length_8abf5_0 rfl (lv_at hl 0 rfl) ?_
  refine vk_getf hx hb ((hSX rfl).1.1 i hi).2.2.1 hW.2.2 hown (hts _ wd_1249) (fun x h => h) dJ0_length_8abf5_1 ?_
  refine va_tlen (v := (nI (sLen.getD i 0))) hx hb ((hSX rfl).1.1 i hi).2.2.2 hW.2.2 rfl dJ0_length_8abf5_4 ?_
  refine lv_aload_n hx hb dJ0_length_8abf5_5 rfl (lv_at hl 0 rfl) ?_
  obtain ⟨p_6, hc_6, h⟩ := of_bind h
  obtain rfl := lit_coder hc_6
  refine x_Ti (av := [.ref (G.2.2.1 i)]) (As := []) F hW (c_J0_coder_7d493 l G i _ hc_6) (by intro q; exact q) hi (by decide) cv_J0_335 rfl rfl rfl rfl hl (Nat.le_of_ble_eq_true rfl) ⟨Nat.le_of_ble_eq_true rfl, Nat.le_of_ble_eq_true rfl⟩ ⟨rfl, rfl⟩ ⟨Nat.le_of_ble_eq_true rfl, Nat.le_of_ble_eq_true rfl⟩ dJ0_length_8abf5_6 (fun H locs hW => ?_)
  refine lv_ishr hx hb dJ0_length_8abf5_9 ?_
  obtain rfl := Option.some.inj h
  exact x_reti F hr hW rfl dJ0_length_8abf5_10
def f_J1_canEncode_9a6ad (x1 : Int32) : Option (Int32) :=
  if x1 < 0 then
    some (0 : Int32)
    else
    if (255 : Int32) < x1 then
    some (0 : Int32)
    else
    some (1 : Int32)
abbrev rmJ1_canEncode_9a6ad : Room := { frames := 0, cells := 0, slots := 0, locals := 0 }
set_option maxRecDepth 100000 in
set_option maxHeartbeats 4000000 in
theorem c_J1_canEncode_9a6ad (l : Launch) (G : EnT) (x1 : Int32) (o : Int32) (h : f_J1_canEncode_9a6ad x1 = some o) : Mi l yJ1_canEncode_9a6ad rmJ1_canEncode_9a6ad cJ1_canEncode_9a6ad 1 (some .boolean) G false [.int x1] ([]) o ([]) := by
  refine Mi_of (by decide) (Nat.le_of_ble_eq_true rfl) ?_
  intro p e s m below meth c A0 F hr hW ls hl
  obtain ⟨hx, hb, hml, hown, hts, hK, hNW, hlocks, hA, hSX⟩ := id F
  have hl : lv_has ls 1 [(0, .int x1)] := hl
  have hW : Wd G A0 s ([]) s.heap [] := hW
  show W p l e rmJ1_canEncode_9a6ad s m ([.int x1] : List Value).toArray below meth c s.heap [] 0 0 (Qi below G ([]) o A0 ([.int x1] : List Value).toArray s) (F0 m 0 ls [])
  refine lv_iload_n hx hb dJ1_canEncode_9a6ad_0 rfl (lv_at hl 0 rfl) ?_
  obtain ⟨ht_1, hf_1⟩ := of_ite h
  refine lv_if_lt (tgt := 15) hx hb dJ1_canEncode_9a6ad_1 (by decide) (fun c_1 => ?_) (fun c_1 => ?_)
  · have h := ht_1 c_1
    refine lv_iconst (v := (0 : Int32)) hx hb dJ1_canEncode_9a6ad_15 (by decide) ?_
    obtain rfl := Option.some.inj h
    exact x_retz F hr hW (Or.inl rfl) rfl dJ1_canEncode_9a6ad_16
  · have h := hf_1 c_1
    refine lv_iload_n hx hb dJ1_canEncode_9a6ad_4 rfl (lv_at hl 0 rfl) ?_
    refine lv_sipush (v := (255 : Int32)) hx hb dJ1_canEncode_9a6ad_5 (by decide) ?_
    obtain ⟨ht_8, hf_8⟩ := of_ite h
    refine lv_icmp_gt (tgt := 15) hx hb dJ1_canEncode_9a6ad_8 (by decide) (fun c_8 => ?_) (fun c_8 => ?_)
    · have h := ht_8 c_8
      refine lv_iconst (v := (0 : Int32)) hx hb dJ1_canEncode_9a6ad_15 (by decide) ?_
      obtain rfl := Option.some.inj h
      exact x_retz F hr hW (Or.inl rfl) rfl dJ1_canEncode_9a6ad_16
    · have h := hf_8 c_8
      refine lv_iconst (v := (1 : Int32)) hx hb dJ1_canEncode_9a6ad_11 (by decide) ?_
      refine lv_goto (tgt := 16) hx hb dJ1_canEncode_9a6ad_12 (by decide) ?_
      obtain rfl := Option.some.inj h
      exact x_retz F hr hW (Or.inr rfl) rfl dJ1_canEncode_9a6ad_16
def f_J1_indexOfChar_4cfef_7 (x3 : Int32) (i : Nat) (x_2 : Int32) : Nat → Int32 → Option (Int32)
  | 0, _ => none
  | n0 + 1, v5_7 =>
    if x3 ≤ v5_7 then
    some (-1 : Int32)
    else
    if inR v5_7 (sLen.getD i 0) then
    if ((sByt.getD i []).getD v5_7.toNatClampNeg 0) = x_2 then
    some v5_7
    else
    f_J1_indexOfChar_4cfef_7 x3 i x_2 n0 (v5_7 + (1 : Int32))
    else none
def f_J1_indexOfChar_4cfef (i : Nat) (x1 : Int32) (x2 : Int32) (x3 : Int32) : Option (Int32) :=
  if i < 6 then
    nm (i2bI x1) fun x_2 =>
    f_J1_indexOfChar_4cfef_7 x3 i x_2 200 x2
    else none
abbrev rmJ1_indexOfChar_4cfef : Room := { frames := 0, cells := 0, slots := 0, locals := 0 }
set_option maxRecDepth 100000 in
set_option maxHeartbeats 4000000 in
theorem c_J1_indexOfChar_4cfef (l : Launch) (G : EnT) (i : Nat) (x1 : Int32) (x2 : Int32) (x3 : Int32) (o : Int32) (h : f_J1_indexOfChar_4cfef i x1 x2 x3 = some o) : Mi l yJ1_indexOfChar_4cfef rmJ1_indexOfChar_4cfef cJ1_indexOfChar_4cfef 6 (some .int) G true [.ref (G.2.2.2 i), .int x1, .int x2, .int x3] ([]) o ([]) := by
  refine Mi_of (by decide) (Nat.le_of_ble_eq_true rfl) ?_
  intro p e s m below meth c A0 F hr hW ls hl
  obtain ⟨hx, hb, hml, hown, hts, hK, hNW, hlocks, hA, hSX⟩ := id F
  have hl : lv_has ls 6 [(0, .ref (G.2.2.2 i)), (1, .int x1), (2, .int x2), (3, .int x3)] := hl
  have hW : Wd G A0 s ([]) s.heap [] := hW
  show W p l e rmJ1_indexOfChar_4cfef s m ([.ref (G.2.2.2 i), .int x1, .int x2, .int x3] : List Value).toArray below meth c s.heap [] 0 0 (Qi below G ([]) o A0 ([.ref (G.2.2.2 i), .int x1, .int x2, .int x3] : List Value).toArray s) (F0 m 0 ls [])
  obtain ⟨hi, h⟩ := of_guard h
  refine lv_iload_n hx hb dJ1_indexOfChar_4cfef_0 rfl (lv_at hl 1 rfl) ?_
  refine lv_i2b (v := (i2bI x1)) hx hb dJ1_indexOfChar_4cfef_1 rfl ?_
  obtain ⟨x_2, e_x_2, h⟩ := of_nm h
  refine x_topi e_x_2 ?_
  refine lv_istore (lv' := [(4, .int x_2), (0, .ref (G.2.2.2 i)), (1, .int x1), (2, .int x2), (3, .int x3)]) hx hb dJ1_indexOfChar_4cfef_2 hl (by decide) rfl (fun ls hl => ?_)
  refine lv_iload_n hx hb dJ1_indexOfChar_4cfef_4 rfl (lv_at hl 3 rfl) ?_
  refine lv_istore (lv' := [(5, .int x2), (4, .int x_2), (0, .ref (G.2.2.2 i)), (1, .int x1), (2, .int x2), (3, .int x3)]) hx hb dJ1_indexOfChar_4cfef_5 hl (by decide) rfl (fun ls hl => ?_)
  have L0 : ∀ (n0 : Nat) (v5_7 : Int32) (H : Heap) (locs : List Loc) (ls : Array Slot), f_J1_indexOfChar_4cfef_7 x3 i x_2 n0 v5_7 = some o → Wd G A0 s ([]) H locs → lv_has ls 6 [(5, .int v5_7), (4, .int x_2), (0, .ref (G.2.2.2 i)), (3, .int x3)] → W p l e rmJ1_indexOfChar_4cfef s m ([.ref (G.2.2.2 i), .int x1, .int x2, .int x3] : List Value).toArray below meth c H locs 0 0 (Qi below G ([]) o A0 ([.ref (G.2.2.2 i), .int x1, .int x2, .int x3] : List Value).toArray s) (F0 m 7 ls []) := by
    intro n0
    induction n0 with
    | zero => intro v5_7 H locs ls h; cases (show (none : Option (Int32)) = some o from h)
    | succ n0 ih0 =>
      intro v5_7 H locs ls h hW hl
      refine lv_iload hx hb dJ1_indexOfChar_4cfef_7 (lv_at hl 0 rfl) ?_
      refine lv_iload_n hx hb dJ1_indexOfChar_4cfef_9 rfl (lv_at hl 3 rfl) ?_
      obtain ⟨ht_10, hf_10⟩ := of_ite h
      refine lv_icmp_ge (tgt := 31) hx hb dJ1_indexOfChar_4cfef_10 (by decide) (fun c_10 => ?_) (fun c_10 => ?_)
      · have h := ht_10 c_10
        refine lv_iconst (v := (-1 : Int32)) hx hb dJ1_indexOfChar_4cfef_31 (by decide) ?_
        obtain rfl := Option.some.inj h
        exact x_reti F hr hW rfl dJ1_indexOfChar_4cfef_32
      · have h := hf_10 c_10
        refine lv_aload_n hx hb dJ1_indexOfChar_4cfef_13 rfl (lv_at hl 2 rfl) ?_
        refine lv_iload hx hb dJ1_indexOfChar_4cfef_14 (lv_at hl 0 rfl) ?_
        obtain ⟨g_16, h⟩ := of_guard h
        refine va_tb (v := .int ((sByt.getD i []).getD v5_7.toNatClampNeg 0)) hx hb ((hSX rfl).1.1 i hi).2.2.2 hW.2.2 (inR_vp g_16) rfl dJ1_indexOfChar_4cfef_16 ?_
        refine lv_iload hx hb dJ1_indexOfChar_4cfef_17 (lv_at hl 1 rfl) ?_
        obtain ⟨ht_19, hf_19⟩ := of_ite h
        refine lv_icmp_ne (tgt := 25) hx hb dJ1_indexOfChar_4cfef_19 (by decide) (fun c_19 => ?_) (fun c_19 => ?_)
        · have h := hf_19 c_19
          refine lv_iinc (v := (v5_7 + (1 : Int32))) (lv' := [(5, .int (v5_7 + (1 : Int32))), (4, .int x_2), (0, .ref (G.2.2.2 i)), (3, .int x3)]) hx hb dJ1_indexOfChar_4cfef_25 hl (k := 0) rfl rfl (by decide) rfl (fun ls hl => ?_)
          refine lv_goto (tgt := 7) hx hb dJ1_indexOfChar_4cfef_28 (by decide) ?_
          exact ih0 (v5_7 + (1 : Int32)) _ _ _ h hW (lv_sub hl [0, 1, 2, 3] rfl)
        · have h := ht_19 c_19
          refine lv_iload hx hb dJ1_indexOfChar_4cfef_22 (lv_at hl 0 rfl) ?_
          obtain rfl := Option.some.inj h
          exact x_reti F hr hW rfl dJ1_indexOfChar_4cfef_24
  exact L0 200 x2 _ _ _ h hW (lv_sub hl [0, 1, 2, 5] rfl)
def f_J1_indexOf_4cfef (i : Nat) (x1 : Int32) (x2 : Int32) (x3 : Int32) : Option (Int32) :=
  if i < 6 then
    Option.bind (f_J1_canEncode_9a6ad x1) fun p_1 =>
    if p_1 = 0 then
    some (-1 : Int32)
    else
    nm (maxI x2 (0 : Int32)) fun x_14 =>
    nm (minI x3 (nI (sLen.getD i 0))) fun x_21 =>
    if x_14 < x_21 then
    Option.bind (f_J1_indexOfChar_4cfef i x1 x_14 x_21) fun p_33 =>
    some p_33
    else
    some (-1 : Int32)
    else none
abbrev rmJ1_indexOf_4cfef : Room := { frames := 1, cells := 0, slots := 0, locals := 25 }
set_option maxRecDepth 100000 in
set_option maxHeartbeats 4000000 in
theorem c_J1_indexOf_4cfef (l : Launch) (G : EnT) (i : Nat) (x1 : Int32) (x2 : Int32) (x3 : Int32) (o : Int32) (h : f_J1_indexOf_4cfef i x1 x2 x3 = some o) : Mi l yJ1_indexOf_4cfef rmJ1_indexOf_4cfef cJ1_indexOf_4cfef 4 (some .int) G true [.ref (G.2.2.2 i), .int x1, .int x2, .int x3] ([]) o ([]) := by
  refine Mi_of (by decide) (Nat.le_of_ble_eq_true rfl) ?_
  intro p e s m below meth c A0 F hr hW ls hl
  obtain ⟨hx, hb, hml, hown, hts, hK, hNW, hlocks, hA, hSX⟩ := id F
  have hl : lv_has ls 4 [(0, .ref (G.2.2.2 i)), (1, .int x1), (2, .int x2), (3, .int x3)] := hl
  have hW : Wd G A0 s ([]) s.heap [] := hW
  show W p l e rmJ1_indexOf_4cfef s m ([.ref (G.2.2.2 i), .int x1, .int x2, .int x3] : List Value).toArray below meth c s.heap [] 0 0 (Qi below G ([]) o A0 ([.ref (G.2.2.2 i), .int x1, .int x2, .int x3] : List Value).toArray s) (F0 m 0 ls [])
  obtain ⟨hi, h⟩ := of_guard h
  refine lv_iload_n hx hb dJ1_indexOf_4cfef_0 rfl (lv_at hl 1 rfl) ?_
  obtain ⟨p_1, hc_1, h⟩ := of_bind h
  refine x_Si (av := [.int x1]) F hW (c_J1_canEncode_9a6ad l G x1 _ hc_1) [] rfl rfl (by intro q; cases q) cs_J1_88 rfl rfl hl (Nat.le_of_ble_eq_true rfl) ⟨Nat.le_of_ble_eq_true rfl, Nat.le_of_ble_eq_true rfl⟩ ⟨rfl, rfl⟩ ⟨Nat.le_of_ble_eq_true rfl, Nat.le_of_ble_eq_true rfl⟩ dJ1_indexOf_4cfef_1 rfl [] rfl (ws' := []) rfl (fun H locs hW => ?_)
  obtain ⟨ht_4, hf_4⟩ := of_ite h
  refine lv_if_ne (tgt := 9) hx hb dJ1_indexOf_4cfef_4 (by decide) (fun c_4 => ?_) (fun c_4 => ?_)
  · have h := hf_4 c_4
    refine lv_iload_n hx hb dJ1_indexOf_4cfef_9 rfl (lv_at hl 2 rfl) ?_
    refine lv_iconst (v := (0 : Int32)) hx hb dJ1_indexOf_4cfef_10 (by decide) ?_
    refine va_mmax hx hb (hml.trans hl.1.symm) hown (hts _ wd_285) (hts _ wd_286) (hts _ wd_11) (hts _ wd_287) (Nat.le_of_ble_eq_true rfl) (Nat.le_of_ble_eq_true rfl) (Nat.le_of_ble_eq_true rfl) (Nat.le_of_ble_eq_true rfl) dJ1_indexOf_4cfef_11 ?_
    obtain ⟨x_14, e_x_14, h⟩ := of_nm h
    refine x_topi e_x_14 ?_
    refine lv_istore_n (lv' := [(2, .int x_14), (0, .ref (G.2.2.2 i)), (1, .int x1), (3, .int x3)]) hx hb dJ1_indexOf_4cfef_14 rfl hl (by decide) rfl (fun ls hl => ?_)
    refine lv_iload_n hx hb dJ1_indexOf_4cfef_15 rfl (lv_at hl 3 rfl) ?_
    refine lv_aload_n hx hb dJ1_indexOf_4cfef_16 rfl (lv_at hl 1 rfl) ?_
    refine va_tlen (v := (nI (sLen.getD i 0))) hx hb ((hSX rfl).1.1 i hi).2.2.2 hW.2.2 rfl dJ1_indexOf_4cfef_17 ?_
    refine va_mmin hx hb (hml.trans hl.1.symm) hown (hts _ wd_288) (hts _ wd_289) (hts _ wd_11) (hts _ wd_290) (Nat.le_of_ble_eq_true rfl) (Nat.le_of_ble_eq_true rfl) (Nat.le_of_ble_eq_true rfl) (Nat.le_of_ble_eq_true rfl) dJ1_indexOf_4cfef_18 ?_
    obtain ⟨x_21, e_x_21, h⟩ := of_nm h
    refine x_topi e_x_21 ?_
    refine lv_istore_n (lv' := [(3, .int x_21), (2, .int x_14), (0, .ref (G.2.2.2 i)), (1, .int x1)]) hx hb dJ1_indexOf_4cfef_21 rfl hl (by decide) rfl (fun ls hl => ?_)
    refine lv_iload_n hx hb dJ1_indexOf_4cfef_22 rfl (lv_at hl 1 rfl) ?_
    refine lv_iload_n hx hb dJ1_indexOf_4cfef_23 rfl (lv_at hl 0 rfl) ?_
    obtain ⟨ht_24, hf_24⟩ := of_ite h
    refine lv_icmp_lt (tgt := 29) hx hb dJ1_indexOf_4cfef_24 (by decide) (fun c_24 => ?_) (fun c_24 => ?_)
    · have h := ht_24 c_24
      refine lv_aload_n hx hb dJ1_indexOf_4cfef_29 rfl (lv_at hl 2 rfl) ?_
      refine lv_iload_n hx hb dJ1_indexOf_4cfef_30 rfl (lv_at hl 3 rfl) ?_
      refine lv_iload_n hx hb dJ1_indexOf_4cfef_31 rfl (lv_at hl 1 rfl) ?_
      refine lv_iload_n hx hb dJ1_indexOf_4cfef_32 rfl (lv_at hl 0 rfl) ?_
      obtain ⟨p_33, hc_33, h⟩ := of_bind h
      refine x_Si (av := [.ref (G.2.2.2 i), .int x1, .int x_14, .int x_21]) F hW (c_J1_indexOfChar_4cfef l G i x1 x_14 x_21 _ hc_33) [] rfl rfl (by intro q; exact q) cs_J1_95 rfl rfl hl (Nat.le_of_ble_eq_true rfl) ⟨Nat.le_of_ble_eq_true rfl, Nat.le_of_ble_eq_true rfl⟩ ⟨rfl, rfl⟩ ⟨Nat.le_of_ble_eq_true rfl, Nat.le_of_ble_eq_true rfl⟩ dJ1_indexOf_4cfef_33 rfl [] rfl (ws' := []) rfl (fun H locs hW => ?_)
      obtain rfl := Option.some.inj h
      exact x_reti F hr hW rfl dJ1_indexOf_4cfef_36
    · have h := hf_24 c_24
      refine lv_iconst (v := (-1 : Int32)) hx hb dJ1_indexOf_4cfef_27 (by decide) ?_
      obtain rfl := Option.some.inj h
      exact x_reti F hr hW rfl dJ1_indexOf_4cfef_28
  · have h := ht_4 c_4
    refine lv_iconst (v := (-1 : Int32)) hx hb dJ1_indexOf_4cfef_7 (by decide) ?_
    obtain rfl := Option.some.inj h
    exact x_reti F hr hW rfl dJ1_indexOf_4cfef_8
def f_J0_indexOf_7cf53 (i : Nat) (x1 : Int32) (x2 : Int32) : Option (Int32) :=
  if i < 6 then
    Option.bind (f_J0_isLatin1_aae02 i) fun p_1 =>
    Option.bind (f_J0_length_8abf5 i) fun p_14 =>
    Option.bind (f_J1_indexOf_4cfef i x1 x2 p_14) fun p_17 =>
    some p_17
    else none
abbrev rmJ0_indexOf_7cf53 : Room := { frames := 2, cells := 0, slots := 0, locals := 48 }
set_option maxRecDepth 100000 in
set_option maxHeartbeats 4000000 in
theorem c_J0_indexOf_7cf53 (l : Launch) (G : EnT) (i : Nat) (x1 : Int32) (x2 : Int32) (o : Int32) (h : f_J0_indexOf_7cf53 i x1 x2 = some o) : Mi l yJ0_indexOf_7cf53 rmJ0_indexOf_7cf53 cJ0_indexOf_7cf53 3 (some .int) G true [.ref (G.2.2.1 i), .int x1, .int x2] ([]) o ([]) := by
  refine Mi_of (by decide) (Nat.le_of_ble_eq_true rfl) ?_
  intro p e s m below meth c A0 F hr hW ls hl
  obtain ⟨hx, hb, hml, hown, hts, hK, hNW, hlocks, hA, hSX⟩ := id F
  have hl : lv_has ls 3 [(0, .ref (G.2.2.1 i)), (1, .int x1), (2, .int x2)] := hl
  have hW : Wd G A0 s ([]) s.heap [] := hW
  show W p l e rmJ0_indexOf_7cf53 s m ([.ref (G.2.2.1 i), .int x1, .int x2] : List Value).toArray below meth c s.heap [] 0 0 (Qi below G ([]) o A0 ([.ref (G.2.2.1 i), .int x1, .int x2] : List Value).toArray s) (F0 m 0 ls [])
  obtain ⟨hi, h⟩ := of_guard h
  refine lv_aload_n hx hb dJ0_indexOf_7cf53_0 rfl (lv_at hl 0 rfl) ?_
  obtain ⟨p_1, hc_1, h⟩ := of_bind h
  obtain rfl := lit_isLatin1 hc_1
  refine x_Ti (av := [.ref (G.2.2.1 i)]) (As := []) F hW (c_J0_isLatin1_aae02 l G i _ hc_1) (by intro q; exact q) hi (by decide) cv_J0_492 rfl rfl rfl rfl hl (Nat.le_of_ble_eq_true rfl) ⟨Nat.le_of_ble_eq_true rfl, Nat.le_of_ble_eq_true rfl⟩ ⟨rfl, rfl⟩ ⟨Nat.le_of_ble_eq_true rfl, Nat.le_of_ble_eq_true rfl⟩ dJ0_indexOf_7cf53_1 (fun H locs hW => ?_)
  refine lv_if_eq (tgt := 23) hx hb dJ0_indexOf_7cf53_4 (by decide) (fun c_4 => ?_) (fun c_4 => ?_)
  · exact absurd c_4 (by decide)
  · skip
    refine lv_aload_n hx hb dJ0_indexOf_7cf53_7 rfl (lv_at hl 0 rfl) ?_
    refine vk_getf hx hb ((hSX rfl).1.1 i hi).2.2.1 hW.2.2 hown (hts _ wd_1249) (fun x h => h) dJ0_indexOf_7cf53_8 ?_
    refine lv_iload_n hx hb dJ0_indexOf_7cf53_11 rfl (lv_at hl 1 rfl) ?_
    refine lv_iload_n hx hb dJ0_indexOf_7cf53_12 rfl (lv_at hl 2 rfl) ?_
    refine lv_aload_n hx hb dJ0_indexOf_7cf53_13 rfl (lv_at hl 0 rfl) ?_
    obtain ⟨p_14, hc_14, h⟩ := of_bind h
    refine x_Ti (av := [.ref (G.2.2.1 i)]) (As := []) F hW (c_J0_length_8abf5 l G i _ hc_14) (by intro q; exact q) hi (by decide) cv_J0_505 rfl rfl rfl rfl hl (Nat.le_of_ble_eq_true rfl) ⟨Nat.le_of_ble_eq_true rfl, Nat.le_of_ble_eq_true rfl⟩ ⟨rfl, rfl⟩ ⟨Nat.le_of_ble_eq_true rfl, Nat.le_of_ble_eq_true rfl⟩ dJ0_indexOf_7cf53_14 (fun H locs hW => ?_)
    obtain ⟨p_17, hc_17, h⟩ := of_bind h
    refine x_Si (av := [.ref (G.2.2.2 i), .int x1, .int x2, .int p_14]) F hW (c_J1_indexOf_4cfef l G i x1 x2 p_14 _ hc_17) [] rfl rfl (by intro q; exact q) cs_J0_637 rfl rfl hl (Nat.le_of_ble_eq_true rfl) ⟨Nat.le_of_ble_eq_true rfl, Nat.le_of_ble_eq_true rfl⟩ ⟨rfl, rfl⟩ ⟨Nat.le_of_ble_eq_true rfl, Nat.le_of_ble_eq_true rfl⟩ dJ0_indexOf_7cf53_17 rfl [] rfl (ws' := []) rfl (fun H locs hW => ?_)
    refine lv_goto (tgt := 36) hx hb dJ0_indexOf_7cf53_20 (by decide) ?_
    obtain rfl := Option.some.inj h
    exact x_reti F hr hW rfl dJ0_indexOf_7cf53_36
def f_J0_indexOf_0f7a4 (i : Nat) (x1 : Int32) : Option (Int32) :=
  if i < 6 then
    Option.bind (f_J0_indexOf_7cf53 i x1 (0 : Int32)) fun p_3 =>
    some p_3
    else none
abbrev rmJ0_indexOf_0f7a4 : Room := { frames := 3, cells := 0, slots := 0, locals := 70 }
set_option maxRecDepth 100000 in
set_option maxHeartbeats 4000000 in
theorem c_J0_indexOf_0f7a4 (l : Launch) (G : EnT) (i : Nat) (x1 : Int32) (o : Int32) (h : f_J0_indexOf_0f7a4 i x1 = some o) : Mi l yJ0_indexOf_0f7a4 rmJ0_indexOf_0f7a4 cJ0_indexOf_0f7a4 2 (some .int) G true [.ref (G.2.2.1 i), .int x1] ([]) o ([]) := by
  refine Mi_of (by decide) (Nat.le_of_ble_eq_true rfl) ?_
  intro p e s m below meth c A0 F hr hW ls hl
  obtain ⟨hx, hb, hml, hown, hts, hK, hNW, hlocks, hA, hSX⟩ := id F
  have hl : lv_has ls 2 [(0, .ref (G.2.2.1 i)), (1, .int x1)] := hl
  have hW : Wd G A0 s ([]) s.heap [] := hW
  show W p l e rmJ0_indexOf_0f7a4 s m ([.ref (G.2.2.1 i), .int x1] : List Value).toArray below meth c s.heap [] 0 0 (Qi below G ([]) o A0 ([.ref (G.2.2.1 i), .int x1] : List Value).toArray s) (F0 m 0 ls [])
  obtain ⟨hi, h⟩ := of_guard h
  refine lv_aload_n hx hb dJ0_indexOf_0f7a4_0 rfl (lv_at hl 0 rfl) ?_
  refine lv_iload_n hx hb dJ0_indexOf_0f7a4_1 rfl (lv_at hl 1 rfl) ?_
  refine lv_iconst (v := (0 : Int32)) hx hb dJ0_indexOf_0f7a4_2 (by decide) ?_
  obtain ⟨p_3, hc_3, h⟩ := of_bind h
  refine x_Ti (av := [.ref (G.2.2.1 i), .int x1, .int (0 : Int32)]) (As := [.int x1, .int (0 : Int32)]) F hW (c_J0_indexOf_7cf53 l G i x1 (0 : Int32) _ hc_3) (by intro q; exact q) hi (by decide) cv_J0_633 rfl rfl rfl rfl hl (Nat.le_of_ble_eq_true rfl) ⟨Nat.le_of_ble_eq_true rfl, Nat.le_of_ble_eq_true rfl⟩ ⟨rfl, rfl⟩ ⟨Nat.le_of_ble_eq_true rfl, Nat.le_of_ble_eq_true rfl⟩ dJ0_indexOf_0f7a4_3 (fun H locs hW => ?_)
  obtain rfl := Option.some.inj h
  exact x_reti F hr hW rfl dJ0_indexOf_0f7a4_6
def f_X2_fits (x1 : Int32) (x2 : Int32) : Option (Int32) :=
  if x1 = (100 : Int32) then
    if x2 < (48 : Int32) then
    some (0 : Int32)
    else
    if (57 : Int32) < x2 then
    some (0 : Int32)
    else
    some (1 : Int32)
    else
    if x1 = (107 : Int32) then
    Option.bind (f_J0_indexOf_0f7a4 5 (i2cI x2)) fun p_50 =>
    if p_50 < 0 then
    some (0 : Int32)
    else
    some (1 : Int32)
    else
    if x2 = x1 then
    some (1 : Int32)
    else
    some (0 : Int32)
abbrev rmX2_fits : Room := { frames := 4, cells := 0, slots := 0, locals := 91 }
set_option maxRecDepth 100000 in
set_option maxHeartbeats 4000000 in
theorem c_X2_fits (l : Launch) (G : EnT) (x1 : Int32) (x2 : Int32) (o : Int32) (h : f_X2_fits x1 x2 = some o) : Mi l yX2_fits rmX2_fits cX2_fits 2 (some .boolean) G true [.int x1, .int x2] ([]) o ([]) := by
  refine Mi_of (by decide) (Nat.le_of_ble_eq_true rfl) ?_
  intro p e s m below meth c A0 F hr hW ls hl
  obtain ⟨hx, hb, hml, hown, hts, hK, hNW, hlocks, hA, hSX⟩ := id F
  have hl : lv_has ls 2 [(0, .int x1), (1, .int x2)] := hl
  have hW : Wd G A0 s ([]) s.heap [] := hW
  show W p l e rmX2_fits s m ([.int x1, .int x2] : List Value).toArray below meth c s.heap [] 0 0 (Qi below G ([]) o A0 ([.int x1, .int x2] : List Value).toArray s) (F0 m 0 ls [])
  refine lv_iload_n hx hb dX2_fits_0 rfl (lv_at hl 0 rfl) ?_
  obtain ⟨ht_1_0, h⟩ := of_ite h
  by_cases c_1_0 : x1 = (100 : Int32)
  · have h := ht_1_0 c_1_0
    refine x_lookIn c_1_0 hx hb dX2_fits_1 rfl (off := (27)) rfl (tgt := 28) (by decide) ?_
    refine lv_iload_n hx hb dX2_fits_28 rfl (lv_at hl 1 rfl) ?_
    refine lv_bipush (v := (48 : Int32)) hx hb dX2_fits_29 (by decide) ?_
    obtain ⟨ht_31, hf_31⟩ := of_ite h
    refine lv_icmp_lt (tgt := 44) hx hb dX2_fits_31 (by decide) (fun c_31 => ?_) (fun c_31 => ?_)
    · have h := ht_31 c_31
      refine lv_iconst (v := (0 : Int32)) hx hb dX2_fits_44 (by decide) ?_
      obtain rfl := Option.some.inj h
      exact x_retz F hr hW (Or.inl rfl) rfl dX2_fits_45
    · have h := hf_31 c_31
      refine lv_iload_n hx hb dX2_fits_34 rfl (lv_at hl 1 rfl) ?_
      refine lv_bipush (v := (57 : Int32)) hx hb dX2_fits_35 (by decide) ?_
      obtain ⟨ht_37, hf_37⟩ := of_ite h
      refine lv_icmp_gt (tgt := 44) hx hb dX2_fits_37 (by decide) (fun c_37 => ?_) (fun c_37 => ?_)
      · have h := ht_37 c_37
        refine lv_iconst (v := (0 : Int32)) hx hb dX2_fits_44 (by decide) ?_
        obtain rfl := Option.some.inj h
        exact x_retz F hr hW (Or.inl rfl) rfl dX2_fits_45
      · have h := hf_37 c_37
        refine lv_iconst (v := (1 : Int32)) hx hb dX2_fits_40 (by decide) ?_
        refine lv_goto (tgt := 45) hx hb dX2_fits_41 (by decide) ?_
        obtain rfl := Option.some.inj h
        exact x_retz F hr hW (Or.inr rfl) rfl dX2_fits_45
  have h := h c_1_0
  obtain ⟨ht_1_1, h⟩ := of_ite h
  by_cases c_1_1 : x1 = (107 : Int32)
  · have h := ht_1_1 c_1_1
    refine x_lookIn c_1_1 hx hb dX2_fits_1 rfl (off := (45)) rfl (tgt := 46) (by decide) ?_
    refine va_ldcS hx hb hown ((hSX rfl).2.2.2 5 (by decide)) dX2_fits_46 ?_
    refine lv_iload_n hx hb dX2_fits_48 rfl (lv_at hl 1 rfl) ?_
    refine lv_i2c (v := (i2cI x2)) hx hb dX2_fits_49 rfl ?_
    obtain ⟨p_50, hc_50, h⟩ := of_bind h
    refine x_Ti (av := [.ref (G.2.2.1 5), .int (i2cI x2)]) (As := [.int (i2cI x2)]) F hW (c_J0_indexOf_0f7a4 l G 5 (i2cI x2) _ hc_50) (by intro q; exact q) (by decide) (by decide) cv_X2_35 rfl rfl rfl rfl hl (Nat.le_of_ble_eq_true rfl) ⟨Nat.le_of_ble_eq_true rfl, Nat.le_of_ble_eq_true rfl⟩ ⟨rfl, rfl⟩ ⟨Nat.le_of_ble_eq_true rfl, Nat.le_of_ble_eq_true rfl⟩ dX2_fits_50 (fun H locs hW => ?_)
    obtain ⟨ht_53, hf_53⟩ := of_ite h
    refine lv_if_lt (tgt := 60) hx hb dX2_fits_53 (by decide) (fun c_53 => ?_) (fun c_53 => ?_)
    · have h := ht_53 c_53
      refine lv_iconst (v := (0 : Int32)) hx hb dX2_fits_60 (by decide) ?_
      obtain rfl := Option.some.inj h
      exact x_retz F hr hW (Or.inl rfl) rfl dX2_fits_61
    · have h := hf_53 c_53
      refine lv_iconst (v := (1 : Int32)) hx hb dX2_fits_56 (by decide) ?_
      refine lv_goto (tgt := 61) hx hb dX2_fits_57 (by decide) ?_
      obtain rfl := Option.some.inj h
      exact x_retz F hr hW (Or.inr rfl) rfl dX2_fits_61
  have h := h c_1_1
  refine lv_lookup (off := 61) hx hb dX2_fits_1 rfl (by have z0 := x_ne c_1_0 (z := 100) (by decide); have z1 := x_ne c_1_1 (z := 107) (by decide); simp [Op.lookupswitch.offset, z0, Ne.symm z0, z1, Ne.symm z1]) (tgt := 62) (by decide) ?_
  refine lv_iload_n hx hb dX2_fits_62 rfl (lv_at hl 1 rfl) ?_
  refine lv_iload_n hx hb dX2_fits_63 rfl (lv_at hl 0 rfl) ?_
  obtain ⟨ht_64, hf_64⟩ := of_ite h
  refine lv_icmp_ne (tgt := 71) hx hb dX2_fits_64 (by decide) (fun c_64 => ?_) (fun c_64 => ?_)
  · have h := hf_64 c_64
    refine lv_iconst (v := (0 : Int32)) hx hb dX2_fits_71 (by decide) ?_
    obtain rfl := Option.some.inj h
    exact x_retz F hr hW (Or.inl rfl) rfl dX2_fits_72
  · have h := ht_64 c_64
    refine lv_iconst (v := (1 : Int32)) hx hb dX2_fits_67 (by decide) ?_
    refine lv_goto (tgt := 72) hx hb dX2_fits_68 (by decide) ?_
    obtain rfl := Option.some.inj h
    exact x_retz F hr hW (Or.inr rfl) rfl dX2_fits_72
def f_J3_checkIndex_8e157 (x1 : Int32) (x2 : Int32) : Option (Int32) :=
  if x1 < 0 then
    none
    else
    if x1 < x2 then
    some x1
    else
    none
abbrev rmJ3_checkIndex_8e157 : Room := { frames := 0, cells := 0, slots := 0, locals := 0 }
set_option maxRecDepth 100000 in
set_option maxHeartbeats 4000000 in
theorem c_J3_checkIndex_8e157 (l : Launch) (G : EnT) (x1 : Int32) (x2 : Int32) (o : Int32) (h : f_J3_checkIndex_8e157 x1 x2 = some o) : Mi l yJ3_checkIndex_8e157 rmJ3_checkIndex_8e157 cJ3_checkIndex_8e157 3 (some .int) G false [.int x1, .int x2, .null] ([]) o ([]) := by
  refine Mi_of (by decide) (Nat.le_of_ble_eq_true rfl) ?_
  intro p e s m below meth c A0 F hr hW ls hl
  obtain ⟨hx, hb, hml, hown, hts, hK, hNW, hlocks, hA, hSX⟩ := id F
  have hl : lv_has ls 3 [(0, .int x1), (1, .int x2), (2, .null)] := hl
  have hW : Wd G A0 s ([]) s.heap [] := hW
  show W p l e rmJ3_checkIndex_8e157 s m ([.int x1, .int x2, .null] : List Value).toArray below meth c s.heap [] 0 0 (Qi below G ([]) o A0 ([.int x1, .int x2, .null] : List Value).toArray s) (F0 m 0 ls [])
  refine lv_iload_n hx hb dJ3_checkIndex_8e157_0 rfl (lv_at hl 0 rfl) ?_
  obtain ⟨ht_1, hf_1⟩ := of_ite h
  refine lv_if_lt (tgt := 9) hx hb dJ3_checkIndex_8e157_1 (by decide) (fun c_1 => ?_) (fun c_1 => ?_)
  · have h := ht_1 c_1
    cases (show (none : Option (Int32)) = some o from h)
  · have h := hf_1 c_1
    refine lv_iload_n hx hb dJ3_checkIndex_8e157_4 rfl (lv_at hl 0 rfl) ?_
    refine lv_iload_n hx hb dJ3_checkIndex_8e157_5 rfl (lv_at hl 1 rfl) ?_
    obtain ⟨ht_6, hf_6⟩ := of_ite h
    refine lv_icmp_lt (tgt := 16) hx hb dJ3_checkIndex_8e157_6 (by decide) (fun c_6 => ?_) (fun c_6 => ?_)
    · have h := ht_6 c_6
      refine lv_iload_n hx hb dJ3_checkIndex_8e157_16 rfl (lv_at hl 0 rfl) ?_
      obtain rfl := Option.some.inj h
      exact x_reti F hr hW rfl dJ3_checkIndex_8e157_17
    · have h := hf_6 c_6
      cases (show (none : Option (Int32)) = some o from h)
abbrev rmJ3_checkIndex_8e157_R : Room := { frames := 0, cells := 0, slots := 0, locals := 0 }
set_option maxRecDepth 100000 in
set_option maxHeartbeats 4000000 in
theorem c_J3_checkIndex_8e157_R (l : Launch) (G : EnT) (x1 : Int32) (x2 : Int32) (t3 : Nat) (o : Int32) (h : f_J3_checkIndex_8e157 x1 x2 = some o) : Mi l yJ3_checkIndex_8e157 rmJ3_checkIndex_8e157_R cJ3_checkIndex_8e157 3 (some .int) G false [.int x1, .int x2, .ref t3] ([]) o ([]) := by
  refine Mi_of (by decide) (Nat.le_of_ble_eq_true rfl) ?_
  intro p e s m below meth c A0 F hr hW ls hl
  obtain ⟨hx, hb, hml, hown, hts, hK, hNW, hlocks, hA, hSX⟩ := id F
  have hl : lv_has ls 3 [(0, .int x1), (1, .int x2), (2, .ref t3)] := hl
  have hW : Wd G A0 s ([]) s.heap [] := hW
  show W p l e rmJ3_checkIndex_8e157_R s m ([.int x1, .int x2, .ref t3] : List Value).toArray below meth c s.heap [] 0 0 (Qi below G ([]) o A0 ([.int x1, .int x2, .ref t3] : List Value).toArray s) (F0 m 0 ls [])
  refine lv_iload_n hx hb dJ3_checkIndex_8e157_0 rfl (lv_at hl 0 rfl) ?_
  obtain ⟨ht_1, hf_1⟩ := of_ite h
  refine lv_if_lt (tgt := 9) hx hb dJ3_checkIndex_8e157_1 (by decide) (fun c_1 => ?_) (fun c_1 => ?_)
  · have h := ht_1 c_1
    cases (show (none : Option (Int32)) = some o from h)
  · have h := hf_1 c_1
    refine lv_iload_n hx hb dJ3_checkIndex_8e157_4 rfl (lv_at hl 0 rfl) ?_
    refine lv_iload_n hx hb dJ3_checkIndex_8e157_5 rfl (lv_at hl 1 rfl) ?_
    obtain ⟨ht_6, hf_6⟩ := of_ite h
    refine lv_icmp_lt (tgt := 16) hx hb dJ3_checkIndex_8e157_6 (by decide) (fun c_6 => ?_) (fun c_6 => ?_)
    · have h := ht_6 c_6
      refine lv_iload_n hx hb dJ3_checkIndex_8e157_16 rfl (lv_at hl 0 rfl) ?_
      obtain rfl := Option.some.inj h
      exact x_reti F hr hW rfl dJ3_checkIndex_8e157_17
    · have h := hf_6 c_6
      cases (show (none : Option (Int32)) = some o from h)
def f_J0_checkIndex_df160 (x1 : Int32) (x2 : Int32) : Option (Unit) :=
  Option.bind (f_J3_checkIndex_8e157 x1 x2) fun p_5 =>
    some ()
abbrev rmJ0_checkIndex_df160 : Room := { frames := 1, cells := 0, slots := 0, locals := 22 }
set_option maxRecDepth 100000 in
set_option maxHeartbeats 4000000 in
theorem c_J0_checkIndex_df160 (l : Launch) (G : EnT) (x1 : Int32) (x2 : Int32) (o : Unit) (h : f_J0_checkIndex_df160 x1 x2 = some o) : Mv l yJ0_checkIndex_df160 rmJ0_checkIndex_df160 cJ0_checkIndex_df160 2 none G true [.int x1, .int x2] ([]) ([]) := by
  refine Mv_of (by decide) (Nat.le_of_ble_eq_true rfl) ?_
  intro p e s m below meth c A0 F hr hW ls hl
  obtain ⟨hx, hb, hml, hown, hts, hK, hNW, hlocks, hA, hSX⟩ := id F
  have hl : lv_has ls 2 [(0, .int x1), (1, .int x2)] := hl
  have hW : Wd G A0 s ([]) s.heap [] := hW
  show W p l e rmJ0_checkIndex_df160 s m ([.int x1, .int x2] : List Value).toArray below meth c s.heap [] 0 0 (Qv below G ([]) A0 ([.int x1, .int x2] : List Value).toArray s) (F0 m 0 ls [])
  refine lv_iload_n hx hb dJ0_checkIndex_df160_0 rfl (lv_at hl 0 rfl) ?_
  refine lv_iload_n hx hb dJ0_checkIndex_df160_1 rfl (lv_at hl 1 rfl) ?_
  rcases (hSX rfl).2.2.1 with hz | ⟨t3, hz⟩
  · refine va_gets hx hb hz hW.2.2 hown (hts _ wd_242) (fun x h => h) dJ0_checkIndex_df160_2 ?_
    obtain ⟨p_5, hc_5, h⟩ := of_bind h
    refine x_Si (av := [.int x1, .int x2, .null]) F hW (c_J3_checkIndex_8e157 l G x1 x2 _ hc_5) [] rfl rfl (by intro q; cases q) cs_J0_1059 rfl rfl hl (Nat.le_of_ble_eq_true rfl) ⟨Nat.le_of_ble_eq_true rfl, Nat.le_of_ble_eq_true rfl⟩ ⟨rfl, rfl⟩ ⟨Nat.le_of_ble_eq_true rfl, Nat.le_of_ble_eq_true rfl⟩ dJ0_checkIndex_df160_5 rfl [] rfl (ws' := []) rfl (fun H locs hW => ?_)
    refine lv_pop hx hb dJ0_checkIndex_df160_8 rfl ?_
    obtain rfl := Option.some.inj h
    exact x_retv F hr hW dJ0_checkIndex_df160_9
  · refine va_gets hx hb hz hW.2.2 hown (hts _ wd_242) (fun x h => h) dJ0_checkIndex_df160_2 ?_
    obtain ⟨p_5_2, hc_5, h⟩ := of_bind h
    refine x_Si (av := [.int x1, .int x2, .ref t3]) F hW (c_J3_checkIndex_8e157_R l G x1 x2 t3 _ hc_5) [] rfl rfl (by intro q; cases q) cs_J0_1059 rfl rfl hl (Nat.le_of_ble_eq_true rfl) ⟨Nat.le_of_ble_eq_true rfl, Nat.le_of_ble_eq_true rfl⟩ ⟨rfl, rfl⟩ ⟨Nat.le_of_ble_eq_true rfl, Nat.le_of_ble_eq_true rfl⟩ dJ0_checkIndex_df160_5 rfl [] rfl (ws' := []) rfl (fun H locs hW => ?_)
    refine lv_pop hx hb dJ0_checkIndex_df160_8 rfl ?_
    obtain rfl := Option.some.inj h
    exact x_retv F hr hW dJ0_checkIndex_df160_9
def f_J1_charAt_3b067 (i : Nat) (x1 : Int32) : Option (Int32) :=
  if i < 6 then
    Option.bind (f_J0_checkIndex_df160 x1 (nI (sLen.getD i 0))) fun p_3 =>
    if inR x1 (sLen.getD i 0) then
    some (i2cI (((sByt.getD i []).getD x1.toNatClampNeg 0) &&& (255 : Int32)))
    else none
    else none
abbrev rmJ1_charAt_3b067 : Room := { frames := 2, cells := 0, slots := 0, locals := 43 }
set_option maxRecDepth 100000 in
set_option maxHeartbeats 4000000 in
theorem c_J1_charAt_3b067 (l : Launch) (G : EnT) (i : Nat) (x1 : Int32) (o : Int32) (h : f_J1_charAt_3b067 i x1 = some o) : Mi l yJ1_charAt_3b067 rmJ1_charAt_3b067 cJ1_charAt_3b067 2 (some .char) G true [.ref (G.2.2.2 i), .int x1] ([]) o ([]) := by
  refine Mi_of (by decide) (Nat.le_of_ble_eq_true rfl) ?_
  intro p e s m below meth c A0 F hr hW ls hl
  obtain ⟨hx, hb, hml, hown, hts, hK, hNW, hlocks, hA, hSX⟩ := id F
  have hl : lv_has ls 2 [(0, .ref (G.2.2.2 i)), (1, .int x1)] := hl
  have hW : Wd G A0 s ([]) s.heap [] := hW
  show W p l e rmJ1_charAt_3b067 s m ([.ref (G.2.2.2 i), .int x1] : List Value).toArray below meth c s.heap [] 0 0 (Qi below G ([]) o A0 ([.ref (G.2.2.2 i), .int x1] : List Value).toArray s) (F0 m 0 ls [])
  obtain ⟨hi, h⟩ := of_guard h
  refine lv_iload_n hx hb dJ1_charAt_3b067_0 rfl (lv_at hl 1 rfl) ?_
  refine lv_aload_n hx hb dJ1_charAt_3b067_1 rfl (lv_at hl 0 rfl) ?_
  refine va_tlen (v := (nI (sLen.getD i 0))) hx hb ((hSX rfl).1.1 i hi).2.2.2 hW.2.2 rfl dJ1_charAt_3b067_2 ?_
  obtain ⟨p_3, hc_3, h⟩ := of_bind h
  refine x_Sv (av := [.int x1, .int (nI (sLen.getD i 0))]) F hW (c_J0_checkIndex_df160 l G x1 (nI (sLen.getD i 0)) _ hc_3) [] rfl rfl (by intro q; exact q) cs_J1_9 rfl rfl hl (Nat.le_of_ble_eq_true rfl) ⟨Nat.le_of_ble_eq_true rfl, Nat.le_of_ble_eq_true rfl⟩ ⟨rfl, rfl⟩ ⟨Nat.le_of_ble_eq_true rfl, Nat.le_of_ble_eq_true rfl⟩ dJ1_charAt_3b067_3 rfl [] rfl (ws' := []) rfl (fun H locs hW => ?_)
  refine lv_aload_n hx hb dJ1_charAt_3b067_6 rfl (lv_at hl 0 rfl) ?_
  refine lv_iload_n hx hb dJ1_charAt_3b067_7 rfl (lv_at hl 1 rfl) ?_
  obtain ⟨g_8, h⟩ := of_guard h
  refine va_tb (v := .int ((sByt.getD i []).getD x1.toNatClampNeg 0)) hx hb ((hSX rfl).1.1 i hi).2.2.2 hW.2.2 (inR_vp g_8) rfl dJ1_charAt_3b067_8 ?_
  refine lv_sipush (v := (255 : Int32)) hx hb dJ1_charAt_3b067_9 (by decide) ?_
  refine lv_iand hx hb dJ1_charAt_3b067_12 ?_
  refine lv_i2c (v := (i2cI (((sByt.getD i []).getD x1.toNatClampNeg 0) &&& (255 : Int32)))) hx hb dJ1_charAt_3b067_13 rfl ?_
  obtain rfl := Option.some.inj h
  exact x_retn F hr hW (pk_nc _) rfl dJ1_charAt_3b067_14
def f_J0_charAt_5068e (i : Nat) (x1 : Int32) : Option (Int32) :=
  if i < 6 then
    Option.bind (f_J0_isLatin1_aae02 i) fun p_1 =>
    Option.bind (f_J1_charAt_3b067 i x1) fun p_12 =>
    if i2cI p_12 = p_12 then some p_12 else none
    else none
abbrev rmJ0_charAt_5068e : Room := { frames := 3, cells := 0, slots := 0, locals := 64 }
set_option maxRecDepth 100000 in
set_option maxHeartbeats 4000000 in
theorem c_J0_charAt_5068e (l : Launch) (G : EnT) (i : Nat) (x1 : Int32) (o : Int32) (h : f_J0_charAt_5068e i x1 = some o) : Mi l yJ0_charAt_5068e rmJ0_charAt_5068e cJ0_charAt_5068e 2 (some .char) G true [.ref (G.2.2.1 i), .int x1] ([]) o ([]) := by
  refine Mi_of (by decide) (Nat.le_of_ble_eq_true rfl) ?_
  intro p e s m below meth c A0 F hr hW ls hl
  obtain ⟨hx, hb, hml, hown, hts, hK, hNW, hlocks, hA, hSX⟩ := id F
  have hl : lv_has ls 2 [(0, .ref (G.2.2.1 i)), (1, .int x1)] := hl
  have hW : Wd G A0 s ([]) s.heap [] := hW
  show W p l e rmJ0_charAt_5068e s m ([.ref (G.2.2.1 i), .int x1] : List Value).toArray below meth c s.heap [] 0 0 (Qi below G ([]) o A0 ([.ref (G.2.2.1 i), .int x1] : List Value).toArray s) (F0 m 0 ls [])
  obtain ⟨hi, h⟩ := of_guard h
  refine lv_aload_n hx hb dJ0_charAt_5068e_0 rfl (lv_at hl 0 rfl) ?_
  obtain ⟨p_1, hc_1, h⟩ := of_bind h
  obtain rfl := lit_isLatin1 hc_1
  refine x_Ti (av := [.ref (G.2.2.1 i)]) (As := []) F hW (c_J0_isLatin1_aae02 l G i _ hc_1) (by intro q; exact q) hi (by decide) cv_J0_492 rfl rfl rfl rfl hl (Nat.le_of_ble_eq_true rfl) ⟨Nat.le_of_ble_eq_true rfl, Nat.le_of_ble_eq_true rfl⟩ ⟨rfl, rfl⟩ ⟨Nat.le_of_ble_eq_true rfl, Nat.le_of_ble_eq_true rfl⟩ dJ0_charAt_5068e_1 (fun H locs hW => ?_)
  refine lv_if_eq (tgt := 16) hx hb dJ0_charAt_5068e_4 (by decide) (fun c_4 => ?_) (fun c_4 => ?_)
  · exact absurd c_4 (by decide)
  · skip
    refine lv_aload_n hx hb dJ0_charAt_5068e_7 rfl (lv_at hl 0 rfl) ?_
    refine vk_getf hx hb ((hSX rfl).1.1 i hi).2.2.1 hW.2.2 hown (hts _ wd_1249) (fun x h => h) dJ0_charAt_5068e_8 ?_
    refine lv_iload_n hx hb dJ0_charAt_5068e_11 rfl (lv_at hl 1 rfl) ?_
    obtain ⟨p_12, hc_12, h⟩ := of_bind h
    refine x_Si (av := [.ref (G.2.2.2 i), .int x1]) F hW (c_J1_charAt_3b067 l G i x1 _ hc_12) [] rfl rfl (by intro q; exact q) cs_J0_495 rfl rfl hl (Nat.le_of_ble_eq_true rfl) ⟨Nat.le_of_ble_eq_true rfl, Nat.le_of_ble_eq_true rfl⟩ ⟨rfl, rfl⟩ ⟨Nat.le_of_ble_eq_true rfl, Nat.le_of_ble_eq_true rfl⟩ dJ0_charAt_5068e_12 rfl [] rfl (ws' := []) rfl (fun H locs hW => ?_)
    obtain ⟨g_15, h⟩ := of_guard h
    obtain rfl := Option.some.inj h
    exact x_retn F hr hW (by rw [← g_15]; exact pk_nc _) rfl dJ0_charAt_5068e_15
def f_J0_isEmpty_aae02 (i : Nat) : Option (Int32) :=
  if i < 6 then
    if (nI (sLen.getD i 0)) = 0 then
    some (1 : Int32)
    else
    some (0 : Int32)
    else none
abbrev rmJ0_isEmpty_aae02 : Room := { frames := 0, cells := 0, slots := 0, locals := 0 }
set_option maxRecDepth 100000 in
set_option maxHeartbeats 4000000 in
theorem c_J0_isEmpty_aae02 (l : Launch) (G : EnT) (i : Nat) (o : Int32) (h : f_J0_isEmpty_aae02 i = some o) : Mi l yJ0_isEmpty_aae02 rmJ0_isEmpty_aae02 cJ0_isEmpty_aae02 1 (some .boolean) G true [.ref (G.2.2.1 i)] ([]) o ([]) := by
  refine Mi_of (by decide) (Nat.le_of_ble_eq_true rfl) ?_
  intro p e s m below meth c A0 F hr hW ls hl
  obtain ⟨hx, hb, hml, hown, hts, hK, hNW, hlocks, hA, hSX⟩ := id F
  have hl : lv_has ls 1 [(0, .ref (G.2.2.1 i))] := hl
  have hW : Wd G A0 s ([]) s.heap [] := hW
  show W p l e rmJ0_isEmpty_aae02 s m ([.ref (G.2.2.1 i)] : List Value).toArray below meth c s.heap [] 0 0 (Qi below G ([]) o A0 ([.ref (G.2.2.1 i)] : List Value).toArray s) (F0 m 0 ls [])
  obtain ⟨hi, h⟩ := of_guard h
  refine lv_aload_n hx hb dJ0_isEmpty_aae02_0 rfl (lv_at hl 0 rfl) ?_
  refine vk_getf hx hb ((hSX rfl).1.1 i hi).2.2.1 hW.2.2 hown (hts _ wd_1249) (fun x h => h) dJ0_isEmpty_aae02_1 ?_
  refine va_tlen (v := (nI (sLen.getD i 0))) hx hb ((hSX rfl).1.1 i hi).2.2.2 hW.2.2 rfl dJ0_isEmpty_aae02_4 ?_
  obtain ⟨ht_5, hf_5⟩ := of_ite h
  refine lv_if_ne (tgt := 12) hx hb dJ0_isEmpty_aae02_5 (by decide) (fun c_5 => ?_) (fun c_5 => ?_)
  · have h := hf_5 c_5
    refine lv_iconst (v := (0 : Int32)) hx hb dJ0_isEmpty_aae02_12 (by decide) ?_
    obtain rfl := Option.some.inj h
    exact x_retz F hr hW (Or.inl rfl) rfl dJ0_isEmpty_aae02_13
  · have h := ht_5 c_5
    refine lv_iconst (v := (1 : Int32)) hx hb dJ0_isEmpty_aae02_8 (by decide) ?_
    refine lv_goto (tgt := 13) hx hb dJ0_isEmpty_aae02_9 (by decide) ?_
    obtain rfl := Option.some.inj h
    exact x_retz F hr hW (Or.inr rfl) rfl dJ0_isEmpty_aae02_13
def f_X2_brokenPlace_43 (k0 : Int32 → Option (Int32)) (p_25 : Nat) (w : LT) : Nat → Int32 → Int32 → Option (Int32)
  | 0, _, _ => none
  | n1 + 1, v3_43, v1_43 =>
    Option.bind (f_J0_length_8abf5 p_25) fun p_45 =>
    if p_45 ≤ v3_43 then
    k0 v1_43
    else
    if w.2.1 ≤ v1_43 then
    some v1_43
    else
    Option.bind (f_J0_charAt_5068e p_25 v3_43) fun p_61 =>
    if inR v1_43 96 then
    Option.bind (f_X2_fits p_61 (w.1 v1_43.toNatClampNeg)) fun p_70 =>
    if p_70 = 0 then
    some v1_43
    else
    f_X2_brokenPlace_43 k0 p_25 w n1 (v3_43 + (1 : Int32)) (v1_43 + (1 : Int32))
    else none
def f_X2_brokenPlace_11 (w : LT) : Nat → Int32 → Option (Int32)
  | 0, _ => none
  | n0 + 1, v1_11 =>
    if w.2.1 ≤ v1_11 then
    some (-1 : Int32)
    else
    if inR v1_11 96 then
    Option.bind (f_X2_formBehind (w.1 v1_11.toNatClampNeg)) fun p_25 =>
    Option.bind (f_J0_isEmpty_aae02 p_25) fun p_30 =>
    if p_30 = 0 then
    f_X2_brokenPlace_43 (fun a0 => f_X2_brokenPlace_11 w n0 a0) p_25 w 200 (0 : Int32) (v1_11 + (1 : Int32))
    else
    some v1_11
    else none
def f_X2_brokenPlace (w : LT) : Option (Int32) :=
  if w.2.1 = 0 then
    some (0 : Int32)
    else
    f_X2_brokenPlace_11 w 200 (0 : Int32)
abbrev rmX2_brokenPlace : Room := { frames := 5, cells := 0, slots := 0, locals := 112 }
set_option maxRecDepth 100000 in
set_option maxHeartbeats 4000000 in
theorem c_X2_brokenPlace (l : Launch) (G : EnT) (q : Nat → Nat) (w : LT) (o : Int32) (h : f_X2_brokenPlace w = some o) : Mi l yX2_brokenPlace rmX2_brokenPlace cX2_brokenPlace 4 (some .int) G true [.ref (q 0)] (cLT G q w) o (cLT G q w) := by
  refine Mi_of (by decide) (Nat.le_of_ble_eq_true rfl) ?_
  intro p e s m below meth c A0 F hr hW ls hl
  obtain ⟨hx, hb, hml, hown, hts, hK, hNW, hlocks, hA, hSX⟩ := id F
  have hl : lv_has ls 4 [(0, .ref (q 0))] := hl
  have hW : Wd G A0 s (cLT G q w) s.heap [] := hW
  show W p l e rmX2_brokenPlace s m ([.ref (q 0)] : List Value).toArray below meth c s.heap [] 0 0 (Qi below G (cLT G q w) o A0 ([.ref (q 0)] : List Value).toArray s) (F0 m 0 ls [])
  refine lv_aload_n hx hb dX2_brokenPlace_0 rfl (lv_at hl 0 rfl) ?_
  refine x_get F hW 0 rfl fa_X2_15 rfl dX2_brokenPlace_1 ?_
  obtain ⟨ht_4, hf_4⟩ := of_ite h
  refine lv_if_ne (tgt := 9) hx hb dX2_brokenPlace_4 (by decide) (fun c_4 => ?_) (fun c_4 => ?_)
  · have h := hf_4 c_4
    refine lv_iconst (v := (0 : Int32)) hx hb dX2_brokenPlace_9 (by decide) ?_
    refine lv_istore_n (lv' := [(1, .int (0 : Int32)), (0, .ref (q 0))]) hx hb dX2_brokenPlace_10 rfl hl (by decide) rfl (fun ls hl => ?_)
    have L0 : ∀ (n0 : Nat) (v1_11 : Int32) (H : Heap) (locs : List Loc) (ls : Array Slot), f_X2_brokenPlace_11 w n0 v1_11 = some o → Wd G A0 s (cLT G q w) H locs → lv_has ls 4 [(1, .int v1_11), (0, .ref (q 0))] → W p l e rmX2_brokenPlace s m ([.ref (q 0)] : List Value).toArray below meth c H locs 0 0 (Qi below G (cLT G q w) o A0 ([.ref (q 0)] : List Value).toArray s) (F0 m 11 ls []) := by
      intro n0
      induction n0 with
      | zero => intro v1_11 H locs ls h; cases (show (none : Option (Int32)) = some o from h)
      | succ n0 ih0 =>
        intro v1_11 H locs ls h hW hl
        refine lv_iload_n hx hb dX2_brokenPlace_11 rfl (lv_at hl 0 rfl) ?_
        refine lv_aload_n hx hb dX2_brokenPlace_12 rfl (lv_at hl 1 rfl) ?_
        refine x_get F hW 0 rfl fa_X2_15 rfl dX2_brokenPlace_13 ?_
        obtain ⟨ht_16, hf_16⟩ := of_ite h
        refine lv_icmp_ge (tgt := 90) hx hb dX2_brokenPlace_16 (by decide) (fun c_16 => ?_) (fun c_16 => ?_)
        · have h := ht_16 c_16
          refine lv_iconst (v := (-1 : Int32)) hx hb dX2_brokenPlace_90 (by decide) ?_
          obtain rfl := Option.some.inj h
          exact x_reti F hr hW rfl dX2_brokenPlace_91
        · have h := hf_16 c_16
          refine lv_aload_n hx hb dX2_brokenPlace_19 rfl (lv_at hl 1 rfl) ?_
          refine x_get F hW 0 rfl fa_X2_9 rfl dX2_brokenPlace_20 ?_
          refine lv_iload_n hx hb dX2_brokenPlace_23 rfl (lv_at hl 0 rfl) ?_
          obtain ⟨g_24, h⟩ := of_guard h
          refine x_iald F hW 1 rfl g_24 dX2_brokenPlace_24 ?_
          obtain ⟨p_25, hc_25, h⟩ := of_bind h
          have hi_p_25 := ix_formBehind hc_25
          refine x_Sr (av := [.int (w.1 v1_11.toNatClampNeg)]) F hW (c_X2_formBehind l G (w.1 v1_11.toNatClampNeg) _ hc_25) (by intro q; exact q) cs_X2_41 rfl rfl hl (Nat.le_of_ble_eq_true rfl) ⟨Nat.le_of_ble_eq_true rfl, Nat.le_of_ble_eq_true rfl⟩ ⟨rfl, rfl⟩ ⟨Nat.le_of_ble_eq_true rfl, Nat.le_of_ble_eq_true rfl⟩ dX2_brokenPlace_25 (fun H locs hW => ?_)
          refine lv_astore_n (lv' := [(2, .ref (G.2.2.1 p_25)), (1, .int v1_11), (0, .ref (q 0))]) hx hb dX2_brokenPlace_28 rfl hl (by decide) rfl (fun ls hl => ?_)
          refine lv_aload_n hx hb dX2_brokenPlace_29 rfl (lv_at hl 0 rfl) ?_
          obtain ⟨p_30, hc_30, h⟩ := of_bind h
          refine x_Ti (av := [.ref (G.2.2.1 p_25)]) (As := []) F hW (c_J0_isEmpty_aae02 l G p_25 _ hc_30) (by intro q; exact q) hi_p_25 (by decide) cv_X2_45 rfl rfl rfl rfl hl (Nat.le_of_ble_eq_true rfl) ⟨Nat.le_of_ble_eq_true rfl, Nat.le_of_ble_eq_true rfl⟩ ⟨rfl, rfl⟩ ⟨Nat.le_of_ble_eq_true rfl, Nat.le_of_ble_eq_true rfl⟩ dX2_brokenPlace_30 (fun H locs hW => ?_)
          obtain ⟨ht_33, hf_33⟩ := of_ite h
          refine lv_if_eq (tgt := 38) hx hb dX2_brokenPlace_33 (by decide) (fun c_33 => ?_) (fun c_33 => ?_)
          · have h := ht_33 c_33
            refine lv_iinc (v := (v1_11 + (1 : Int32))) (lv' := [(1, .int (v1_11 + (1 : Int32))), (2, .ref (G.2.2.1 p_25)), (0, .ref (q 0))]) hx hb dX2_brokenPlace_38 hl (k := 1) rfl rfl (by decide) rfl (fun ls hl => ?_)
            refine lv_iconst (v := (0 : Int32)) hx hb dX2_brokenPlace_41 (by decide) ?_
            refine lv_istore_n (lv' := [(3, .int (0 : Int32)), (1, .int (v1_11 + (1 : Int32))), (2, .ref (G.2.2.1 p_25)), (0, .ref (q 0))]) hx hb dX2_brokenPlace_42 rfl hl (by decide) rfl (fun ls hl => ?_)
            have L1 : ∀ (n1 : Nat) (v3_43 : Int32) (v1_43 : Int32) (H : Heap) (locs : List Loc) (ls : Array Slot), f_X2_brokenPlace_43 (fun a0 => f_X2_brokenPlace_11 w n0 a0) p_25 w n1 v3_43 v1_43 = some o → Wd G A0 s (cLT G q w) H locs → lv_has ls 4 [(3, .int v3_43), (1, .int v1_43), (2, .ref (G.2.2.1 p_25)), (0, .ref (q 0))] → W p l e rmX2_brokenPlace s m ([.ref (q 0)] : List Value).toArray below meth c H locs 0 0 (Qi below G (cLT G q w) o A0 ([.ref (q 0)] : List Value).toArray s) (F0 m 43 ls []) := by
              intro n1
              induction n1 with
              | zero => intro v3_43 v1_43 H locs ls h; cases (show (none : Option (Int32)) = some o from h)
              | succ n1 ih1 =>
                intro v3_43 v1_43 H locs ls h hW hl
                refine lv_iload_n hx hb dX2_brokenPlace_43 rfl (lv_at hl 0 rfl) ?_
                refine lv_aload_n hx hb dX2_brokenPlace_44 rfl (lv_at hl 2 rfl) ?_
                obtain ⟨p_45, hc_45, h⟩ := of_bind h
                refine x_Ti (av := [.ref (G.2.2.1 p_25)]) (As := []) F hW (c_J0_length_8abf5 l G p_25 _ hc_45) (by intro q; exact q) hi_p_25 (by decide) cv_X2_48 rfl rfl rfl rfl hl (Nat.le_of_ble_eq_true rfl) ⟨Nat.le_of_ble_eq_true rfl, Nat.le_of_ble_eq_true rfl⟩ ⟨rfl, rfl⟩ ⟨Nat.le_of_ble_eq_true rfl, Nat.le_of_ble_eq_true rfl⟩ dX2_brokenPlace_45 (fun H locs hW => ?_)
                obtain ⟨ht_48, hf_48⟩ := of_ite h
                refine lv_icmp_ge (tgt := 87) hx hb dX2_brokenPlace_48 (by decide) (fun c_48 => ?_) (fun c_48 => ?_)
                · have h := ht_48 c_48
                  refine lv_goto (tgt := 11) hx hb dX2_brokenPlace_87 (by decide) ?_
                  exact ih0 v1_43 _ _ _ h hW (lv_sub hl [1, 3] rfl)
                · have h := hf_48 c_48
                  refine lv_iload_n hx hb dX2_brokenPlace_51 rfl (lv_at hl 1 rfl) ?_
                  refine lv_aload_n hx hb dX2_brokenPlace_52 rfl (lv_at hl 3 rfl) ?_
                  refine x_get F hW 0 rfl fa_X2_15 rfl dX2_brokenPlace_53 ?_
                  obtain ⟨ht_56, hf_56⟩ := of_ite h
                  refine lv_icmp_ge (tgt := 76) hx hb dX2_brokenPlace_56 (by decide) (fun c_56 => ?_) (fun c_56 => ?_)
                  · have h := ht_56 c_56
                    refine lv_iload_n hx hb dX2_brokenPlace_76 rfl (lv_at hl 1 rfl) ?_
                    obtain rfl := Option.some.inj h
                    exact x_reti F hr hW rfl dX2_brokenPlace_77
                  · have h := hf_56 c_56
                    refine lv_aload_n hx hb dX2_brokenPlace_59 rfl (lv_at hl 2 rfl) ?_
                    refine lv_iload_n hx hb dX2_brokenPlace_60 rfl (lv_at hl 0 rfl) ?_
                    obtain ⟨p_61, hc_61, h⟩ := of_bind h
                    refine x_Ti (av := [.ref (G.2.2.1 p_25), .int v3_43]) (As := [.int v3_43]) F hW (c_J0_charAt_5068e l G p_25 v3_43 _ hc_61) (by intro q; exact q) hi_p_25 (by decide) cv_X2_51 rfl rfl rfl rfl hl (Nat.le_of_ble_eq_true rfl) ⟨Nat.le_of_ble_eq_true rfl, Nat.le_of_ble_eq_true rfl⟩ ⟨rfl, rfl⟩ ⟨Nat.le_of_ble_eq_true rfl, Nat.le_of_ble_eq_true rfl⟩ dX2_brokenPlace_61 (fun H locs hW => ?_)
                    refine lv_aload_n hx hb dX2_brokenPlace_64 rfl (lv_at hl 3 rfl) ?_
                    refine x_get F hW 0 rfl fa_X2_9 rfl dX2_brokenPlace_65 ?_
                    refine lv_iload_n hx hb dX2_brokenPlace_68 rfl (lv_at hl 1 rfl) ?_
                    obtain ⟨g_69, h⟩ := of_guard h
                    refine x_iald F hW 1 rfl g_69 dX2_brokenPlace_69 ?_
                    obtain ⟨p_70, hc_70, h⟩ := of_bind h
                    refine x_Si (av := [.int p_61, .int (w.1 v1_43.toNatClampNeg)]) F hW (c_X2_fits l G p_61 (w.1 v1_43.toNatClampNeg) _ hc_70) [] rfl rfl (by intro q; exact q) cs_X2_55 rfl rfl hl (Nat.le_of_ble_eq_true rfl) ⟨Nat.le_of_ble_eq_true rfl, Nat.le_of_ble_eq_true rfl⟩ ⟨rfl, rfl⟩ ⟨Nat.le_of_ble_eq_true rfl, Nat.le_of_ble_eq_true rfl⟩ dX2_brokenPlace_70 rfl [none, none] rfl (ws' := cLT G q w) rfl (fun H locs hW => ?_)
                    obtain ⟨ht_73, hf_73⟩ := of_ite h
                    refine lv_if_ne (tgt := 78) hx hb dX2_brokenPlace_73 (by decide) (fun c_73 => ?_) (fun c_73 => ?_)
                    · have h := hf_73 c_73
                      refine lv_iinc (v := (v1_43 + (1 : Int32))) (lv' := [(1, .int (v1_43 + (1 : Int32))), (3, .int v3_43), (2, .ref (G.2.2.1 p_25)), (0, .ref (q 0))]) hx hb dX2_brokenPlace_78 hl (k := 1) rfl rfl (by decide) rfl (fun ls hl => ?_)
                      refine lv_iinc (v := (v3_43 + (1 : Int32))) (lv' := [(3, .int (v3_43 + (1 : Int32))), (1, .int (v1_43 + (1 : Int32))), (2, .ref (G.2.2.1 p_25)), (0, .ref (q 0))]) hx hb dX2_brokenPlace_81 hl (k := 1) rfl rfl (by decide) rfl (fun ls hl => ?_)
                      refine lv_goto (tgt := 43) hx hb dX2_brokenPlace_84 (by decide) ?_
                      exact ih1 (v3_43 + (1 : Int32)) (v1_43 + (1 : Int32)) _ _ _ h hW (lv_sub hl [0, 1, 2, 3] rfl)
                    · have h := ht_73 c_73
                      refine lv_iload_n hx hb dX2_brokenPlace_76 rfl (lv_at hl 1 rfl) ?_
                      obtain rfl := Option.some.inj h
                      exact x_reti F hr hW rfl dX2_brokenPlace_77
            exact L1 200 (0 : Int32) (v1_11 + (1 : Int32)) _ _ _ h hW (lv_sub hl [0, 1, 2, 3] rfl)
          · have h := hf_33 c_33
            refine lv_iload_n hx hb dX2_brokenPlace_36 rfl (lv_at hl 1 rfl) ?_
            obtain rfl := Option.some.inj h
            exact x_reti F hr hW rfl dX2_brokenPlace_37
    exact L0 200 (0 : Int32) _ _ _ h hW (lv_sub hl [0, 1] rfl)
  · have h := ht_4 c_4
    refine lv_iconst (v := (0 : Int32)) hx hb dX2_brokenPlace_7 (by decide) ?_
    obtain rfl := Option.some.inj h
    exact x_reti F hr hW rfl dX2_brokenPlace_8
def f_X2_digit (w : LT) (x1 : Int32) : Option (Int32) :=
  if w.2.1 ≤ x1 then
    some (0 : Int32)
    else
    if inR x1 96 then
    some ((w.1 x1.toNatClampNeg) - (48 : Int32))
    else none
abbrev rmX2_digit : Room := { frames := 0, cells := 0, slots := 0, locals := 0 }
set_option maxRecDepth 100000 in
set_option maxHeartbeats 4000000 in
theorem c_X2_digit (l : Launch) (G : EnT) (q : Nat → Nat) (w : LT) (x1 : Int32) (o : Int32) (h : f_X2_digit w x1 = some o) : Mi l yX2_digit rmX2_digit cX2_digit 2 (some .int) G false [.ref (q 0), .int x1] (cLT G q w) o (cLT G q w) := by
  refine Mi_of (by decide) (Nat.le_of_ble_eq_true rfl) ?_
  intro p e s m below meth c A0 F hr hW ls hl
  obtain ⟨hx, hb, hml, hown, hts, hK, hNW, hlocks, hA, hSX⟩ := id F
  have hl : lv_has ls 2 [(0, .ref (q 0)), (1, .int x1)] := hl
  have hW : Wd G A0 s (cLT G q w) s.heap [] := hW
  show W p l e rmX2_digit s m ([.ref (q 0), .int x1] : List Value).toArray below meth c s.heap [] 0 0 (Qi below G (cLT G q w) o A0 ([.ref (q 0), .int x1] : List Value).toArray s) (F0 m 0 ls [])
  refine lv_iload_n hx hb dX2_digit_0 rfl (lv_at hl 1 rfl) ?_
  refine lv_aload_n hx hb dX2_digit_1 rfl (lv_at hl 0 rfl) ?_
  refine x_get F hW 0 rfl fa_X2_15 rfl dX2_digit_2 ?_
  obtain ⟨ht_5, hf_5⟩ := of_ite h
  refine lv_icmp_ge (tgt := 20) hx hb dX2_digit_5 (by decide) (fun c_5 => ?_) (fun c_5 => ?_)
  · have h := ht_5 c_5
    refine lv_iconst (v := (0 : Int32)) hx hb dX2_digit_20 (by decide) ?_
    obtain rfl := Option.some.inj h
    exact x_reti F hr hW rfl dX2_digit_21
  · have h := hf_5 c_5
    refine lv_aload_n hx hb dX2_digit_8 rfl (lv_at hl 0 rfl) ?_
    refine x_get F hW 0 rfl fa_X2_9 rfl dX2_digit_9 ?_
    refine lv_iload_n hx hb dX2_digit_12 rfl (lv_at hl 1 rfl) ?_
    obtain ⟨g_13, h⟩ := of_guard h
    refine x_iald F hW 1 rfl g_13 dX2_digit_13 ?_
    refine lv_bipush (v := (48 : Int32)) hx hb dX2_digit_14 (by decide) ?_
    refine lv_isub hx hb dX2_digit_16 ?_
    refine lv_goto (tgt := 21) hx hb dX2_digit_17 (by decide) ?_
    obtain rfl := Option.some.inj h
    exact x_reti F hr hW rfl dX2_digit_21
def f_X2_kindAt (w : LT) (x1 : Int32) : Option (Int32) :=
  if w.2.1 ≤ x1 then
    some (0 : Int32)
    else
    if inR x1 96 then
    Option.bind (f_J0_indexOf_0f7a4 5 (i2cI (w.1 x1.toNatClampNeg))) fun p_17 =>
    some p_17
    else none
abbrev rmX2_kindAt : Room := { frames := 4, cells := 0, slots := 0, locals := 91 }
set_option maxRecDepth 100000 in
set_option maxHeartbeats 4000000 in
theorem c_X2_kindAt (l : Launch) (G : EnT) (q : Nat → Nat) (w : LT) (x1 : Int32) (o : Int32) (h : f_X2_kindAt w x1 = some o) : Mi l yX2_kindAt rmX2_kindAt cX2_kindAt 2 (some .int) G true [.ref (q 0), .int x1] (cLT G q w) o (cLT G q w) := by
  refine Mi_of (by decide) (Nat.le_of_ble_eq_true rfl) ?_
  intro p e s m below meth c A0 F hr hW ls hl
  obtain ⟨hx, hb, hml, hown, hts, hK, hNW, hlocks, hA, hSX⟩ := id F
  have hl : lv_has ls 2 [(0, .ref (q 0)), (1, .int x1)] := hl
  have hW : Wd G A0 s (cLT G q w) s.heap [] := hW
  show W p l e rmX2_kindAt s m ([.ref (q 0), .int x1] : List Value).toArray below meth c s.heap [] 0 0 (Qi below G (cLT G q w) o A0 ([.ref (q 0), .int x1] : List Value).toArray s) (F0 m 0 ls [])
  refine lv_iload_n hx hb dX2_kindAt_0 rfl (lv_at hl 1 rfl) ?_
  refine lv_aload_n hx hb dX2_kindAt_1 rfl (lv_at hl 0 rfl) ?_
  refine x_get F hW 0 rfl fa_X2_15 rfl dX2_kindAt_2 ?_
  obtain ⟨ht_5, hf_5⟩ := of_ite h
  refine lv_icmp_ge (tgt := 23) hx hb dX2_kindAt_5 (by decide) (fun c_5 => ?_) (fun c_5 => ?_)
  · have h := ht_5 c_5
    refine lv_iconst (v := (0 : Int32)) hx hb dX2_kindAt_23 (by decide) ?_
    obtain rfl := Option.some.inj h
    exact x_reti F hr hW rfl dX2_kindAt_24
  · have h := hf_5 c_5
    refine va_ldcS hx hb hown ((hSX rfl).2.2.2 5 (by decide)) dX2_kindAt_8 ?_
    refine lv_aload_n hx hb dX2_kindAt_10 rfl (lv_at hl 0 rfl) ?_
    refine x_get F hW 0 rfl fa_X2_9 rfl dX2_kindAt_11 ?_
    refine lv_iload_n hx hb dX2_kindAt_14 rfl (lv_at hl 1 rfl) ?_
    obtain ⟨g_15, h⟩ := of_guard h
    refine x_iald F hW 1 rfl g_15 dX2_kindAt_15 ?_
    refine lv_i2c (v := (i2cI (w.1 x1.toNatClampNeg))) hx hb dX2_kindAt_16 rfl ?_
    obtain ⟨p_17, hc_17, h⟩ := of_bind h
    refine x_Ti (av := [.ref (G.2.2.1 5), .int (i2cI (w.1 x1.toNatClampNeg))]) (As := [.int (i2cI (w.1 x1.toNatClampNeg))]) F hW (c_J0_indexOf_0f7a4 l G 5 (i2cI (w.1 x1.toNatClampNeg)) _ hc_17) (by intro q; exact q) (by decide) (by decide) cv_X2_35 rfl rfl rfl rfl hl (Nat.le_of_ble_eq_true rfl) ⟨Nat.le_of_ble_eq_true rfl, Nat.le_of_ble_eq_true rfl⟩ ⟨rfl, rfl⟩ ⟨Nat.le_of_ble_eq_true rfl, Nat.le_of_ble_eq_true rfl⟩ dX2_kindAt_17 (fun H locs hW => ?_)
    refine lv_goto (tgt := 24) hx hb dX2_kindAt_20 (by decide) ?_
    obtain rfl := Option.some.inj h
    exact x_reti F hr hW rfl dX2_kindAt_24
def f_X2_twoDigits (w : LT) (x1 : Int32) : Option (Int32) :=
  Option.bind (f_X2_digit w x1) fun p_4 =>
    Option.bind (f_X2_digit w (x1 + (1 : Int32))) fun p_12 =>
    some (((10 : Int32) * p_4) + p_12)
abbrev rmX2_twoDigits : Room := { frames := 1, cells := 0, slots := 0, locals := 21 }
set_option maxRecDepth 100000 in
set_option maxHeartbeats 4000000 in
theorem c_X2_twoDigits (l : Launch) (G : EnT) (q : Nat → Nat) (w : LT) (x1 : Int32) (o : Int32) (h : f_X2_twoDigits w x1 = some o) : Mi l yX2_twoDigits rmX2_twoDigits cX2_twoDigits 2 (some .int) G false [.ref (q 0), .int x1] (cLT G q w) o (cLT G q w) := by
  refine Mi_of (by decide) (Nat.le_of_ble_eq_true rfl) ?_
  intro p e s m below meth c A0 F hr hW ls hl
  obtain ⟨hx, hb, hml, hown, hts, hK, hNW, hlocks, hA, hSX⟩ := id F
  have hl : lv_has ls 2 [(0, .ref (q 0)), (1, .int x1)] := hl
  have hW : Wd G A0 s (cLT G q w) s.heap [] := hW
  show W p l e rmX2_twoDigits s m ([.ref (q 0), .int x1] : List Value).toArray below meth c s.heap [] 0 0 (Qi below G (cLT G q w) o A0 ([.ref (q 0), .int x1] : List Value).toArray s) (F0 m 0 ls [])
  refine lv_bipush (v := (10 : Int32)) hx hb dX2_twoDigits_0 (by decide) ?_
  refine lv_aload_n hx hb dX2_twoDigits_2 rfl (lv_at hl 0 rfl) ?_
  refine lv_iload_n hx hb dX2_twoDigits_3 rfl (lv_at hl 1 rfl) ?_
  obtain ⟨p_4, hc_4, h⟩ := of_bind h
  refine x_Vi (av := [.ref (q 0), .int x1]) (As := [.int x1]) F hW (c_X2_digit l G q w x1 _ hc_4) [0, 1] rfl rfl (by intro q; cases q) cv_X2_69 rfl ⟨_, rfl, rfl⟩ rfl rfl rfl hl (Nat.le_of_ble_eq_true rfl) ⟨Nat.le_of_ble_eq_true rfl, Nat.le_of_ble_eq_true rfl⟩ ⟨rfl, rfl⟩ ⟨Nat.le_of_ble_eq_true rfl, Nat.le_of_ble_eq_true rfl⟩ dX2_twoDigits_4 rfl [some 0, some 1] rfl (ws' := cLT G q w) rfl (fun H locs hW => ?_)
  refine lv_imul hx hb dX2_twoDigits_7 ?_
  refine lv_aload_n hx hb dX2_twoDigits_8 rfl (lv_at hl 0 rfl) ?_
  refine lv_iload_n hx hb dX2_twoDigits_9 rfl (lv_at hl 1 rfl) ?_
  refine lv_iconst (v := (1 : Int32)) hx hb dX2_twoDigits_10 (by decide) ?_
  refine lv_iadd hx hb dX2_twoDigits_11 ?_
  obtain ⟨p_12, hc_12, h⟩ := of_bind h
  refine x_Vi (av := [.ref (q 0), .int (x1 + (1 : Int32))]) (As := [.int (x1 + (1 : Int32))]) F hW (c_X2_digit l G q w (x1 + (1 : Int32)) _ hc_12) [0, 1] rfl rfl (by intro q; cases q) cv_X2_69 rfl ⟨_, rfl, rfl⟩ rfl rfl rfl hl (Nat.le_of_ble_eq_true rfl) ⟨Nat.le_of_ble_eq_true rfl, Nat.le_of_ble_eq_true rfl⟩ ⟨rfl, rfl⟩ ⟨Nat.le_of_ble_eq_true rfl, Nat.le_of_ble_eq_true rfl⟩ dX2_twoDigits_12 rfl [some 0, some 1] rfl (ws' := cLT G q w) rfl (fun H locs hW => ?_)
  refine lv_iadd hx hb dX2_twoDigits_15 ?_
  obtain rfl := Option.some.inj h
  exact x_reti F hr hW rfl dX2_twoDigits_16
def f_X2_comes (w : LT) (x1 : Int32) (w2 : LD) : Option (Int32 × LD) :=
  if inR x1 96 then
    if (w.1 x1.toNatClampNeg) = (99 : Int32) then
    Option.bind (f_X2_twoDigits w (x1 + (1 : Int32))) fun p_69 =>
    Option.bind (f_X2_digit w (x1 + (3 : Int32))) fun p_76 =>
    Option.bind (f_X1_putHeight w2 p_69 p_76) fun p_79 =>
    if p_79.1 = 0 ∨ p_79.1 = 1 then some (p_79.1, p_79.2) else none
    else
    if (w.1 x1.toNatClampNeg) = (104 : Int32) then
    if (7 : Int32) ≤ w2.2.2.2.2.2.1 then
    some ((0 : Int32), w2)
    else
    Option.bind (f_X2_kindAt w (x1 + (1 : Int32))) fun p_97 =>
    Option.bind (f_X2_digit w (x1 + (2 : Int32))) fun p_104 =>
    Option.bind (f_X2_twoDigits w (x1 + (3 : Int32))) fun p_111 =>
    Option.bind (f_X1_addHouse w2 p_97 p_104 p_111) fun p_114 =>
    if p_114.1 = 0 then
    some ((0 : Int32), p_114.2)
    else
    some ((1 : Int32), p_114.2)
    else
    if (w.1 x1.toNatClampNeg) = (109 : Int32) then
    Option.bind (f_X2_digit w (x1 + (1 : Int32))) fun p_131 =>
    Option.bind (f_X2_twoDigits w (x1 + (2 : Int32))) fun p_138 =>
    Option.bind (f_X1_putHouse w2 p_131 p_138) fun p_141 =>
    if p_141.1 = 0 ∨ p_141.1 = 1 then some (p_141.1, p_141.2) else none
    else
    if (w.1 x1.toNatClampNeg) = (110 : Int32) then
    Option.bind (f_X2_twoDigits w (x1 + (1 : Int32))) fun p_181 =>
    Option.bind (f_X1_goBy w2 p_181) fun p_184 =>
    if p_184.1 = 0 ∨ p_184.1 = 1 then some (p_184.1, p_184.2) else none
    else
    if (w.1 x1.toNatClampNeg) = (117 : Int32) then
    Option.bind (f_X2_digit w (x1 + (1 : Int32))) fun p_169 =>
    Option.bind (f_X1_switchCall w2 p_169) fun p_172 =>
    if p_172.1 = 0 ∨ p_172.1 = 1 then some (p_172.1, p_172.2) else none
    else
    if (w.1 x1.toNatClampNeg) = (119 : Int32) then
    Option.bind (f_X2_digit w (x1 + (1 : Int32))) fun p_150 =>
    Option.bind (f_X2_twoDigits w (x1 + (2 : Int32))) fun p_157 =>
    Option.bind (f_X1_addWicks w2 p_150 p_157) fun p_160 =>
    if p_160.1 = 0 ∨ p_160.1 = 1 then some (p_160.1, p_160.2) else none
    else
    Option.bind (f_X2_digit w (x1 + (1 : Int32))) fun p_193 =>
    some ((1 : Int32), (w2.1, w2.2.1, w2.2.2.1, w2.2.2.2.1, w2.2.2.2.2.1, w2.2.2.2.2.2.1, w2.2.2.2.2.2.2.1, p_193, w2.2.2.2.2.2.2.2.2))
    else none
abbrev rmX2_comes : Room := { frames := 5, cells := 0, slots := 0, locals := 112 }
set_option maxRecDepth 100000 in
set_option maxHeartbeats 4000000 in
theorem c_X2_comes (l : Launch) (G : EnT) (q : Nat → Nat) (w : LT) (x1 : Int32) (q2 : Nat → Nat) (w2 : LD) (o : Int32 × LD) (h : f_X2_comes w x1 w2 = some o) : Mi l yX2_comes rmX2_comes cX2_comes 3 (some .boolean) G true [.ref (q 0), .int x1, .ref (q2 0)] (cLT G q w ++ cLD G q2 w2) o.1 (cLT G q w ++ cLD G q2 o.2) := by
  refine Mi_of (by decide) (Nat.le_of_ble_eq_true rfl) ?_
  intro p e s m below meth c A0 F hr hW ls hl
  obtain ⟨hx, hb, hml, hown, hts, hK, hNW, hlocks, hA, hSX⟩ := id F
  have hl : lv_has ls 3 [(0, .ref (q 0)), (1, .int x1), (2, .ref (q2 0))] := hl
  have hW : Wd G A0 s (cLT G q w ++ cLD G q2 w2) s.heap [] := hW
  show W p l e rmX2_comes s m ([.ref (q 0), .int x1, .ref (q2 0)] : List Value).toArray below meth c s.heap [] 0 0 (Qi below G (cLT G q w ++ cLD G q2 o.2) o.1 A0 ([.ref (q 0), .int x1, .ref (q2 0)] : List Value).toArray s) (F0 m 0 ls [])
  refine lv_aload_n hx hb dX2_comes_0 rfl (lv_at hl 0 rfl) ?_
  refine x_get F hW 0 rfl fa_X2_9 rfl dX2_comes_1 ?_
  refine lv_iload_n hx hb dX2_comes_4 rfl (lv_at hl 1 rfl) ?_
  obtain ⟨g_5, h⟩ := of_guard h
  refine x_iald F hW 1 rfl g_5 dX2_comes_5 ?_
  obtain ⟨ht_6_0, h⟩ := of_ite h
  by_cases c_6_0 : (w.1 x1.toNatClampNeg) = (99 : Int32)
  · have h := ht_6_0 c_6_0
    refine x_lookIn c_6_0 hx hb dX2_comes_6 rfl (off := (58)) rfl (tgt := 64) (by decide) ?_
    refine lv_aload_n hx hb dX2_comes_64 rfl (lv_at hl 2 rfl) ?_
    refine lv_aload_n hx hb dX2_comes_65 rfl (lv_at hl 0 rfl) ?_
    refine lv_iload_n hx hb dX2_comes_66 rfl (lv_at hl 1 rfl) ?_
    refine lv_iconst (v := (1 : Int32)) hx hb dX2_comes_67 (by decide) ?_
    refine lv_iadd hx hb dX2_comes_68 ?_
    obtain ⟨p_69, hc_69, h⟩ := of_bind h
    refine x_Vi (av := [.ref (q 0), .int (x1 + (1 : Int32))]) (As := [.int (x1 + (1 : Int32))]) F hW (c_X2_twoDigits l G q w (x1 + (1 : Int32)) _ hc_69) [0, 1] rfl rfl (by intro q; cases q) cv_X2_66 rfl ⟨_, rfl, rfl⟩ rfl rfl rfl hl (Nat.le_of_ble_eq_true rfl) ⟨Nat.le_of_ble_eq_true rfl, Nat.le_of_ble_eq_true rfl⟩ ⟨rfl, rfl⟩ ⟨Nat.le_of_ble_eq_true rfl, Nat.le_of_ble_eq_true rfl⟩ dX2_comes_69 rfl [some 0, some 1, none, none, none, none, none, none] rfl (ws' := cLT G q w ++ cLD G q2 w2) rfl (fun H locs hW => ?_)
    refine lv_aload_n hx hb dX2_comes_72 rfl (lv_at hl 0 rfl) ?_
    refine lv_iload_n hx hb dX2_comes_73 rfl (lv_at hl 1 rfl) ?_
    refine lv_iconst (v := (3 : Int32)) hx hb dX2_comes_74 (by decide) ?_
    refine lv_iadd hx hb dX2_comes_75 ?_
    obtain ⟨p_76, hc_76, h⟩ := of_bind h
    refine x_Vi (av := [.ref (q 0), .int (x1 + (3 : Int32))]) (As := [.int (x1 + (3 : Int32))]) F hW (c_X2_digit l G q w (x1 + (3 : Int32)) _ hc_76) [0, 1] rfl rfl (by intro q; cases q) cv_X2_69 rfl ⟨_, rfl, rfl⟩ rfl rfl rfl hl (Nat.le_of_ble_eq_true rfl) ⟨Nat.le_of_ble_eq_true rfl, Nat.le_of_ble_eq_true rfl⟩ ⟨rfl, rfl⟩ ⟨Nat.le_of_ble_eq_true rfl, Nat.le_of_ble_eq_true rfl⟩ dX2_comes_76 rfl [some 0, some 1, none, none, none, none, none, none] rfl (ws' := cLT G q w ++ cLD G q2 w2) rfl (fun H locs hW => ?_)
    obtain ⟨p_79, hc_79, h⟩ := of_bind h
    refine x_Vi (av := [.ref (q2 0), .int p_69, .int p_76]) (As := [.int p_69, .int p_76]) F hW (c_X1_putHeight l G q2 w2 p_69 p_76 _ hc_79) [2, 3, 4, 5, 6, 7] rfl rfl (by intro q; cases q) cv_X2_72 rfl ⟨_, rfl, rfl⟩ rfl rfl rfl hl (Nat.le_of_ble_eq_true rfl) ⟨Nat.le_of_ble_eq_true rfl, Nat.le_of_ble_eq_true rfl⟩ ⟨rfl, rfl⟩ ⟨Nat.le_of_ble_eq_true rfl, Nat.le_of_ble_eq_true rfl⟩ dX2_comes_79 rfl [none, none, some 0, some 1, some 2, some 3, some 4, some 5] rfl (ws' := cLT G q w ++ cLD G q2 p_79.2) rfl (fun H locs hW => ?_)
    obtain ⟨g_82, h⟩ := of_guard h
    obtain rfl := Option.some.inj h
    exact x_retz F hr hW g_82 rfl dX2_comes_82
  have h := h c_6_0
  obtain ⟨ht_6_1, h⟩ := of_ite h
  by_cases c_6_1 : (w.1 x1.toNatClampNeg) = (104 : Int32)
  · have h := ht_6_1 c_6_1
    refine x_lookIn c_6_1 hx hb dX2_comes_6 rfl (off := (77)) rfl (tgt := 83) (by decide) ?_
    refine lv_aload_n hx hb dX2_comes_83 rfl (lv_at hl 2 rfl) ?_
    refine x_get F hW 2 rfl fa_X2_78 rfl dX2_comes_84 ?_
    refine lv_bipush (v := (7 : Int32)) hx hb dX2_comes_87 (by decide) ?_
    obtain ⟨ht_89, hf_89⟩ := of_ite h
    refine lv_icmp_ge (tgt := 124) hx hb dX2_comes_89 (by decide) (fun c_89 => ?_) (fun c_89 => ?_)
    · have h := ht_89 c_89
      refine lv_iconst (v := (0 : Int32)) hx hb dX2_comes_124 (by decide) ?_
      obtain rfl := Option.some.inj h
      exact x_retz F hr hW (Or.inl rfl) rfl dX2_comes_125
    · have h := hf_89 c_89
      refine lv_aload_n hx hb dX2_comes_92 rfl (lv_at hl 2 rfl) ?_
      refine lv_aload_n hx hb dX2_comes_93 rfl (lv_at hl 0 rfl) ?_
      refine lv_iload_n hx hb dX2_comes_94 rfl (lv_at hl 1 rfl) ?_
      refine lv_iconst (v := (1 : Int32)) hx hb dX2_comes_95 (by decide) ?_
      refine lv_iadd hx hb dX2_comes_96 ?_
      obtain ⟨p_97, hc_97, h⟩ := of_bind h
      refine x_Vi (av := [.ref (q 0), .int (x1 + (1 : Int32))]) (As := [.int (x1 + (1 : Int32))]) F hW (c_X2_kindAt l G q w (x1 + (1 : Int32)) _ hc_97) [0, 1] rfl rfl (by intro q; exact q) cv_X2_81 rfl ⟨_, rfl, rfl⟩ rfl rfl rfl hl (Nat.le_of_ble_eq_true rfl) ⟨Nat.le_of_ble_eq_true rfl, Nat.le_of_ble_eq_true rfl⟩ ⟨rfl, rfl⟩ ⟨Nat.le_of_ble_eq_true rfl, Nat.le_of_ble_eq_true rfl⟩ dX2_comes_97 rfl [some 0, some 1, none, none, none, none, none, none] rfl (ws' := cLT G q w ++ cLD G q2 w2) rfl (fun H locs hW => ?_)
      refine lv_aload_n hx hb dX2_comes_100 rfl (lv_at hl 0 rfl) ?_
      refine lv_iload_n hx hb dX2_comes_101 rfl (lv_at hl 1 rfl) ?_
      refine lv_iconst (v := (2 : Int32)) hx hb dX2_comes_102 (by decide) ?_
      refine lv_iadd hx hb dX2_comes_103 ?_
      obtain ⟨p_104, hc_104, h⟩ := of_bind h
      refine x_Vi (av := [.ref (q 0), .int (x1 + (2 : Int32))]) (As := [.int (x1 + (2 : Int32))]) F hW (c_X2_digit l G q w (x1 + (2 : Int32)) _ hc_104) [0, 1] rfl rfl (by intro q; cases q) cv_X2_69 rfl ⟨_, rfl, rfl⟩ rfl rfl rfl hl (Nat.le_of_ble_eq_true rfl) ⟨Nat.le_of_ble_eq_true rfl, Nat.le_of_ble_eq_true rfl⟩ ⟨rfl, rfl⟩ ⟨Nat.le_of_ble_eq_true rfl, Nat.le_of_ble_eq_true rfl⟩ dX2_comes_104 rfl [some 0, some 1, none, none, none, none, none, none] rfl (ws' := cLT G q w ++ cLD G q2 w2) rfl (fun H locs hW => ?_)
      refine lv_aload_n hx hb dX2_comes_107 rfl (lv_at hl 0 rfl) ?_
      refine lv_iload_n hx hb dX2_comes_108 rfl (lv_at hl 1 rfl) ?_
      refine lv_iconst (v := (3 : Int32)) hx hb dX2_comes_109 (by decide) ?_
      refine lv_iadd hx hb dX2_comes_110 ?_
      obtain ⟨p_111, hc_111, h⟩ := of_bind h
      refine x_Vi (av := [.ref (q 0), .int (x1 + (3 : Int32))]) (As := [.int (x1 + (3 : Int32))]) F hW (c_X2_twoDigits l G q w (x1 + (3 : Int32)) _ hc_111) [0, 1] rfl rfl (by intro q; cases q) cv_X2_66 rfl ⟨_, rfl, rfl⟩ rfl rfl rfl hl (Nat.le_of_ble_eq_true rfl) ⟨Nat.le_of_ble_eq_true rfl, Nat.le_of_ble_eq_true rfl⟩ ⟨rfl, rfl⟩ ⟨Nat.le_of_ble_eq_true rfl, Nat.le_of_ble_eq_true rfl⟩ dX2_comes_111 rfl [some 0, some 1, none, none, none, none, none, none] rfl (ws' := cLT G q w ++ cLD G q2 w2) rfl (fun H locs hW => ?_)
      obtain ⟨p_114, hc_114, h⟩ := of_bind h
      refine x_Vi (av := [.ref (q2 0), .int p_97, .int p_104, .int p_111]) (As := [.int p_97, .int p_104, .int p_111]) F hW (c_X1_addHouse l G q2 w2 p_97 p_104 p_111 _ hc_114) [2, 3, 4, 5, 6, 7] rfl rfl (by intro q; cases q) cv_X2_84 rfl ⟨_, rfl, rfl⟩ rfl rfl rfl hl (Nat.le_of_ble_eq_true rfl) ⟨Nat.le_of_ble_eq_true rfl, Nat.le_of_ble_eq_true rfl⟩ ⟨rfl, rfl⟩ ⟨Nat.le_of_ble_eq_true rfl, Nat.le_of_ble_eq_true rfl⟩ dX2_comes_114 rfl [none, none, some 0, some 1, some 2, some 3, some 4, some 5] rfl (ws' := cLT G q w ++ cLD G q2 p_114.2) rfl (fun H locs hW => ?_)
      obtain ⟨ht_117, hf_117⟩ := of_ite h
      refine lv_if_eq (tgt := 124) hx hb dX2_comes_117 (by decide) (fun c_117 => ?_) (fun c_117 => ?_)
      · have h := ht_117 c_117
        refine lv_iconst (v := (0 : Int32)) hx hb dX2_comes_124 (by decide) ?_
        obtain rfl := Option.some.inj h
        exact x_retz F hr hW (Or.inl rfl) rfl dX2_comes_125
      · have h := hf_117 c_117
        refine lv_iconst (v := (1 : Int32)) hx hb dX2_comes_120 (by decide) ?_
        refine lv_goto (tgt := 125) hx hb dX2_comes_121 (by decide) ?_
        obtain rfl := Option.some.inj h
        exact x_retz F hr hW (Or.inr rfl) rfl dX2_comes_125
  have h := h c_6_1
  obtain ⟨ht_6_2, h⟩ := of_ite h
  by_cases c_6_2 : (w.1 x1.toNatClampNeg) = (109 : Int32)
  · have h := ht_6_2 c_6_2
    refine x_lookIn c_6_2 hx hb dX2_comes_6 rfl (off := (120)) rfl (tgt := 126) (by decide) ?_
    refine lv_aload_n hx hb dX2_comes_126 rfl (lv_at hl 2 rfl) ?_
    refine lv_aload_n hx hb dX2_comes_127 rfl (lv_at hl 0 rfl) ?_
    refine lv_iload_n hx hb dX2_comes_128 rfl (lv_at hl 1 rfl) ?_
    refine lv_iconst (v := (1 : Int32)) hx hb dX2_comes_129 (by decide) ?_
    refine lv_iadd hx hb dX2_comes_130 ?_
    obtain ⟨p_131, hc_131, h⟩ := of_bind h
    refine x_Vi (av := [.ref (q 0), .int (x1 + (1 : Int32))]) (As := [.int (x1 + (1 : Int32))]) F hW (c_X2_digit l G q w (x1 + (1 : Int32)) _ hc_131) [0, 1] rfl rfl (by intro q; cases q) cv_X2_69 rfl ⟨_, rfl, rfl⟩ rfl rfl rfl hl (Nat.le_of_ble_eq_true rfl) ⟨Nat.le_of_ble_eq_true rfl, Nat.le_of_ble_eq_true rfl⟩ ⟨rfl, rfl⟩ ⟨Nat.le_of_ble_eq_true rfl, Nat.le_of_ble_eq_true rfl⟩ dX2_comes_131 rfl [some 0, some 1, none, none, none, none, none, none] rfl (ws' := cLT G q w ++ cLD G q2 w2) rfl (fun H locs hW => ?_)
    refine lv_aload_n hx hb dX2_comes_134 rfl (lv_at hl 0 rfl) ?_
    refine lv_iload_n hx hb dX2_comes_135 rfl (lv_at hl 1 rfl) ?_
    refine lv_iconst (v := (2 : Int32)) hx hb dX2_comes_136 (by decide) ?_
    refine lv_iadd hx hb dX2_comes_137 ?_
    obtain ⟨p_138, hc_138, h⟩ := of_bind h
    refine x_Vi (av := [.ref (q 0), .int (x1 + (2 : Int32))]) (As := [.int (x1 + (2 : Int32))]) F hW (c_X2_twoDigits l G q w (x1 + (2 : Int32)) _ hc_138) [0, 1] rfl rfl (by intro q; cases q) cv_X2_66 rfl ⟨_, rfl, rfl⟩ rfl rfl rfl hl (Nat.le_of_ble_eq_true rfl) ⟨Nat.le_of_ble_eq_true rfl, Nat.le_of_ble_eq_true rfl⟩ ⟨rfl, rfl⟩ ⟨Nat.le_of_ble_eq_true rfl, Nat.le_of_ble_eq_true rfl⟩ dX2_comes_138 rfl [some 0, some 1, none, none, none, none, none, none] rfl (ws' := cLT G q w ++ cLD G q2 w2) rfl (fun H locs hW => ?_)
    obtain ⟨p_141, hc_141, h⟩ := of_bind h
    refine x_Vi (av := [.ref (q2 0), .int p_131, .int p_138]) (As := [.int p_131, .int p_138]) F hW (c_X1_putHouse l G q2 w2 p_131 p_138 _ hc_141) [2, 3, 4, 5, 6, 7] rfl rfl (by intro q; cases q) cv_X2_88 rfl ⟨_, rfl, rfl⟩ rfl rfl rfl hl (Nat.le_of_ble_eq_true rfl) ⟨Nat.le_of_ble_eq_true rfl, Nat.le_of_ble_eq_true rfl⟩ ⟨rfl, rfl⟩ ⟨Nat.le_of_ble_eq_true rfl, Nat.le_of_ble_eq_true rfl⟩ dX2_comes_141 rfl [none, none, some 0, some 1, some 2, some 3, some 4, some 5] rfl (ws' := cLT G q w ++ cLD G q2 p_141.2) rfl (fun H locs hW => ?_)
    obtain ⟨g_144, h⟩ := of_guard h
    obtain rfl := Option.some.inj h
    exact x_retz F hr hW g_144 rfl dX2_comes_144
  have h := h c_6_2
  obtain ⟨ht_6_3, h⟩ := of_ite h
  by_cases c_6_3 : (w.1 x1.toNatClampNeg) = (110 : Int32)
  · have h := ht_6_3 c_6_3
    refine x_lookIn c_6_3 hx hb dX2_comes_6 rfl (off := (170)) rfl (tgt := 176) (by decide) ?_
    refine lv_aload_n hx hb dX2_comes_176 rfl (lv_at hl 2 rfl) ?_
    refine lv_aload_n hx hb dX2_comes_177 rfl (lv_at hl 0 rfl) ?_
    refine lv_iload_n hx hb dX2_comes_178 rfl (lv_at hl 1 rfl) ?_
    refine lv_iconst (v := (1 : Int32)) hx hb dX2_comes_179 (by decide) ?_
    refine lv_iadd hx hb dX2_comes_180 ?_
    obtain ⟨p_181, hc_181, h⟩ := of_bind h
    refine x_Vi (av := [.ref (q 0), .int (x1 + (1 : Int32))]) (As := [.int (x1 + (1 : Int32))]) F hW (c_X2_twoDigits l G q w (x1 + (1 : Int32)) _ hc_181) [0, 1] rfl rfl (by intro q; cases q) cv_X2_66 rfl ⟨_, rfl, rfl⟩ rfl rfl rfl hl (Nat.le_of_ble_eq_true rfl) ⟨Nat.le_of_ble_eq_true rfl, Nat.le_of_ble_eq_true rfl⟩ ⟨rfl, rfl⟩ ⟨Nat.le_of_ble_eq_true rfl, Nat.le_of_ble_eq_true rfl⟩ dX2_comes_181 rfl [some 0, some 1, none, none, none, none, none, none] rfl (ws' := cLT G q w ++ cLD G q2 w2) rfl (fun H locs hW => ?_)
    obtain ⟨p_184, hc_184, h⟩ := of_bind h
    refine x_Vi (av := [.ref (q2 0), .int p_181]) (As := [.int p_181]) F hW (c_X1_goBy l G q2 w2 p_181 _ hc_184) [2, 3, 4, 5, 6, 7] rfl rfl (by intro q; cases q) cv_X2_98 rfl ⟨_, rfl, rfl⟩ rfl rfl rfl hl (Nat.le_of_ble_eq_true rfl) ⟨Nat.le_of_ble_eq_true rfl, Nat.le_of_ble_eq_true rfl⟩ ⟨rfl, rfl⟩ ⟨Nat.le_of_ble_eq_true rfl, Nat.le_of_ble_eq_true rfl⟩ dX2_comes_184 rfl [none, none, some 0, some 1, some 2, some 3, some 4, some 5] rfl (ws' := cLT G q w ++ cLD G q2 p_184.2) rfl (fun H locs hW => ?_)
    obtain ⟨g_187, h⟩ := of_guard h
    obtain rfl := Option.some.inj h
    exact x_retz F hr hW g_187 rfl dX2_comes_187
  have h := h c_6_3
  obtain ⟨ht_6_4, h⟩ := of_ite h
  by_cases c_6_4 : (w.1 x1.toNatClampNeg) = (117 : Int32)
  · have h := ht_6_4 c_6_4
    refine x_lookIn c_6_4 hx hb dX2_comes_6 rfl (off := (158)) rfl (tgt := 164) (by decide) ?_
    refine lv_aload_n hx hb dX2_comes_164 rfl (lv_at hl 2 rfl) ?_
    refine lv_aload_n hx hb dX2_comes_165 rfl (lv_at hl 0 rfl) ?_
    refine lv_iload_n hx hb dX2_comes_166 rfl (lv_at hl 1 rfl) ?_
    refine lv_iconst (v := (1 : Int32)) hx hb dX2_comes_167 (by decide) ?_
    refine lv_iadd hx hb dX2_comes_168 ?_
    obtain ⟨p_169, hc_169, h⟩ := of_bind h
    refine x_Vi (av := [.ref (q 0), .int (x1 + (1 : Int32))]) (As := [.int (x1 + (1 : Int32))]) F hW (c_X2_digit l G q w (x1 + (1 : Int32)) _ hc_169) [0, 1] rfl rfl (by intro q; cases q) cv_X2_69 rfl ⟨_, rfl, rfl⟩ rfl rfl rfl hl (Nat.le_of_ble_eq_true rfl) ⟨Nat.le_of_ble_eq_true rfl, Nat.le_of_ble_eq_true rfl⟩ ⟨rfl, rfl⟩ ⟨Nat.le_of_ble_eq_true rfl, Nat.le_of_ble_eq_true rfl⟩ dX2_comes_169 rfl [some 0, some 1, none, none, none, none, none, none] rfl (ws' := cLT G q w ++ cLD G q2 w2) rfl (fun H locs hW => ?_)
    obtain ⟨p_172, hc_172, h⟩ := of_bind h
    refine x_Vi (av := [.ref (q2 0), .int p_169]) (As := [.int p_169]) F hW (c_X1_switchCall l G q2 w2 p_169 _ hc_172) [2, 3, 4, 5, 6, 7] rfl rfl (by intro q; cases q) cv_X2_94 rfl ⟨_, rfl, rfl⟩ rfl rfl rfl hl (Nat.le_of_ble_eq_true rfl) ⟨Nat.le_of_ble_eq_true rfl, Nat.le_of_ble_eq_true rfl⟩ ⟨rfl, rfl⟩ ⟨Nat.le_of_ble_eq_true rfl, Nat.le_of_ble_eq_true rfl⟩ dX2_comes_172 rfl [none, none, some 0, some 1, some 2, some 3, some 4, some 5] rfl (ws' := cLT G q w ++ cLD G q2 p_172.2) rfl (fun H locs hW => ?_)
    obtain ⟨g_175, h⟩ := of_guard h
    obtain rfl := Option.some.inj h
    exact x_retz F hr hW g_175 rfl dX2_comes_175
  have h := h c_6_4
  obtain ⟨ht_6_5, h⟩ := of_ite h
  by_cases c_6_5 : (w.1 x1.toNatClampNeg) = (119 : Int32)
  · have h := ht_6_5 c_6_5
    refine x_lookIn c_6_5 hx hb dX2_comes_6 rfl (off := (139)) rfl (tgt := 145) (by decide) ?_
    refine lv_aload_n hx hb dX2_comes_145 rfl (lv_at hl 2 rfl) ?_
    refine lv_aload_n hx hb dX2_comes_146 rfl (lv_at hl 0 rfl) ?_
    refine lv_iload_n hx hb dX2_comes_147 rfl (lv_at hl 1 rfl) ?_
    refine lv_iconst (v := (1 : Int32)) hx hb dX2_comes_148 (by decide) ?_
    refine lv_iadd hx hb dX2_comes_149 ?_
    obtain ⟨p_150, hc_150, h⟩ := of_bind h
    refine x_Vi (av := [.ref (q 0), .int (x1 + (1 : Int32))]) (As := [.int (x1 + (1 : Int32))]) F hW (c_X2_digit l G q w (x1 + (1 : Int32)) _ hc_150) [0, 1] rfl rfl (by intro q; cases q) cv_X2_69 rfl ⟨_, rfl, rfl⟩ rfl rfl rfl hl (Nat.le_of_ble_eq_true rfl) ⟨Nat.le_of_ble_eq_true rfl, Nat.le_of_ble_eq_true rfl⟩ ⟨rfl, rfl⟩ ⟨Nat.le_of_ble_eq_true rfl, Nat.le_of_ble_eq_true rfl⟩ dX2_comes_150 rfl [some 0, some 1, none, none, none, none, none, none] rfl (ws' := cLT G q w ++ cLD G q2 w2) rfl (fun H locs hW => ?_)
    refine lv_aload_n hx hb dX2_comes_153 rfl (lv_at hl 0 rfl) ?_
    refine lv_iload_n hx hb dX2_comes_154 rfl (lv_at hl 1 rfl) ?_
    refine lv_iconst (v := (2 : Int32)) hx hb dX2_comes_155 (by decide) ?_
    refine lv_iadd hx hb dX2_comes_156 ?_
    obtain ⟨p_157, hc_157, h⟩ := of_bind h
    refine x_Vi (av := [.ref (q 0), .int (x1 + (2 : Int32))]) (As := [.int (x1 + (2 : Int32))]) F hW (c_X2_twoDigits l G q w (x1 + (2 : Int32)) _ hc_157) [0, 1] rfl rfl (by intro q; cases q) cv_X2_66 rfl ⟨_, rfl, rfl⟩ rfl rfl rfl hl (Nat.le_of_ble_eq_true rfl) ⟨Nat.le_of_ble_eq_true rfl, Nat.le_of_ble_eq_true rfl⟩ ⟨rfl, rfl⟩ ⟨Nat.le_of_ble_eq_true rfl, Nat.le_of_ble_eq_true rfl⟩ dX2_comes_157 rfl [some 0, some 1, none, none, none, none, none, none] rfl (ws' := cLT G q w ++ cLD G q2 w2) rfl (fun H locs hW => ?_)
    obtain ⟨p_160, hc_160, h⟩ := of_bind h
    refine x_Vi (av := [.ref (q2 0), .int p_150, .int p_157]) (As := [.int p_150, .int p_157]) F hW (c_X1_addWicks l G q2 w2 p_150 p_157 _ hc_160) [2, 3, 4, 5, 6, 7] rfl rfl (by intro q; cases q) cv_X2_91 rfl ⟨_, rfl, rfl⟩ rfl rfl rfl hl (Nat.le_of_ble_eq_true rfl) ⟨Nat.le_of_ble_eq_true rfl, Nat.le_of_ble_eq_true rfl⟩ ⟨rfl, rfl⟩ ⟨Nat.le_of_ble_eq_true rfl, Nat.le_of_ble_eq_true rfl⟩ dX2_comes_160 rfl [none, none, some 0, some 1, some 2, some 3, some 4, some 5] rfl (ws' := cLT G q w ++ cLD G q2 p_160.2) rfl (fun H locs hW => ?_)
    obtain ⟨g_163, h⟩ := of_guard h
    obtain rfl := Option.some.inj h
    exact x_retz F hr hW g_163 rfl dX2_comes_163
  have h := h c_6_5
  refine lv_lookup (off := 182) hx hb dX2_comes_6 rfl (by have z0 := x_ne c_6_0 (z := 99) (by decide); have z1 := x_ne c_6_1 (z := 104) (by decide); have z2 := x_ne c_6_2 (z := 109) (by decide); have z3 := x_ne c_6_3 (z := 110) (by decide); have z4 := x_ne c_6_4 (z := 117) (by decide); have z5 := x_ne c_6_5 (z := 119) (by decide); simp [Op.lookupswitch.offset, z0, Ne.symm z0, z1, Ne.symm z1, z2, Ne.symm z2, z3, Ne.symm z3, z4, Ne.symm z4, z5, Ne.symm z5]) (tgt := 188) (by decide) ?_
  refine lv_aload_n hx hb dX2_comes_188 rfl (lv_at hl 2 rfl) ?_
  refine lv_aload_n hx hb dX2_comes_189 rfl (lv_at hl 0 rfl) ?_
  refine lv_iload_n hx hb dX2_comes_190 rfl (lv_at hl 1 rfl) ?_
  refine lv_iconst (v := (1 : Int32)) hx hb dX2_comes_191 (by decide) ?_
  refine lv_iadd hx hb dX2_comes_192 ?_
  obtain ⟨p_193, hc_193, h⟩ := of_bind h
  refine x_Vi (av := [.ref (q 0), .int (x1 + (1 : Int32))]) (As := [.int (x1 + (1 : Int32))]) F hW (c_X2_digit l G q w (x1 + (1 : Int32)) _ hc_193) [0, 1] rfl rfl (by intro q; cases q) cv_X2_69 rfl ⟨_, rfl, rfl⟩ rfl rfl rfl hl (Nat.le_of_ble_eq_true rfl) ⟨Nat.le_of_ble_eq_true rfl, Nat.le_of_ble_eq_true rfl⟩ ⟨rfl, rfl⟩ ⟨Nat.le_of_ble_eq_true rfl, Nat.le_of_ble_eq_true rfl⟩ dX2_comes_193 rfl [some 0, some 1, none, none, none, none, none, none] rfl (ws' := cLT G q w ++ cLD G q2 w2) rfl (fun H locs hW => ?_)
  refine x_put F hW 2 rfl fp_X2_101 rfl rfl (Nat.le_of_ble_eq_true rfl) (ws' := cLT G q w ++ cLD G q2 (w2.1, w2.2.1, w2.2.2.1, w2.2.2.2.1, w2.2.2.2.2.1, w2.2.2.2.2.2.1, w2.2.2.2.2.2.2.1, p_193, w2.2.2.2.2.2.2.2.2)) rfl dX2_comes_196 (fun H locs hW => ?_)
  refine lv_iconst (v := (1 : Int32)) hx hb dX2_comes_199 (by decide) ?_
  obtain rfl := Option.some.inj h
  exact x_retz F hr hW (Or.inr rfl) rfl dX2_comes_200
def f_X2_refusedPlace_7 : Nat → Int32 → LT → LD → Option (Int32 × LT × LD)
  | 0, _, _, _ => none
  | n0 + 1, v2_7, w_7, w2_7 =>
    if w_7.2.1 ≤ v2_7 then
    some ((-1 : Int32), w_7, w2_7)
    else
    Option.bind (f_X2_comes w_7 v2_7 w2_7) fun p_18 =>
    if p_18.1 = 0 then
    some (v2_7, w_7, p_18.2)
    else
    if inR v2_7 96 then
    Option.bind (f_X2_formBehind (w_7.1 v2_7.toNatClampNeg)) fun p_44 =>
    Option.bind (f_J0_length_8abf5 p_44) fun p_47 =>
    nm (v2_7 + ((1 : Int32) + p_47)) fun x_52 =>
    f_X2_refusedPlace_7 n0 x_52 (w_7.1, w_7.2.1, (w_7.2.2 + (1 : Int32))) p_18.2
    else none
def f_X2_refusedPlace (w : LT) (w2 : LD) : Option (Int32 × LT × LD) :=
  f_X2_refusedPlace_7 200 (0 : Int32) (w.1, w.2.1, (0 : Int32)) w2
abbrev rmX2_refusedPlace : Room := { frames := 6, cells := 0, slots := 0, locals := 134 }
set_option maxRecDepth 100000 in
set_option maxHeartbeats 4000000 in
theorem c_X2_refusedPlace (l : Launch) (G : EnT) (q : Nat → Nat) (w : LT) (q2 : Nat → Nat) (w2 : LD) (o : Int32 × LT × LD) (h : f_X2_refusedPlace w w2 = some o) : Mi l yX2_refusedPlace rmX2_refusedPlace cX2_refusedPlace 3 (some .int) G true [.ref (q 0), .ref (q2 0)] (cLT G q w ++ cLD G q2 w2) o.1 (cLT G q o.2.1 ++ cLD G q2 o.2.2) := by
  refine Mi_of (by decide) (Nat.le_of_ble_eq_true rfl) ?_
  intro p e s m below meth c A0 F hr hW ls hl
  obtain ⟨hx, hb, hml, hown, hts, hK, hNW, hlocks, hA, hSX⟩ := id F
  have hl : lv_has ls 3 [(0, .ref (q 0)), (1, .ref (q2 0))] := hl
  have hW : Wd G A0 s (cLT G q w ++ cLD G q2 w2) s.heap [] := hW
  show W p l e rmX2_refusedPlace s m ([.ref (q 0), .ref (q2 0)] : List Value).toArray below meth c s.heap [] 0 0 (Qi below G (cLT G q o.2.1 ++ cLD G q2 o.2.2) o.1 A0 ([.ref (q 0), .ref (q2 0)] : List Value).toArray s) (F0 m 0 ls [])
  refine lv_aload_n hx hb dX2_refusedPlace_0 rfl (lv_at hl 0 rfl) ?_
  refine lv_iconst (v := (0 : Int32)) hx hb dX2_refusedPlace_1 (by decide) ?_
  refine x_put F hW 0 rfl fp_X2_59 rfl rfl (Nat.le_of_ble_eq_true rfl) (ws' := cLT G q (w.1, w.2.1, (0 : Int32)) ++ cLD G q2 w2) rfl dX2_refusedPlace_2 (fun H locs hW => ?_)
  refine lv_iconst (v := (0 : Int32)) hx hb dX2_refusedPlace_5 (by decide) ?_
  refine lv_istore_n (lv' := [(2, .int (0 : Int32)), (0, .ref (q 0)), (1, .ref (q2 0))]) hx hb dX2_refusedPlace_6 rfl hl (by decide) rfl (fun ls hl => ?_)
  have L0 : ∀ (n0 : Nat) (v2_7 : Int32) (w_7 : LT) (w2_7 : LD) (H : Heap) (locs : List Loc) (ls : Array Slot), f_X2_refusedPlace_7 n0 v2_7 w_7 w2_7 = some o → Wd G A0 s (cLT G q w_7 ++ cLD G q2 w2_7) H locs → lv_has ls 3 [(2, .int v2_7), (0, .ref (q 0)), (1, .ref (q2 0))] → W p l e rmX2_refusedPlace s m ([.ref (q 0), .ref (q2 0)] : List Value).toArray below meth c H locs 0 0 (Qi below G (cLT G q o.2.1 ++ cLD G q2 o.2.2) o.1 A0 ([.ref (q 0), .ref (q2 0)] : List Value).toArray s) (F0 m 7 ls []) := by
    intro n0
    induction n0 with
    | zero => intro v2_7 w_7 w2_7 H locs ls h; cases (show (none : Option (Int32 × LT × LD)) = some o from h)
    | succ n0 ih0 =>
      intro v2_7 w_7 w2_7 H locs ls h hW hl
      refine lv_iload_n hx hb dX2_refusedPlace_7 rfl (lv_at hl 0 rfl) ?_
      refine lv_aload_n hx hb dX2_refusedPlace_8 rfl (lv_at hl 1 rfl) ?_
      refine x_get F hW 0 rfl fa_X2_15 rfl dX2_refusedPlace_9 ?_
      obtain ⟨ht_12, hf_12⟩ := of_ite h
      refine lv_icmp_ge (tgt := 56) hx hb dX2_refusedPlace_12 (by decide) (fun c_12 => ?_) (fun c_12 => ?_)
      · have h := ht_12 c_12
        refine lv_iconst (v := (-1 : Int32)) hx hb dX2_refusedPlace_56 (by decide) ?_
        obtain rfl := Option.some.inj h
        exact x_reti F hr hW rfl dX2_refusedPlace_57
      · have h := hf_12 c_12
        refine lv_aload_n hx hb dX2_refusedPlace_15 rfl (lv_at hl 1 rfl) ?_
        refine lv_iload_n hx hb dX2_refusedPlace_16 rfl (lv_at hl 0 rfl) ?_
        refine lv_aload_n hx hb dX2_refusedPlace_17 rfl (lv_at hl 2 rfl) ?_
        obtain ⟨p_18, hc_18, h⟩ := of_bind h
        refine x_Vi (av := [.ref (q 0), .int v2_7, .ref (q2 0)]) (As := [.int v2_7, .ref (q2 0)]) F hW (c_X2_comes l G q w_7 v2_7 q2 w2_7 _ hc_18) [0, 1, 2, 3, 4, 5, 6, 7] rfl rfl (by intro q; exact q) cv_X2_62 rfl ⟨_, rfl, rfl⟩ rfl rfl rfl hl (Nat.le_of_ble_eq_true rfl) ⟨Nat.le_of_ble_eq_true rfl, Nat.le_of_ble_eq_true rfl⟩ ⟨rfl, rfl⟩ ⟨Nat.le_of_ble_eq_true rfl, Nat.le_of_ble_eq_true rfl⟩ dX2_refusedPlace_18 rfl [some 0, some 1, some 2, some 3, some 4, some 5, some 6, some 7] rfl (ws' := cLT G q w_7 ++ cLD G q2 p_18.2) rfl (fun H locs hW => ?_)
        obtain ⟨ht_21, hf_21⟩ := of_ite h
        refine lv_if_ne (tgt := 26) hx hb dX2_refusedPlace_21 (by decide) (fun c_21 => ?_) (fun c_21 => ?_)
        · have h := hf_21 c_21
          refine lv_aload_n hx hb dX2_refusedPlace_26 rfl (lv_at hl 1 rfl) ?_
          refine lv_dup hx hb dX2_refusedPlace_27 rfl ?_
          refine x_get F hW 0 rfl fa_X2_59 rfl dX2_refusedPlace_28 ?_
          refine lv_iconst (v := (1 : Int32)) hx hb dX2_refusedPlace_31 (by decide) ?_
          refine lv_iadd hx hb dX2_refusedPlace_32 ?_
          refine x_put F hW 0 rfl fp_X2_59 rfl rfl (Nat.le_of_ble_eq_true rfl) (ws' := cLT G q (w_7.1, w_7.2.1, (w_7.2.2 + (1 : Int32))) ++ cLD G q2 p_18.2) rfl dX2_refusedPlace_33 (fun H locs hW => ?_)
          refine lv_iload_n hx hb dX2_refusedPlace_36 rfl (lv_at hl 0 rfl) ?_
          refine lv_iconst (v := (1 : Int32)) hx hb dX2_refusedPlace_37 (by decide) ?_
          refine lv_aload_n hx hb dX2_refusedPlace_38 rfl (lv_at hl 1 rfl) ?_
          refine x_get F hW 0 rfl fa_X2_9 rfl dX2_refusedPlace_39 ?_
          refine lv_iload_n hx hb dX2_refusedPlace_42 rfl (lv_at hl 0 rfl) ?_
          obtain ⟨g_43, h⟩ := of_guard h
          refine x_iald F hW 1 rfl g_43 dX2_refusedPlace_43 ?_
          obtain ⟨p_44, hc_44, h⟩ := of_bind h
          have hi_p_44 := ix_formBehind hc_44
          refine x_Sr (av := [.int (w_7.1 v2_7.toNatClampNeg)]) F hW (c_X2_formBehind l G (w_7.1 v2_7.toNatClampNeg) _ hc_44) (by intro q; exact q) cs_X2_41 rfl rfl hl (Nat.le_of_ble_eq_true rfl) ⟨Nat.le_of_ble_eq_true rfl, Nat.le_of_ble_eq_true rfl⟩ ⟨rfl, rfl⟩ ⟨Nat.le_of_ble_eq_true rfl, Nat.le_of_ble_eq_true rfl⟩ dX2_refusedPlace_44 (fun H locs hW => ?_)
          obtain ⟨p_47, hc_47, h⟩ := of_bind h
          refine x_Ti (av := [.ref (G.2.2.1 p_44)]) (As := []) F hW (c_J0_length_8abf5 l G p_44 _ hc_47) (by intro q; exact q) hi_p_44 (by decide) cv_X2_48 rfl rfl rfl rfl hl (Nat.le_of_ble_eq_true rfl) ⟨Nat.le_of_ble_eq_true rfl, Nat.le_of_ble_eq_true rfl⟩ ⟨rfl, rfl⟩ ⟨Nat.le_of_ble_eq_true rfl, Nat.le_of_ble_eq_true rfl⟩ dX2_refusedPlace_47 (fun H locs hW => ?_)
          refine lv_iadd hx hb dX2_refusedPlace_50 ?_
          refine lv_iadd hx hb dX2_refusedPlace_51 ?_
          obtain ⟨x_52, e_x_52, h⟩ := of_nm h
          refine x_topi e_x_52 ?_
          refine lv_istore_n (lv' := [(2, .int x_52), (0, .ref (q 0)), (1, .ref (q2 0))]) hx hb dX2_refusedPlace_52 rfl hl (by decide) rfl (fun ls hl => ?_)
          refine lv_goto (tgt := 7) hx hb dX2_refusedPlace_53 (by decide) ?_
          exact ih0 x_52 (w_7.1, w_7.2.1, (w_7.2.2 + (1 : Int32))) p_18.2 _ _ _ h hW (lv_sub hl [0, 1, 2] rfl)
        · have h := ht_21 c_21
          refine lv_iload_n hx hb dX2_refusedPlace_24 rfl (lv_at hl 0 rfl) ?_
          obtain rfl := Option.some.inj h
          exact x_reti F hr hW rfl dX2_refusedPlace_25
  exact L0 200 (0 : Int32) (w.1, w.2.1, (0 : Int32)) w2 _ _ _ h hW (lv_sub hl [0, 1, 2] rfl)
def f_X3_aboveLine_20 (x4 : Int32) (x2 : Int32) (x3 : Int32) (x1 : Int32) (x5 : Int32) (t0_20 : Int32) : Option (Int32) :=
  some (((t0_20 * (x4 - x2)) - (x3 * (x4 - x1))) - (x5 * (x1 - x2)))
def f_X3_aboveLine_19 (x4 : Int32) (x2 : Int32) (x3 : Int32) (x1 : Int32) (x5 : Int32) : Option (Int32) :=
  f_X3_aboveLine_20 x4 x2 x3 x1 x5 (0 : Int32)
def f_X3_aboveLine (w : LD) (x1 : Int32) (x2 : Int32) (x3 : Int32) (x4 : Int32) (x5 : Int32) : Option (Int32) :=
  if x1 < 0 then
    f_X3_aboveLine_19 x4 x2 x3 x1 x5 
    else
    if (20 : Int32) ≤ x1 then
    f_X3_aboveLine_19 x4 x2 x3 x1 x5 
    else
    if inR x1 20 then
    f_X3_aboveLine_20 x4 x2 x3 x1 x5 (w.1 x1.toNatClampNeg)
    else none
abbrev rmX3_aboveLine : Room := { frames := 0, cells := 0, slots := 0, locals := 0 }
set_option maxRecDepth 100000 in
set_option maxHeartbeats 4000000 in
theorem c_X3_aboveLine (l : Launch) (G : EnT) (q : Nat → Nat) (w : LD) (x1 : Int32) (x2 : Int32) (x3 : Int32) (x4 : Int32) (x5 : Int32) (o : Int32) (h : f_X3_aboveLine w x1 x2 x3 x4 x5 = some o) : Mi l yX3_aboveLine rmX3_aboveLine cX3_aboveLine 7 (some .int) G false [.ref (q 0), .int x1, .int x2, .int x3, .int x4, .int x5] (cLD G q w) o (cLD G q w) := by
  refine Mi_of (by decide) (Nat.le_of_ble_eq_true rfl) ?_
  intro p e s m below meth c A0 F hr hW ls hl
  obtain ⟨hx, hb, hml, hown, hts, hK, hNW, hlocks, hA, hSX⟩ := id F
  have hl : lv_has ls 7 [(0, .ref (q 0)), (1, .int x1), (2, .int x2), (3, .int x3), (4, .int x4), (5, .int x5)] := hl
  have hW : Wd G A0 s (cLD G q w) s.heap [] := hW
  show W p l e rmX3_aboveLine s m ([.ref (q 0), .int x1, .int x2, .int x3, .int x4, .int x5] : List Value).toArray below meth c s.heap [] 0 0 (Qi below G (cLD G q w) o A0 ([.ref (q 0), .int x1, .int x2, .int x3, .int x4, .int x5] : List Value).toArray s) (F0 m 0 ls [])
  have J0 : ∀ (t0_20 : Int32) (H : Heap) (locs : List Loc) (ls : Array Slot), f_X3_aboveLine_20 x4 x2 x3 x1 x5 t0_20 = some o → Wd G A0 s (cLD G q w) H locs → lv_has ls 7 [(0, .ref (q 0)), (1, .int x1), (2, .int x2), (3, .int x3), (4, .int x4), (5, .int x5)] → W p l e rmX3_aboveLine s m ([.ref (q 0), .int x1, .int x2, .int x3, .int x4, .int x5] : List Value).toArray below meth c H locs 0 0 (Qi below G (cLD G q w) o A0 ([.ref (q 0), .int x1, .int x2, .int x3, .int x4, .int x5] : List Value).toArray s) (F0 m 20 ls [.int t0_20]) := by
    intro t0_20 H locs ls h hW hl
    refine lv_istore (lv' := [(6, .int t0_20), (0, .ref (q 0)), (1, .int x1), (2, .int x2), (3, .int x3), (4, .int x4), (5, .int x5)]) hx hb dX3_aboveLine_20 hl (by decide) rfl (fun ls hl => ?_)
    refine lv_iload hx hb dX3_aboveLine_22 (lv_at hl 0 rfl) ?_
    refine lv_iload hx hb dX3_aboveLine_24 (lv_at hl 5 rfl) ?_
    refine lv_iload_n hx hb dX3_aboveLine_26 rfl (lv_at hl 3 rfl) ?_
    refine lv_isub hx hb dX3_aboveLine_27 ?_
    refine lv_imul hx hb dX3_aboveLine_28 ?_
    refine lv_iload_n hx hb dX3_aboveLine_29 rfl (lv_at hl 4 rfl) ?_
    refine lv_iload hx hb dX3_aboveLine_30 (lv_at hl 5 rfl) ?_
    refine lv_iload_n hx hb dX3_aboveLine_32 rfl (lv_at hl 2 rfl) ?_
    refine lv_isub hx hb dX3_aboveLine_33 ?_
    refine lv_imul hx hb dX3_aboveLine_34 ?_
    refine lv_isub hx hb dX3_aboveLine_35 ?_
    refine lv_iload hx hb dX3_aboveLine_36 (lv_at hl 6 rfl) ?_
    refine lv_iload_n hx hb dX3_aboveLine_38 rfl (lv_at hl 2 rfl) ?_
    refine lv_iload_n hx hb dX3_aboveLine_39 rfl (lv_at hl 3 rfl) ?_
    refine lv_isub hx hb dX3_aboveLine_40 ?_
    refine lv_imul hx hb dX3_aboveLine_41 ?_
    refine lv_isub hx hb dX3_aboveLine_42 ?_
    obtain rfl := Option.some.inj h
    exact x_reti F hr hW rfl dX3_aboveLine_43
  have J1 : ∀  (H : Heap) (locs : List Loc) (ls : Array Slot), f_X3_aboveLine_19 x4 x2 x3 x1 x5  = some o → Wd G A0 s (cLD G q w) H locs → lv_has ls 7 [(0, .ref (q 0)), (1, .int x1), (2, .int x2), (3, .int x3), (4, .int x4), (5, .int x5)] → W p l e rmX3_aboveLine s m ([.ref (q 0), .int x1, .int x2, .int x3, .int x4, .int x5] : List Value).toArray below meth c H locs 0 0 (Qi below G (cLD G q w) o A0 ([.ref (q 0), .int x1, .int x2, .int x3, .int x4, .int x5] : List Value).toArray s) (F0 m 19 ls []) := by
    intro  H locs ls h hW hl
    refine lv_iconst (v := (0 : Int32)) hx hb dX3_aboveLine_19 (by decide) ?_
    exact J0 (0 : Int32) _ _ _ h hW (lv_sub hl [0, 1, 2, 3, 4, 5] rfl)
  refine lv_iload_n hx hb dX3_aboveLine_0 rfl (lv_at hl 1 rfl) ?_
  obtain ⟨ht_1, hf_1⟩ := of_ite h
  refine lv_if_lt (tgt := 19) hx hb dX3_aboveLine_1 (by decide) (fun c_1 => ?_) (fun c_1 => ?_)
  · have h := ht_1 c_1
    exact J1  _ _ _ h hW (lv_sub hl [0, 1, 2, 3, 4, 5] rfl)
  · have h := hf_1 c_1
    refine lv_iload_n hx hb dX3_aboveLine_4 rfl (lv_at hl 1 rfl) ?_
    refine lv_bipush (v := (20 : Int32)) hx hb dX3_aboveLine_5 (by decide) ?_
    obtain ⟨ht_7, hf_7⟩ := of_ite h
    refine lv_icmp_ge (tgt := 19) hx hb dX3_aboveLine_7 (by decide) (fun c_7 => ?_) (fun c_7 => ?_)
    · have h := ht_7 c_7
      exact J1  _ _ _ h hW (lv_sub hl [0, 1, 2, 3, 4, 5] rfl)
    · have h := hf_7 c_7
      refine lv_aload_n hx hb dX3_aboveLine_10 rfl (lv_at hl 0 rfl) ?_
      refine x_get F hW 0 rfl fa_X3_62 rfl dX3_aboveLine_11 ?_
      refine lv_iload_n hx hb dX3_aboveLine_14 rfl (lv_at hl 1 rfl) ?_
      obtain ⟨g_15, h⟩ := of_guard h
      refine x_iald F hW 1 rfl g_15 dX3_aboveLine_15 ?_
      refine lv_goto (tgt := 20) hx hb dX3_aboveLine_16 (by decide) ?_
      exact J0 (w.1 x1.toNatClampNeg) _ _ _ h hW (lv_sub hl [0, 1, 2, 3, 4, 5] rfl)
