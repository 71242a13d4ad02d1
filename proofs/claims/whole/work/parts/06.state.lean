abbrev LD : Type := (Nat → Int32) × (Nat → Int32) × (Nat → Int32) × (Nat → Int32) × (Nat → Int32) × Int32 × Int32 × Int32 × Int32
abbrev SG : Type := (Nat → Int32) × (Nat → Int32) × Int32 × Int32
abbrev LT : Type := (Nat → Int32) × Int32 × Int32
abbrev TW : Type := LD × LD × SG × SG × (Nat → Int32) × (Nat → Int32) × (Nat → Int32)
abbrev EW : Type := TW × LD × LD × LT × (Nat → Int32) × (Nat → Int32) × Int32 × Int32
abbrev MW : Type := (Nat → Int32) × (Nat → Int32) × (Nat → Int32) × (Nat → Int32) × (Nat → Int32) × (Nat → Int32) × (Nat → Int32) × (Nat → Int32) × (Nat → Int32) × Int32 × Int32 × Int32 × Int32 × Int32
abbrev cLD (G : EnT) (q : Nat → Nat) (w : LD) : va_W := [(q 0, .inr (0, [.ref (q 1), .ref (q 2), .ref (q 3), .ref (q 4), .ref (q 5), .int w.2.2.2.2.2.1, .int w.2.2.2.2.2.2.1, .int w.2.2.2.2.2.2.2.1, .int w.2.2.2.2.2.2.2.2])), (q 1, .inl (G.2.1, 20, .inl w.1)), (q 2, .inl (G.2.1, 8, .inl w.2.1)), (q 3, .inl (G.2.1, 8, .inl w.2.2.1)), (q 4, .inl (G.2.1, 8, .inl w.2.2.2.1)), (q 5, .inl (G.2.1, 8, .inl w.2.2.2.2.1))]
abbrev cSG (G : EnT) (q : Nat → Nat) (w : SG) : va_W := [(q 0, .inr (2, [.ref (q 1), .ref (q 2), .int w.2.2.1, .int w.2.2.2])), (q 1, .inl (G.2.1, 8, .inl w.1)), (q 2, .inl (G.2.1, 8, .inl w.2.1))]
abbrev cLT (G : EnT) (q : Nat → Nat) (w : LT) : va_W := [(q 0, .inr (1, [.ref (q 1), .int w.2.1, .int w.2.2])), (q 1, .inl (G.2.1, 96, .inl w.1))]
abbrev cTW (G : EnT) (q : Nat → Nat) (w : TW) : va_W := [(q 0, .inr (3, [.ref (q 1), .ref (q 7), .ref (q 13), .ref (q 16), .ref (q 19), .ref (q 20), .ref (q 21)])), (q 1, .inr (0, [.ref (q 2), .ref (q 3), .ref (q 4), .ref (q 5), .ref (q 6), .int w.1.2.2.2.2.2.1, .int w.1.2.2.2.2.2.2.1, .int w.1.2.2.2.2.2.2.2.1, .int w.1.2.2.2.2.2.2.2.2])), (q 2, .inl (G.2.1, 20, .inl w.1.1)), (q 3, .inl (G.2.1, 8, .inl w.1.2.1)), (q 4, .inl (G.2.1, 8, .inl w.1.2.2.1)), (q 5, .inl (G.2.1, 8, .inl w.1.2.2.2.1)), (q 6, .inl (G.2.1, 8, .inl w.1.2.2.2.2.1)), (q 7, .inr (0, [.ref (q 8), .ref (q 9), .ref (q 10), .ref (q 11), .ref (q 12), .int w.2.1.2.2.2.2.2.1, .int w.2.1.2.2.2.2.2.2.1, .int w.2.1.2.2.2.2.2.2.2.1, .int w.2.1.2.2.2.2.2.2.2.2])), (q 8, .inl (G.2.1, 20, .inl w.2.1.1)), (q 9, .inl (G.2.1, 8, .inl w.2.1.2.1)), (q 10, .inl (G.2.1, 8, .inl w.2.1.2.2.1)), (q 11, .inl (G.2.1, 8, .inl w.2.1.2.2.2.1)), (q 12, .inl (G.2.1, 8, .inl w.2.1.2.2.2.2.1)), (q 13, .inr (2, [.ref (q 14), .ref (q 15), .int w.2.2.1.2.2.1, .int w.2.2.1.2.2.2])), (q 14, .inl (G.2.1, 8, .inl w.2.2.1.1)), (q 15, .inl (G.2.1, 8, .inl w.2.2.1.2.1)), (q 16, .inr (2, [.ref (q 17), .ref (q 18), .int w.2.2.2.1.2.2.1, .int w.2.2.2.1.2.2.2])), (q 17, .inl (G.2.1, 8, .inl w.2.2.2.1.1)), (q 18, .inl (G.2.1, 8, .inl w.2.2.2.1.2.1)), (q 19, .inl (G.2.1, 8, .inl w.2.2.2.2.1)), (q 20, .inl (G.2.1, 4, .inl w.2.2.2.2.2.1)), (q 21, .inl (G.2.1, 4, .inl w.2.2.2.2.2.2))]
abbrev cEW (G : EnT) (q : Nat → Nat) (w : EW) : va_W := [(q 0, .inr (4, [.ref (q 1), .ref (q 2), .ref (q 23), .ref (q 29), .int w.2.2.2.2.2.2.1, .ref (q 35), .ref (q 37), .int w.2.2.2.2.2.2.2, .ref (q 38)])), (q 1, .inr (3, [.ref (q 2), .ref (q 8), .ref (q 14), .ref (q 17), .ref (q 20), .ref (q 21), .ref (q 22)])), (q 2, .inr (0, [.ref (q 3), .ref (q 4), .ref (q 5), .ref (q 6), .ref (q 7), .int w.1.1.2.2.2.2.2.1, .int w.1.1.2.2.2.2.2.2.1, .int w.1.1.2.2.2.2.2.2.2.1, .int w.1.1.2.2.2.2.2.2.2.2])), (q 3, .inl (G.2.1, 20, .inl w.1.1.1)), (q 4, .inl (G.2.1, 8, .inl w.1.1.2.1)), (q 5, .inl (G.2.1, 8, .inl w.1.1.2.2.1)), (q 6, .inl (G.2.1, 8, .inl w.1.1.2.2.2.1)), (q 7, .inl (G.2.1, 8, .inl w.1.1.2.2.2.2.1)), (q 8, .inr (0, [.ref (q 9), .ref (q 10), .ref (q 11), .ref (q 12), .ref (q 13), .int w.1.2.1.2.2.2.2.2.1, .int w.1.2.1.2.2.2.2.2.2.1, .int w.1.2.1.2.2.2.2.2.2.2.1, .int w.1.2.1.2.2.2.2.2.2.2.2])), (q 9, .inl (G.2.1, 20, .inl w.1.2.1.1)), (q 10, .inl (G.2.1, 8, .inl w.1.2.1.2.1)), (q 11, .inl (G.2.1, 8, .inl w.1.2.1.2.2.1)), (q 12, .inl (G.2.1, 8, .inl w.1.2.1.2.2.2.1)), (q 13, .inl (G.2.1, 8, .inl w.1.2.1.2.2.2.2.1)), (q 14, .inr (2, [.ref (q 15), .ref (q 16), .int w.1.2.2.1.2.2.1, .int w.1.2.2.1.2.2.2])), (q 15, .inl (G.2.1, 8, .inl w.1.2.2.1.1)), (q 16, .inl (G.2.1, 8, .inl w.1.2.2.1.2.1)), (q 17, .inr (2, [.ref (q 18), .ref (q 19), .int w.1.2.2.2.1.2.2.1, .int w.1.2.2.2.1.2.2.2])), (q 18, .inl (G.2.1, 8, .inl w.1.2.2.2.1.1)), (q 19, .inl (G.2.1, 8, .inl w.1.2.2.2.1.2.1)), (q 20, .inl (G.2.1, 8, .inl w.1.2.2.2.2.1)), (q 21, .inl (G.2.1, 4, .inl w.1.2.2.2.2.2.1)), (q 22, .inl (G.2.1, 4, .inl w.1.2.2.2.2.2.2)), (q 23, .inr (0, [.ref (q 24), .ref (q 25), .ref (q 26), .ref (q 27), .ref (q 28), .int w.2.1.2.2.2.2.2.1, .int w.2.1.2.2.2.2.2.2.1, .int w.2.1.2.2.2.2.2.2.2.1, .int w.2.1.2.2.2.2.2.2.2.2])), (q 24, .inl (G.2.1, 20, .inl w.2.1.1)), (q 25, .inl (G.2.1, 8, .inl w.2.1.2.1)), (q 26, .inl (G.2.1, 8, .inl w.2.1.2.2.1)), (q 27, .inl (G.2.1, 8, .inl w.2.1.2.2.2.1)), (q 28, .inl (G.2.1, 8, .inl w.2.1.2.2.2.2.1)), (q 29, .inr (0, [.ref (q 30), .ref (q 31), .ref (q 32), .ref (q 33), .ref (q 34), .int w.2.2.1.2.2.2.2.2.1, .int w.2.2.1.2.2.2.2.2.2.1, .int w.2.2.1.2.2.2.2.2.2.2.1, .int w.2.2.1.2.2.2.2.2.2.2.2])), (q 30, .inl (G.2.1, 20, .inl w.2.2.1.1)), (q 31, .inl (G.2.1, 8, .inl w.2.2.1.2.1)), (q 32, .inl (G.2.1, 8, .inl w.2.2.1.2.2.1)), (q 33, .inl (G.2.1, 8, .inl w.2.2.1.2.2.2.1)), (q 34, .inl (G.2.1, 8, .inl w.2.2.1.2.2.2.2.1)), (q 35, .inr (1, [.ref (q 36), .int w.2.2.2.1.2.1, .int w.2.2.2.1.2.2])), (q 36, .inl (G.2.1, 96, .inl w.2.2.2.1.1)), (q 37, .inl (G.2.1, 16, .inl w.2.2.2.2.1)), (q 38, .inl (G.2.1, 7, .inl w.2.2.2.2.2.1))]
abbrev cMW (G : EnT) (q : Nat → Nat) (w : MW) : va_W := [(q 0, .inr (5, [.ref (q 1), .ref (q 2), .ref (q 3), .ref (q 4), .int w.2.2.2.2.2.2.2.2.2.1, .ref (q 5), .ref (q 6), .ref (q 7), .int w.2.2.2.2.2.2.2.2.2.2.1, .int w.2.2.2.2.2.2.2.2.2.2.2.1, .int w.2.2.2.2.2.2.2.2.2.2.2.2.1, .ref (q 8), .ref (q 9), .int w.2.2.2.2.2.2.2.2.2.2.2.2.2])), (q 1, .inl (G.2.1, 71, .inl w.1)), (q 2, .inl (G.2.1, 71, .inl w.2.1)), (q 3, .inl (G.2.1, 71, .inl w.2.2.1)), (q 4, .inl (G.2.1, 71, .inl w.2.2.2.1)), (q 5, .inl (G.2.1, 96, .inl w.2.2.2.2.1)), (q 6, .inl (G.2.1, 16, .inl w.2.2.2.2.2.1)), (q 7, .inl (G.2.1, 7, .inl w.2.2.2.2.2.2.1)), (q 8, .inl (G.2.1, 3, .inl w.2.2.2.2.2.2.2.1)), (q 9, .inl (G.2.1, 7, .inl w.2.2.2.2.2.2.2.2.1))]
abbrev cAR (G : EnT) (n : Nat) (q : Nat → Nat) (f : Nat → Int32) : va_W := [(q 0, .inl (G.2.1, n, .inl f))]
theorem uw_X1 : ∀ w ∈ u_ws RX1 TX1 9, w ∈ GT := by
  intro w hw
  obtain ⟨k, hk, rfl⟩ := List.mem_map.mp hw
  have hk := List.mem_range.mp hk
  match k, hk with
  | 0, _ => exact wd_68
  | 1, _ => exact wd_70
  | 2, _ => exact wd_72
  | 3, _ => exact wd_74
  | 4, _ => exact wd_76
  | 5, _ => exact wd_78
  | 6, _ => exact wd_80
  | 7, _ => exact wd_82
  | 8, _ => exact wd_84
  | k + 9, hk => exact absurd hk (by omega)
theorem uw_X2 : ∀ w ∈ u_ws RX2 TX2 3, w ∈ GT := by
  intro w hw
  obtain ⟨k, hk, rfl⟩ := List.mem_map.mp hw
  have hk := List.mem_range.mp hk
  match k, hk with
  | 0, _ => exact wd_146
  | 1, _ => exact wd_148
  | 2, _ => exact wd_150
  | k + 3, hk => exact absurd hk (by omega)
theorem uw_X3 : ∀ w ∈ u_ws RX3 TX3 4, w ∈ GT := by
  intro w hw
  obtain ⟨k, hk, rfl⟩ := List.mem_map.mp hw
  have hk := List.mem_range.mp hk
  match k, hk with
  | 0, _ => exact wd_101
  | 1, _ => exact wd_103
  | 2, _ => exact wd_105
  | 3, _ => exact wd_107
  | k + 4, hk => exact absurd hk (by omega)
theorem uw_X4 : ∀ w ∈ u_ws RX4 TX4 7, w ∈ GT := by
  intro w hw
  obtain ⟨k, hk, rfl⟩ := List.mem_map.mp hw
  have hk := List.mem_range.mp hk
  match k, hk with
  | 0, _ => exact wd_118
  | 1, _ => exact wd_120
  | 2, _ => exact wd_122
  | 3, _ => exact wd_124
  | 4, _ => exact wd_126
  | 5, _ => exact wd_128
  | 6, _ => exact wd_130
  | k + 7, hk => exact absurd hk (by omega)
theorem uw_X5 : ∀ w ∈ u_ws RX5 TX5 9, w ∈ GT := by
  intro w hw
  obtain ⟨k, hk, rfl⟩ := List.mem_map.mp hw
  have hk := List.mem_range.mp hk
  match k, hk with
  | 0, _ => exact wd_162
  | 1, _ => exact wd_164
  | 2, _ => exact wd_166
  | 3, _ => exact wd_168
  | 4, _ => exact wd_170
  | 5, _ => exact wd_172
  | 6, _ => exact wd_174
  | 7, _ => exact wd_176
  | 8, _ => exact wd_178
  | k + 9, hk => exact absurd hk (by omega)
theorem uw_X6 : ∀ w ∈ u_ws RX6 TX6 14, w ∈ GT := by
  intro w hw
  obtain ⟨k, hk, rfl⟩ := List.mem_map.mp hw
  have hk := List.mem_range.mp hk
  match k, hk with
  | 0, _ => exact wd_884
  | 1, _ => exact wd_886
  | 2, _ => exact wd_888
  | 3, _ => exact wd_890
  | 4, _ => exact wd_892
  | 5, _ => exact wd_894
  | 6, _ => exact wd_896
  | 7, _ => exact wd_898
  | 8, _ => exact wd_900
  | 9, _ => exact wd_902
  | 10, _ => exact wd_904
  | 11, _ => exact wd_906
  | 12, _ => exact wd_908
  | 13, _ => exact wd_910
  | k + 14, hk => exact absurd hk (by omega)
theorem fa_X5_10 : FA 4 RX5 10 0 := ⟨RX5, TX5, 9, tyX5, rfl, by decide, uw_X5, wd_153, rfl, tyX5_ok, nmX5⟩
theorem fa_X5_16 : FA 3 RX5 16 0 := ⟨RX4, TX4, 7, tyX4, rfl, by decide, uw_X4, wd_111, rfl, tyX4_ok, nmX4⟩
theorem fa_X5_20 : FA 4 RX5 20 1 := ⟨RX5, TX5, 9, tyX5, rfl, by decide, uw_X5, wd_154, rfl, tyX5_ok, nmX5⟩
theorem fa_X5_24 : FA 4 RX5 24 2 := ⟨RX5, TX5, 9, tyX5, rfl, by decide, uw_X5, wd_155, rfl, tyX5_ok, nmX5⟩
theorem fa_X5_27 : FA 4 RX5 27 3 := ⟨RX5, TX5, 9, tyX5, rfl, by decide, uw_X5, wd_156, rfl, tyX5_ok, nmX5⟩
theorem fa_X5_33 : FA 4 RX5 33 5 := ⟨RX5, TX5, 9, tyX5, rfl, by decide, uw_X5, wd_158, rfl, tyX5_ok, nmX5⟩
theorem fa_X5_37 : FA 4 RX5 37 6 := ⟨RX5, TX5, 9, tyX5, rfl, by decide, uw_X5, wd_159, rfl, tyX5_ok, nmX5⟩
theorem fa_X5_41 : FA 4 RX5 41 8 := ⟨RX5, TX5, 9, tyX5, rfl, by decide, uw_X5, wd_161, rfl, tyX5_ok, nmX5⟩
theorem fa_X5_67 : FA 1 RX5 67 2 := ⟨RX2, TX2, 3, tyX2, rfl, by decide, uw_X2, wd_144, rfl, tyX2_ok, nmX2⟩
theorem fp_X5_67 : FP 1 RX5 67 2 .int := ⟨RX2, TX2, 3, tyX2, rfl, by decide, uw_X2, wd_144, rfl, tyX2_ok, nmX2, rfl, by decide +kernel⟩
theorem fa_X5_78 : FA 0 RX5 78 1 := ⟨RX1, TX1, 9, tyX1, rfl, by decide, uw_X1, wd_42, rfl, tyX1_ok, nmX1⟩
theorem fa_X5_81 : FA 0 RX5 81 2 := ⟨RX1, TX1, 9, tyX1, rfl, by decide, uw_X1, wd_45, rfl, tyX1_ok, nmX1⟩
theorem fa_X5_84 : FA 0 RX5 84 3 := ⟨RX1, TX1, 9, tyX1, rfl, by decide, uw_X1, wd_49, rfl, tyX1_ok, nmX1⟩
theorem fa_X5_87 : FA 0 RX5 87 4 := ⟨RX1, TX1, 9, tyX1, rfl, by decide, uw_X1, wd_52, rfl, tyX1_ok, nmX1⟩
theorem fa_X5_105 : FA 0 RX5 105 0 := ⟨RX1, TX1, 9, tyX1, rfl, by decide, uw_X1, wd_38, rfl, tyX1_ok, nmX1⟩
theorem fa_X5_125 : FA 0 RX5 125 7 := ⟨RX1, TX1, 9, tyX1, rfl, by decide, uw_X1, wd_64, rfl, tyX1_ok, nmX1⟩
theorem fp_X5_125 : FP 0 RX5 125 7 .int := ⟨RX1, TX1, 9, tyX1, rfl, by decide, uw_X1, wd_64, rfl, tyX1_ok, nmX1, rfl, by decide +kernel⟩
theorem fa_X5_233 : FA 4 RX5 233 7 := ⟨RX5, TX5, 9, tyX5, rfl, by decide, uw_X5, wd_160, rfl, tyX5_ok, nmX5⟩
theorem fp_X5_233 : FP 4 RX5 233 7 .int := ⟨RX5, TX5, 9, tyX5, rfl, by decide, uw_X5, wd_160, rfl, tyX5_ok, nmX5, rfl, by decide +kernel⟩
theorem fa_X5_251 : FA 4 RX5 251 4 := ⟨RX5, TX5, 9, tyX5, rfl, by decide, uw_X5, wd_157, rfl, tyX5_ok, nmX5⟩
theorem fp_X5_251 : FP 4 RX5 251 4 .boolean := ⟨RX5, TX5, 9, tyX5, rfl, by decide, uw_X5, wd_157, rfl, tyX5_ok, nmX5, rfl, by decide +kernel⟩
theorem fa_X5_255 : FA 0 RX5 255 8 := ⟨RX1, TX1, 9, tyX1, rfl, by decide, uw_X1, wd_67, rfl, tyX1_ok, nmX1⟩
theorem fp_X5_255 : FP 0 RX5 255 8 .int := ⟨RX1, TX1, 9, tyX1, rfl, by decide, uw_X1, wd_67, rfl, tyX1_ok, nmX1, rfl, by decide +kernel⟩
theorem fa_X5_258 : FA 0 RX5 258 5 := ⟨RX1, TX1, 9, tyX1, rfl, by decide, uw_X1, wd_58, rfl, tyX1_ok, nmX1⟩
theorem fp_X5_258 : FP 0 RX5 258 5 .int := ⟨RX1, TX1, 9, tyX1, rfl, by decide, uw_X1, wd_58, rfl, tyX1_ok, nmX1, rfl, by decide +kernel⟩
theorem fa_X5_267 : FA 1 RX5 267 1 := ⟨RX2, TX2, 3, tyX2, rfl, by decide, uw_X2, wd_143, rfl, tyX2_ok, nmX2⟩
theorem fp_X5_267 : FP 1 RX5 267 1 .int := ⟨RX2, TX2, 3, tyX2, rfl, by decide, uw_X2, wd_143, rfl, tyX2_ok, nmX2, rfl, by decide +kernel⟩
theorem fa_X1_9 : FA 0 RX1 9 0 := ⟨RX1, TX1, 9, tyX1, rfl, by decide, uw_X1, wd_37, rfl, tyX1_ok, nmX1⟩
theorem fa_X1_15 : FA 0 RX1 15 1 := ⟨RX1, TX1, 9, tyX1, rfl, by decide, uw_X1, wd_41, rfl, tyX1_ok, nmX1⟩
theorem fa_X1_18 : FA 0 RX1 18 2 := ⟨RX1, TX1, 9, tyX1, rfl, by decide, uw_X1, wd_44, rfl, tyX1_ok, nmX1⟩
theorem fa_X1_21 : FA 0 RX1 21 3 := ⟨RX1, TX1, 9, tyX1, rfl, by decide, uw_X1, wd_47, rfl, tyX1_ok, nmX1⟩
theorem fa_X1_24 : FA 0 RX1 24 4 := ⟨RX1, TX1, 9, tyX1, rfl, by decide, uw_X1, wd_51, rfl, tyX1_ok, nmX1⟩
theorem fa_X1_33 : FA 0 RX1 33 5 := ⟨RX1, TX1, 9, tyX1, rfl, by decide, uw_X1, wd_54, rfl, tyX1_ok, nmX1⟩
theorem fp_X1_33 : FP 0 RX1 33 5 .int := ⟨RX1, TX1, 9, tyX1, rfl, by decide, uw_X1, wd_54, rfl, tyX1_ok, nmX1, rfl, by decide +kernel⟩
theorem fa_X1_37 : FA 0 RX1 37 6 := ⟨RX1, TX1, 9, tyX1, rfl, by decide, uw_X1, wd_59, rfl, tyX1_ok, nmX1⟩
theorem fp_X1_37 : FP 0 RX1 37 6 .int := ⟨RX1, TX1, 9, tyX1, rfl, by decide, uw_X1, wd_59, rfl, tyX1_ok, nmX1, rfl, by decide +kernel⟩
theorem fa_X1_40 : FA 0 RX1 40 7 := ⟨RX1, TX1, 9, tyX1, rfl, by decide, uw_X1, wd_61, rfl, tyX1_ok, nmX1⟩
theorem fp_X1_40 : FP 0 RX1 40 7 .int := ⟨RX1, TX1, 9, tyX1, rfl, by decide, uw_X1, wd_61, rfl, tyX1_ok, nmX1, rfl, by decide +kernel⟩
theorem fa_X1_43 : FA 0 RX1 43 8 := ⟨RX1, TX1, 9, tyX1, rfl, by decide, uw_X1, wd_66, rfl, tyX1_ok, nmX1⟩
theorem fp_X1_43 : FP 0 RX1 43 8 .int := ⟨RX1, TX1, 9, tyX1, rfl, by decide, uw_X1, wd_66, rfl, tyX1_ok, nmX1, rfl, by decide +kernel⟩
theorem fa_X2_9 : FA 1 RX2 9 0 := ⟨RX2, TX2, 3, tyX2, rfl, by decide, uw_X2, wd_141, rfl, tyX2_ok, nmX2⟩
theorem fa_X2_15 : FA 1 RX2 15 1 := ⟨RX2, TX2, 3, tyX2, rfl, by decide, uw_X2, wd_142, rfl, tyX2_ok, nmX2⟩
theorem fp_X2_15 : FP 1 RX2 15 1 .int := ⟨RX2, TX2, 3, tyX2, rfl, by decide, uw_X2, wd_142, rfl, tyX2_ok, nmX2, rfl, by decide +kernel⟩
theorem fa_X2_59 : FA 1 RX2 59 2 := ⟨RX2, TX2, 3, tyX2, rfl, by decide, uw_X2, wd_145, rfl, tyX2_ok, nmX2⟩
theorem fp_X2_59 : FP 1 RX2 59 2 .int := ⟨RX2, TX2, 3, tyX2, rfl, by decide, uw_X2, wd_145, rfl, tyX2_ok, nmX2, rfl, by decide +kernel⟩
theorem fa_X2_78 : FA 0 RX2 78 5 := ⟨RX1, TX1, 9, tyX1, rfl, by decide, uw_X1, wd_56, rfl, tyX1_ok, nmX1⟩
theorem fp_X2_78 : FP 0 RX2 78 5 .int := ⟨RX1, TX1, 9, tyX1, rfl, by decide, uw_X1, wd_56, rfl, tyX1_ok, nmX1, rfl, by decide +kernel⟩
theorem fa_X2_101 : FA 0 RX2 101 7 := ⟨RX1, TX1, 9, tyX1, rfl, by decide, uw_X1, wd_63, rfl, tyX1_ok, nmX1⟩
theorem fp_X2_101 : FP 0 RX2 101 7 .int := ⟨RX1, TX1, 9, tyX1, rfl, by decide, uw_X1, wd_63, rfl, tyX1_ok, nmX1, rfl, by decide +kernel⟩
theorem fa_X3_11 : FA 2 RX3 11 0 := ⟨RX3, TX3, 4, tyX3, rfl, by decide, uw_X3, wd_94, rfl, tyX3_ok, nmX3⟩
theorem fa_X3_17 : FA 2 RX3 17 1 := ⟨RX3, TX3, 4, tyX3, rfl, by decide, uw_X3, wd_96, rfl, tyX3_ok, nmX3⟩
theorem fa_X3_27 : FA 0 RX3 27 5 := ⟨RX1, TX1, 9, tyX1, rfl, by decide, uw_X1, wd_55, rfl, tyX1_ok, nmX1⟩
theorem fp_X3_27 : FP 0 RX3 27 5 .int := ⟨RX1, TX1, 9, tyX1, rfl, by decide, uw_X1, wd_55, rfl, tyX1_ok, nmX1, rfl, by decide +kernel⟩
theorem fa_X3_31 : FA 2 RX3 31 3 := ⟨RX3, TX3, 4, tyX3, rfl, by decide, uw_X3, wd_100, rfl, tyX3_ok, nmX3⟩
theorem fp_X3_31 : FP 2 RX3 31 3 .int := ⟨RX3, TX3, 4, tyX3, rfl, by decide, uw_X3, wd_100, rfl, tyX3_ok, nmX3, rfl, by decide +kernel⟩
theorem fa_X3_36 : FA 2 RX3 36 2 := ⟨RX3, TX3, 4, tyX3, rfl, by decide, uw_X3, wd_98, rfl, tyX3_ok, nmX3⟩
theorem fp_X3_36 : FP 2 RX3 36 2 .int := ⟨RX3, TX3, 4, tyX3, rfl, by decide, uw_X3, wd_98, rfl, tyX3_ok, nmX3, rfl, by decide +kernel⟩
theorem fa_X3_39 : FA 0 RX3 39 3 := ⟨RX1, TX1, 9, tyX1, rfl, by decide, uw_X1, wd_48, rfl, tyX1_ok, nmX1⟩
theorem fa_X3_55 : FA 0 RX3 55 7 := ⟨RX1, TX1, 9, tyX1, rfl, by decide, uw_X1, wd_62, rfl, tyX1_ok, nmX1⟩
theorem fp_X3_55 : FP 0 RX3 55 7 .int := ⟨RX1, TX1, 9, tyX1, rfl, by decide, uw_X1, wd_62, rfl, tyX1_ok, nmX1, rfl, by decide +kernel⟩
theorem fa_X3_62 : FA 0 RX3 62 0 := ⟨RX1, TX1, 9, tyX1, rfl, by decide, uw_X1, wd_39, rfl, tyX1_ok, nmX1⟩
theorem fa_X4_12 : FA 3 RX4 12 0 := ⟨RX4, TX4, 7, tyX4, rfl, by decide, uw_X4, wd_110, rfl, tyX4_ok, nmX4⟩
theorem fa_X4_18 : FA 3 RX4 18 1 := ⟨RX4, TX4, 7, tyX4, rfl, by decide, uw_X4, wd_112, rfl, tyX4_ok, nmX4⟩
theorem fa_X4_24 : FA 3 RX4 24 2 := ⟨RX4, TX4, 7, tyX4, rfl, by decide, uw_X4, wd_113, rfl, tyX4_ok, nmX4⟩
theorem fa_X4_28 : FA 3 RX4 28 3 := ⟨RX4, TX4, 7, tyX4, rfl, by decide, uw_X4, wd_114, rfl, tyX4_ok, nmX4⟩
theorem fa_X4_31 : FA 3 RX4 31 4 := ⟨RX4, TX4, 7, tyX4, rfl, by decide, uw_X4, wd_115, rfl, tyX4_ok, nmX4⟩
theorem fa_X4_35 : FA 3 RX4 35 5 := ⟨RX4, TX4, 7, tyX4, rfl, by decide, uw_X4, wd_116, rfl, tyX4_ok, nmX4⟩
theorem fa_X4_38 : FA 3 RX4 38 6 := ⟨RX4, TX4, 7, tyX4, rfl, by decide, uw_X4, wd_117, rfl, tyX4_ok, nmX4⟩
theorem fa_X4_77 : FA 0 RX4 77 4 := ⟨RX1, TX1, 9, tyX1, rfl, by decide, uw_X1, wd_53, rfl, tyX1_ok, nmX1⟩
theorem fa_X4_90 : FA 2 RX4 90 1 := ⟨RX3, TX3, 4, tyX3, rfl, by decide, uw_X3, wd_97, rfl, tyX3_ok, nmX3⟩
theorem fa_X4_93 : FA 2 RX4 93 2 := ⟨RX3, TX3, 4, tyX3, rfl, by decide, uw_X3, wd_99, rfl, tyX3_ok, nmX3⟩
theorem fp_X4_93 : FP 2 RX4 93 2 .int := ⟨RX3, TX3, 4, tyX3, rfl, by decide, uw_X3, wd_99, rfl, tyX3_ok, nmX3, rfl, by decide +kernel⟩
theorem fa_X4_97 : FA 0 RX4 97 3 := ⟨RX1, TX1, 9, tyX1, rfl, by decide, uw_X1, wd_50, rfl, tyX1_ok, nmX1⟩
theorem fa_X4_100 : FA 2 RX4 100 0 := ⟨RX3, TX3, 4, tyX3, rfl, by decide, uw_X3, wd_95, rfl, tyX3_ok, nmX3⟩
theorem fa_X4_107 : FA 0 RX4 107 0 := ⟨RX1, TX1, 9, tyX1, rfl, by decide, uw_X1, wd_40, rfl, tyX1_ok, nmX1⟩
theorem fa_X4_114 : FA 0 RX4 114 5 := ⟨RX1, TX1, 9, tyX1, rfl, by decide, uw_X1, wd_57, rfl, tyX1_ok, nmX1⟩
theorem fp_X4_114 : FP 0 RX4 114 5 .int := ⟨RX1, TX1, 9, tyX1, rfl, by decide, uw_X1, wd_57, rfl, tyX1_ok, nmX1, rfl, by decide +kernel⟩
theorem fa_X4_140 : FA 0 RX4 140 6 := ⟨RX1, TX1, 9, tyX1, rfl, by decide, uw_X1, wd_60, rfl, tyX1_ok, nmX1⟩
theorem fp_X4_140 : FP 0 RX4 140 6 .int := ⟨RX1, TX1, 9, tyX1, rfl, by decide, uw_X1, wd_60, rfl, tyX1_ok, nmX1, rfl, by decide +kernel⟩
theorem fa_X4_169 : FA 0 RX4 169 7 := ⟨RX1, TX1, 9, tyX1, rfl, by decide, uw_X1, wd_65, rfl, tyX1_ok, nmX1⟩
theorem fp_X4_169 : FP 0 RX4 169 7 .int := ⟨RX1, TX1, 9, tyX1, rfl, by decide, uw_X1, wd_65, rfl, tyX1_ok, nmX1, rfl, by decide +kernel⟩
theorem fa_X4_184 : FA 0 RX4 184 1 := ⟨RX1, TX1, 9, tyX1, rfl, by decide, uw_X1, wd_43, rfl, tyX1_ok, nmX1⟩
theorem fa_X4_187 : FA 0 RX4 187 2 := ⟨RX1, TX1, 9, tyX1, rfl, by decide, uw_X1, wd_46, rfl, tyX1_ok, nmX1⟩
theorem fa_X6_9 : FA 5 RX6 9 0 := ⟨RX6, TX6, 14, tyX6, rfl, by decide, uw_X6, wd_870, rfl, tyX6_ok, nmX6⟩
theorem fa_X6_13 : FA 5 RX6 13 1 := ⟨RX6, TX6, 14, tyX6, rfl, by decide, uw_X6, wd_871, rfl, tyX6_ok, nmX6⟩
theorem fa_X6_16 : FA 5 RX6 16 2 := ⟨RX6, TX6, 14, tyX6, rfl, by decide, uw_X6, wd_872, rfl, tyX6_ok, nmX6⟩
theorem fa_X6_19 : FA 5 RX6 19 3 := ⟨RX6, TX6, 14, tyX6, rfl, by decide, uw_X6, wd_873, rfl, tyX6_ok, nmX6⟩
theorem fa_X6_22 : FA 5 RX6 22 5 := ⟨RX6, TX6, 14, tyX6, rfl, by decide, uw_X6, wd_875, rfl, tyX6_ok, nmX6⟩
theorem fa_X6_25 : FA 5 RX6 25 6 := ⟨RX6, TX6, 14, tyX6, rfl, by decide, uw_X6, wd_876, rfl, tyX6_ok, nmX6⟩
theorem fa_X6_28 : FA 5 RX6 28 7 := ⟨RX6, TX6, 14, tyX6, rfl, by decide, uw_X6, wd_877, rfl, tyX6_ok, nmX6⟩
theorem fa_X6_31 : FA 5 RX6 31 11 := ⟨RX6, TX6, 14, tyX6, rfl, by decide, uw_X6, wd_881, rfl, tyX6_ok, nmX6⟩
theorem fa_X6_34 : FA 5 RX6 34 12 := ⟨RX6, TX6, 14, tyX6, rfl, by decide, uw_X6, wd_882, rfl, tyX6_ok, nmX6⟩
theorem fa_X6_93 : FA 5 RX6 93 8 := ⟨RX6, TX6, 14, tyX6, rfl, by decide, uw_X6, wd_878, rfl, tyX6_ok, nmX6⟩
theorem fp_X6_93 : FP 5 RX6 93 8 .int := ⟨RX6, TX6, 14, tyX6, rfl, by decide, uw_X6, wd_878, rfl, tyX6_ok, nmX6, rfl, by decide +kernel⟩
theorem fa_X6_97 : FA 5 RX6 97 10 := ⟨RX6, TX6, 14, tyX6, rfl, by decide, uw_X6, wd_880, rfl, tyX6_ok, nmX6⟩
theorem fp_X6_97 : FP 5 RX6 97 10 .int := ⟨RX6, TX6, 14, tyX6, rfl, by decide, uw_X6, wd_880, rfl, tyX6_ok, nmX6, rfl, by decide +kernel⟩
theorem fa_X6_197 : FA 5 RX6 197 9 := ⟨RX6, TX6, 14, tyX6, rfl, by decide, uw_X6, wd_879, rfl, tyX6_ok, nmX6⟩
theorem fp_X6_197 : FP 5 RX6 197 9 .int := ⟨RX6, TX6, 14, tyX6, rfl, by decide, uw_X6, wd_879, rfl, tyX6_ok, nmX6, rfl, by decide +kernel⟩
theorem fa_X6_203 : FA 5 RX6 203 13 := ⟨RX6, TX6, 14, tyX6, rfl, by decide, uw_X6, wd_883, rfl, tyX6_ok, nmX6⟩
theorem fp_X6_203 : FP 5 RX6 203 13 .int := ⟨RX6, TX6, 14, tyX6, rfl, by decide, uw_X6, wd_883, rfl, tyX6_ok, nmX6, rfl, by decide +kernel⟩
theorem fa_X6_215 : FA 5 RX6 215 4 := ⟨RX6, TX6, 14, tyX6, rfl, by decide, uw_X6, wd_874, rfl, tyX6_ok, nmX6⟩
theorem fp_X6_215 : FP 5 RX6 215 4 .boolean := ⟨RX6, TX6, 14, tyX6, rfl, by decide, uw_X6, wd_874, rfl, tyX6_ok, nmX6, rfl, by decide +kernel⟩
theorem cv_X5_44 : CV RX5 44 yX5_refuse cX5_refuse 2 (some .int) 1 := ⟨wd_185, wd_187, wp_0, wd_1, wd_188, by decide +kernel, by decide +kernel, by decide +kernel⟩
theorem cv_X5_48 : CV RX5 48 yX2_isFull cX2_isFull 1 (some .boolean) 0 := ⟨wd_189, wd_190, wd_191, wd_5, wd_192, by decide +kernel, by decide +kernel, by decide +kernel⟩
theorem cv_X5_52 : CV RX5 52 yX2_add cX2_add 2 (some .int) 1 := ⟨wd_193, wd_194, wd_195, wd_5, wd_196, by decide +kernel, by decide +kernel, by decide +kernel⟩
theorem cv_X5_55 : CV RX5 55 yX2_brokenPlace cX2_brokenPlace 4 (some .int) 0 := ⟨wd_202, wd_203, wd_204, wd_5, wd_205, by decide +kernel, by decide +kernel, by decide +kernel⟩
theorem cv_X5_59 : CV RX5 59 yX1_become cX1_become 2 none 1 := ⟨wd_329, wd_330, wd_331, wd_3, wd_332, by decide +kernel, by decide +kernel, by decide +kernel⟩
theorem cv_X5_63 : CV RX5 63 yX2_refusedPlace cX2_refusedPlace 3 (some .int) 1 := ⟨wd_336, wd_337, wd_338, wd_5, wd_339, by decide +kernel, by decide +kernel, by decide +kernel⟩
theorem cv_X5_71 : CV RX5 71 yX2_forget cX2_forget 1 none 0 := ⟨wd_405, wd_406, wd_407, wd_5, wd_408, by decide +kernel, by decide +kernel, by decide +kernel⟩
theorem cv_X5_74 : CV RX5 74 yX1_isHouse cX1_isHouse 2 (some .boolean) 1 := ⟨wd_414, wd_372, wd_373, wd_3, wd_374, by decide +kernel, by decide +kernel, by decide +kernel⟩
theorem cv_X5_90 : CV RX5 90 yX1_isCalled cX1_isCalled 2 (some .boolean) 1 := ⟨wd_415, wd_416, wd_417, wd_3, wd_418, by decide +kernel, by decide +kernel, by decide +kernel⟩
theorem cv_X5_93 : CV RX5 93 yX1_isLit cX1_isLit 2 (some .boolean) 1 := ⟨wd_419, wd_393, wd_394, wd_3, wd_395, by decide +kernel, by decide +kernel, by decide +kernel⟩
theorem cv_X5_96 : CV RX5 96 yX1_eyeOf cX1_eyeOf 2 (some .int) 1 := ⟨wd_420, wd_421, wd_422, wd_3, wd_423, by decide +kernel, by decide +kernel, by decide +kernel⟩
theorem cv_X5_99 : CV RX5 99 yX1_burnsOf cX1_burnsOf 2 (some .int) 1 := ⟨wd_427, wd_428, wd_429, wd_3, wd_430, by decide +kernel, by decide +kernel, by decide +kernel⟩
theorem cs_X5_102 : CS RX5 102 yX1_isCell cX1_isCell 1 (some .boolean) 1 := ⟨wd_435, wd_357, wd_3, wd_358, by decide +kernel, by decide +kernel, by decide +kernel⟩
theorem cs_X5_108 : CS RX5 108 yX5_outside cX5_outside 3 (some .int) 3 := ⟨wd_440, wd_441, wd_1, wd_442, by decide +kernel, by decide +kernel, by decide +kernel⟩
theorem cv_X5_112 : CV RX5 112 yX1_putHeight cX1_putHeight 3 (some .boolean) 2 := ⟨wd_443, wd_353, wd_354, wd_3, wd_355, by decide +kernel, by decide +kernel, by decide +kernel⟩
theorem cv_X5_116 : CV RX5 116 yX1_putHouse cX1_putHouse 3 (some .boolean) 2 := ⟨wd_448, wd_368, wd_369, wd_3, wd_370, by decide +kernel, by decide +kernel, by decide +kernel⟩
theorem cv_X5_119 : CV RX5 119 yX1_addWicks cX1_addWicks 3 (some .boolean) 2 := ⟨wd_453, wd_376, wd_377, wd_3, wd_378, by decide +kernel, by decide +kernel, by decide +kernel⟩
theorem cv_X5_122 : CV RX5 122 yX1_switchCall cX1_switchCall 2 (some .boolean) 1 := ⟨wd_458, wd_381, wd_382, wd_3, wd_383, by decide +kernel, by decide +kernel, by decide +kernel⟩
theorem cv_X5_128 : CV RX5 128 yX1_goBy cX1_goBy 3 (some .boolean) 1 := ⟨wd_471, wd_385, wd_386, wd_3, wd_387, by decide +kernel, by decide +kernel, by decide +kernel⟩
theorem cv_X5_131 : CV RX5 131 yX4_hangingBehind cX4_hangingBehind 2 (some .int) 1 := ⟨wd_472, wd_473, wd_474, wd_2, wd_475, by decide +kernel, by decide +kernel, by decide +kernel⟩
theorem cs_X5_134 : CS RX5 134 yJ6_bitCount_0f7a4 cJ6_bitCount_0f7a4 1 (some .int) 1 := ⟨wd_519, wd_520, wd_15, wd_521, by decide +kernel, by decide +kernel, by decide +kernel⟩
theorem cv_X5_139 : CV RX5 139 yX4_litBehind cX4_litBehind 2 (some .int) 1 := ⟨wd_529, wd_530, wd_531, wd_2, wd_532, by decide +kernel, by decide +kernel, by decide +kernel⟩
theorem cv_X5_142 : CV RX5 142 yX4_wicksBehind cX4_wicksBehind 3 (some .int) 2 := ⟨wd_541, wd_542, wd_543, wd_2, wd_544, by decide +kernel, by decide +kernel, by decide +kernel⟩
theorem cv_X5_146 : CV RX5 146 yX4_darkBehind cX4_darkBehind 3 (some .int) 1 := ⟨wd_549, wd_550, wd_551, wd_2, wd_552, by decide +kernel, by decide +kernel, by decide +kernel⟩
theorem cv_X5_149 : CV RX5 149 yX4_firstDark cX4_firstDark 4 (some .int) 0 := ⟨wd_559, wd_560, wd_561, wd_2, wd_562, by decide +kernel, by decide +kernel, by decide +kernel⟩
theorem cv_X5_152 : CV RX5 152 yX4_wholeBehind cX4_wholeBehind 2 (some .int) 0 := ⟨wd_567, wd_568, wd_569, wd_2, wd_570, by decide +kernel, by decide +kernel, by decide +kernel⟩
theorem cv_X5_155 : CV RX5 155 yX4_seenBy cX4_seenBy 2 (some .int) 1 := ⟨wd_579, wd_580, wd_581, wd_2, wd_582, by decide +kernel, by decide +kernel, by decide +kernel⟩
theorem cv_X5_158 : CV RX5 158 yX5_areTwo cX5_areTwo 3 (some .boolean) 2 := ⟨wd_587, wd_589, wp_7, wd_1, wd_590, by decide +kernel, by decide +kernel, by decide +kernel⟩
theorem cv_X5_161 : CV RX5 161 yX4_cellInTheWay cX4_cellInTheWay 11 (some .int) 2 := ⟨wd_591, wd_592, wd_593, wd_2, wd_594, by decide +kernel, by decide +kernel, by decide +kernel⟩
theorem cv_X5_164 : CV RX5 164 yX4_leastCandle cX4_leastCandle 4 (some .int) 1 := ⟨wd_600, wd_601, wd_602, wd_2, wd_603, by decide +kernel, by decide +kernel, by decide +kernel⟩
theorem cv_X5_167 : CV RX5 167 yX4_cutHouse cX4_cutHouse 6 (some .int) 0 := ⟨wd_609, wd_610, wd_611, wd_2, wd_612, by decide +kernel, by decide +kernel, by decide +kernel⟩
theorem cv_X5_170 : CV RX5 170 yX4_hangingAfterCut cX4_hangingAfterCut 2 (some .int) 0 := ⟨wd_618, wd_619, wd_620, wd_2, wd_621, by decide +kernel, by decide +kernel, by decide +kernel⟩
theorem cv_X5_173 : CV RX5 173 yX4_needed cX4_needed 6 (some .int) 0 := ⟨wd_623, wd_624, wd_625, wd_2, wd_626, by decide +kernel, by decide +kernel, by decide +kernel⟩
theorem cv_X5_176 : CV RX5 176 yX4_buildCell cX4_buildCell 5 (some .int) 0 := ⟨wd_631, wd_632, wd_633, wd_2, wd_634, by decide +kernel, by decide +kernel, by decide +kernel⟩
theorem cv_X5_179 : CV RX5 179 yX4_hangingIfBuilt cX4_hangingIfBuilt 2 (some .int) 1 := ⟨wd_646, wd_636, wd_637, wd_2, wd_638, by decide +kernel, by decide +kernel, by decide +kernel⟩
theorem cv_X5_182 : CV RX5 182 yX4_cellToFell cX4_cellToFell 5 (some .int) 0 := ⟨wd_651, wd_652, wd_653, wd_2, wd_654, by decide +kernel, by decide +kernel, by decide +kernel⟩
theorem cv_X5_185 : CV RX5 185 yX4_houseToRaise cX4_houseToRaise 5 (some .int) 0 := ⟨wd_660, wd_661, wd_662, wd_2, wd_663, by decide +kernel, by decide +kernel, by decide +kernel⟩
theorem cv_X5_188 : CV RX5 188 yX4_fewestCalled cX4_fewestCalled 5 (some .int) 1 := ⟨wd_668, wd_669, wd_670, wd_2, wd_671, by decide +kernel, by decide +kernel, by decide +kernel⟩
theorem cv_X5_191 : CV RX5 191 yX4_newsLength cX4_newsLength 2 (some .int) 1 := ⟨wd_684, wd_685, wd_686, wd_2, wd_687, by decide +kernel, by decide +kernel, by decide +kernel⟩
theorem cv_X5_194 : CV RX5 194 yX4_newsNext cX4_newsNext 3 (some .int) 1 := ⟨wd_696, wd_697, wd_698, wd_2, wd_699, by decide +kernel, by decide +kernel, by decide +kernel⟩
theorem cv_X5_197 : CV RX5 197 yX4_farthestHouse cX4_farthestHouse 4 (some .int) 0 := ⟨wd_704, wd_705, wd_706, wd_2, wd_707, by decide +kernel, by decide +kernel, by decide +kernel⟩
theorem cv_X5_200 : CV RX5 200 yX4_burntIn cX4_burntIn 2 (some .int) 1 := ⟨wd_712, wd_713, wd_714, wd_2, wd_715, by decide +kernel, by decide +kernel, by decide +kernel⟩
theorem cv_X5_203 : CV RX5 203 yX4_bestForAWick cX4_bestForAWick 6 (some .int) 1 := ⟨wd_724, wd_725, wd_726, wd_2, wd_727, by decide +kernel, by decide +kernel, by decide +kernel⟩
theorem cv_X5_206 : CV RX5 206 yX4_mostHanging cX4_mostHanging 4 (some .int) 1 := ⟨wd_733, wd_734, wd_735, wd_2, wd_736, by decide +kernel, by decide +kernel, by decide +kernel⟩
theorem cv_X5_209 : CV RX5 209 yX4_leastFogOfNobody cX4_leastFogOfNobody 2 (some .int) 0 := ⟨wd_742, wd_743, wd_744, wd_2, wd_745, by decide +kernel, by decide +kernel, by decide +kernel⟩
theorem cv_X5_212 : CV RX5 212 yX4_pairAtRest cX4_pairAtRest 4 (some .int) 2 := ⟨wd_754, wd_755, wd_756, wd_2, wd_757, by decide +kernel, by decide +kernel, by decide +kernel⟩
theorem cv_X5_215 : CV RX5 215 yX5_refuseLong cX5_refuseLong 2 (some .long) 1 := ⟨wd_770, wd_772, wp_13, wd_1, wd_773, by decide +kernel, by decide +kernel, by decide +kernel⟩
theorem cv_X5_219 : CV RX5 219 yX4_mistAbove cX4_mistAbove 10 (some .long) 3 := ⟨wd_775, wd_776, wd_777, wd_2, wd_778, by decide +kernel, by decide +kernel, by decide +kernel⟩
theorem cs_X5_223 : CS RX5 223 yX5_power cX5_power 6 (some .long) 2 := ⟨wd_779, wd_780, wd_1, wd_781, by decide +kernel, by decide +kernel, by decide +kernel⟩
theorem cs_X5_227 : CS RX5 227 yX5_inLeastTerms cX5_inLeastTerms 7 (some .long) 3 := ⟨wd_782, wd_783, wd_1, wd_784, by decide +kernel, by decide +kernel, by decide +kernel⟩
theorem cv_X5_236 : CV RX5 236 yX4_housesThatSlept cX4_housesThatSlept 5 (some .int) 2 := ⟨wd_797, wd_798, wd_799, wd_2, wd_800, by decide +kernel, by decide +kernel, by decide +kernel⟩
theorem cv_X5_240 : CV RX5 240 yX4_kindsThatFit cX4_kindsThatFit 6 (some .int) 3 := ⟨wd_809, wd_810, wd_811, wd_2, wd_812, by decide +kernel, by decide +kernel, by decide +kernel⟩
theorem cv_X5_244 : CV RX5 244 yX4_figuresThatFit cX4_figuresThatFit 6 (some .int) 3 := ⟨wd_813, wd_814, wd_815, wd_2, wd_816, by decide +kernel, by decide +kernel, by decide +kernel⟩
theorem cv_X5_247 : CV RX5 247 yX4_nightsByLot cX4_nightsByLot 8 (some .int) 3 := ⟨wd_833, wd_834, wd_835, wd_2, wd_836, by decide +kernel, by decide +kernel, by decide +kernel⟩
theorem cv_X5_261 : CV RX5 261 yX1_lit cX1_lit 3 (some .int) 0 := ⟨wd_858, wd_507, wd_508, wd_3, wd_509, by decide +kernel, by decide +kernel, by decide +kernel⟩
theorem cv_X5_264 : CV RX5 264 yX1_allWicks cX1_allWicks 3 (some .int) 0 := ⟨wd_859, wd_717, wd_718, wd_3, wd_719, by decide +kernel, by decide +kernel, by decide +kernel⟩
theorem cv_X5_270 : CV RX5 270 yX5_refusalsCounted cX5_refusalsCounted 2 (some .int) 1 := ⟨wd_860, wd_862, wp_15, wd_1, wd_863, by decide +kernel, by decide +kernel, by decide +kernel⟩
theorem cs_X5_275 : CS RX5 275 yX5_commonDivisor cX5_commonDivisor 11 (some .long) 2 := ⟨wd_785, wd_786, wd_1, wd_787, by decide +kernel, by decide +kernel, by decide +kernel⟩
theorem cs_X1_46 : CS RX1 46 yX1_isCell cX1_isCell 1 (some .boolean) 1 := ⟨wd_356, wd_357, wd_3, wd_358, by decide +kernel, by decide +kernel, by decide +kernel⟩
theorem cv_X1_50 : CV RX1 50 yX1_isHouse cX1_isHouse 2 (some .boolean) 1 := ⟨wd_371, wd_372, wd_373, wd_3, wd_374, by decide +kernel, by decide +kernel, by decide +kernel⟩
theorem cs_X1_53 : CS RX1 53 yJ9_min_7cf53 cJ9_min_7cf53 2 (some .int) 2 := ⟨wd_379, wd_289, wd_11, wd_290, by decide +kernel, by decide +kernel, by decide +kernel⟩
theorem cv_X1_59 : CV RX1 59 yX1_passNight cX1_passNight 2 none 0 := ⟨wd_388, wd_389, wd_390, wd_3, wd_391, by decide +kernel, by decide +kernel, by decide +kernel⟩
theorem cs_X1_66 : CS RX1 66 yX0_candleOf cX0_candleOf 2 (some .int) 2 := ⟨wd_424, wd_425, wd_14, wd_426, by decide +kernel, by decide +kernel, by decide +kernel⟩
theorem cs_X1_71 : CS RX1 71 yX0_burnsOf cX0_burnsOf 1 (some .int) 1 := ⟨wd_396, wd_397, wd_14, wd_398, by decide +kernel, by decide +kernel, by decide +kernel⟩
theorem cs_X1_75 : CS RX1 75 yX0_sleepsIn cX0_sleepsIn 4 (some .boolean) 3 := ⟨wd_402, wd_403, wd_14, wd_404, by decide +kernel, by decide +kernel, by decide +kernel⟩
theorem cv_X1_79 : CV RX1 79 yX1_isLit cX1_isLit 2 (some .boolean) 1 := ⟨wd_392, wd_393, wd_394, wd_3, wd_395, by decide +kernel, by decide +kernel, by decide +kernel⟩
theorem cv_X2_19 : CV RX2 19 yX2_isFull cX2_isFull 1 (some .boolean) 0 := ⟨wd_197, wd_190, wd_191, wd_5, wd_192, by decide +kernel, by decide +kernel, by decide +kernel⟩
theorem cv_X2_35 : CV RX2 35 yJ0_indexOf_0f7a4 cJ0_indexOf_0f7a4 2 (some .int) 1 := ⟨wd_270, wd_271, wd_272, wd_7, wd_273, by decide +kernel, by decide +kernel, by decide +kernel⟩
theorem cs_X2_41 : CS RX2 41 yX2_formBehind cX2_formBehind 1 (some (.object "java/lang/String")) 1 := ⟨wd_206, wd_207, wd_5, wd_208, by decide +kernel, by decide +kernel, by decide +kernel⟩
theorem cv_X2_45 : CV RX2 45 yJ0_isEmpty_aae02 cJ0_isEmpty_aae02 1 (some .boolean) 0 := ⟨wd_214, wd_215, wd_216, wd_7, wd_217, by decide +kernel, by decide +kernel, by decide +kernel⟩
theorem cv_X2_48 : CV RX2 48 yJ0_length_8abf5 cJ0_length_8abf5 1 (some .int) 0 := ⟨wd_218, wd_219, wd_220, wd_7, wd_221, by decide +kernel, by decide +kernel, by decide +kernel⟩
theorem cv_X2_51 : CV RX2 51 yJ0_charAt_5068e cJ0_charAt_5068e 2 (some .char) 1 := ⟨wd_228, wd_229, wd_230, wd_7, wd_231, by decide +kernel, by decide +kernel, by decide +kernel⟩
theorem cs_X2_55 : CS RX2 55 yX2_fits cX2_fits 2 (some .boolean) 2 := ⟨wd_266, wd_267, wd_5, wd_268, by decide +kernel, by decide +kernel, by decide +kernel⟩
theorem cv_X2_62 : CV RX2 62 yX2_comes cX2_comes 3 (some .boolean) 2 := ⟨wd_340, wd_342, wp_1, wd_5, wd_343, by decide +kernel, by decide +kernel, by decide +kernel⟩
theorem cv_X2_66 : CV RX2 66 yX2_twoDigits cX2_twoDigits 2 (some .int) 1 := ⟨wd_344, wd_346, wp_2, wd_5, wd_347, by decide +kernel, by decide +kernel, by decide +kernel⟩
theorem cv_X2_69 : CV RX2 69 yX2_digit cX2_digit 2 (some .int) 1 := ⟨wd_348, wd_350, wp_3, wd_5, wd_351, by decide +kernel, by decide +kernel, by decide +kernel⟩
theorem cv_X2_72 : CV RX2 72 yX1_putHeight cX1_putHeight 3 (some .boolean) 2 := ⟨wd_352, wd_353, wd_354, wd_3, wd_355, by decide +kernel, by decide +kernel, by decide +kernel⟩
theorem cv_X2_81 : CV RX2 81 yX2_kindAt cX2_kindAt 2 (some .int) 1 := ⟨wd_359, wd_361, wp_4, wd_5, wd_362, by decide +kernel, by decide +kernel, by decide +kernel⟩
theorem cv_X2_84 : CV RX2 84 yX1_addHouse cX1_addHouse 4 (some .boolean) 3 := ⟨wd_363, wd_364, wd_365, wd_3, wd_366, by decide +kernel, by decide +kernel, by decide +kernel⟩
theorem cv_X2_88 : CV RX2 88 yX1_putHouse cX1_putHouse 3 (some .boolean) 2 := ⟨wd_367, wd_368, wd_369, wd_3, wd_370, by decide +kernel, by decide +kernel, by decide +kernel⟩
theorem cv_X2_91 : CV RX2 91 yX1_addWicks cX1_addWicks 3 (some .boolean) 2 := ⟨wd_375, wd_376, wd_377, wd_3, wd_378, by decide +kernel, by decide +kernel, by decide +kernel⟩
theorem cv_X2_94 : CV RX2 94 yX1_switchCall cX1_switchCall 2 (some .boolean) 1 := ⟨wd_380, wd_381, wd_382, wd_3, wd_383, by decide +kernel, by decide +kernel, by decide +kernel⟩
theorem cv_X2_98 : CV RX2 98 yX1_goBy cX1_goBy 3 (some .boolean) 1 := ⟨wd_384, wd_385, wd_386, wd_3, wd_387, by decide +kernel, by decide +kernel, by decide +kernel⟩
theorem cv_X3_20 : CV RX3 20 yX3_measure cX3_measure 3 none 1 := ⟨wd_644, wd_482, wd_483, wd_4, wd_484, by decide +kernel, by decide +kernel, by decide +kernel⟩
theorem cv_X3_24 : CV RX3 24 yX3_look cX3_look 4 none 1 := ⟨wd_645, wd_487, wd_488, wd_4, wd_489, by decide +kernel, by decide +kernel, by decide +kernel⟩
theorem cv_X3_32 : CV RX3 32 yX1_eyeOf cX1_eyeOf 2 (some .int) 1 := ⟨wd_485, wd_421, wd_422, wd_3, wd_423, by decide +kernel, by decide +kernel, by decide +kernel⟩
theorem cs_X3_42 : CS RX3 42 yX3_isOpen cX3_isOpen 10 (some .boolean) 5 := ⟨wd_490, wd_491, wd_4, wd_492, by decide +kernel, by decide +kernel, by decide +kernel⟩
theorem cs_X3_46 : CS RX3 46 yJ9_min_7cf53 cJ9_min_7cf53 2 (some .int) 2 := ⟨wd_493, wd_289, wd_11, wd_290, by decide +kernel, by decide +kernel, by decide +kernel⟩
theorem cs_X3_52 : CS RX3 52 yJ9_max_7cf53 cJ9_max_7cf53 2 (some .int) 2 := ⟨wd_494, wd_286, wd_11, wd_287, by decide +kernel, by decide +kernel, by decide +kernel⟩
theorem cs_X3_58 : CS RX3 58 yX3_aboveLine cX3_aboveLine 7 (some .int) 6 := ⟨wd_495, wd_496, wd_4, wd_497, by decide +kernel, by decide +kernel, by decide +kernel⟩
theorem cv_X3_65 : CV RX3 65 yX3_seeing cX3_seeing 5 (some .int) 2 := ⟨wd_514, wd_515, wd_516, wd_4, wd_517, by decide +kernel, by decide +kernel, by decide +kernel⟩
theorem cv_X4_41 : CV RX4 41 yX1_become cX1_become 2 none 1 := ⟨wd_480, wd_330, wd_331, wd_3, wd_332, by decide +kernel, by decide +kernel, by decide +kernel⟩
theorem cv_X4_45 : CV RX4 45 yX3_measure cX3_measure 3 none 1 := ⟨wd_481, wd_482, wd_483, wd_4, wd_484, by decide +kernel, by decide +kernel, by decide +kernel⟩
theorem cv_X4_48 : CV RX4 48 yX3_look cX3_look 4 none 1 := ⟨wd_486, wd_487, wd_488, wd_4, wd_489, by decide +kernel, by decide +kernel, by decide +kernel⟩
theorem cv_X4_51 : CV RX4 51 yX1_lit cX1_lit 3 (some .int) 0 := ⟨wd_506, wd_507, wd_508, wd_3, wd_509, by decide +kernel, by decide +kernel, by decide +kernel⟩
theorem cv_X4_55 : CV RX4 55 yX3_hanging cX3_hanging 5 (some .int) 1 := ⟨wd_510, wd_511, wd_512, wd_4, wd_513, by decide +kernel, by decide +kernel, by decide +kernel⟩
theorem cs_X4_59 : CS RX4 59 yJ6_bitCount_0f7a4 cJ6_bitCount_0f7a4 1 (some .int) 1 := ⟨wd_617, wd_520, wd_15, wd_521, by decide +kernel, by decide +kernel, by decide +kernel⟩
theorem cv_X4_64 : CV RX4 64 yX1_passNight cX1_passNight 2 none 0 := ⟨wd_554, wd_389, wd_390, wd_3, wd_391, by decide +kernel, by decide +kernel, by decide +kernel⟩
theorem cv_X4_67 : CV RX4 67 yX1_passNights cX1_passNights 3 none 1 := ⟨wd_498, wd_499, wd_500, wd_3, wd_501, by decide +kernel, by decide +kernel, by decide +kernel⟩
theorem cv_X4_71 : CV RX4 71 yX4_begin cX4_begin 1 none 0 := ⟨wd_476, wd_478, wp_5, wd_2, wd_479, by decide +kernel, by decide +kernel, by decide +kernel⟩
theorem cv_X4_74 : CV RX4 74 yX4_hangers cX4_hangers 1 (some .int) 0 := ⟨wd_502, wd_504, wp_6, wd_2, wd_505, by decide +kernel, by decide +kernel, by decide +kernel⟩
theorem cs_X4_84 : CS RX4 84 yJ6_numberOfTrailingZeros_0f7a4 cJ6_numberOfTrailingZeros_0f7a4 2 (some .int) 1 := ⟨wd_563, wd_564, wd_15, wd_565, by decide +kernel, by decide +kernel, by decide +kernel⟩
theorem cv_X4_87 : CV RX4 87 yX1_allHouses cX1_allHouses 1 (some .int) 0 := ⟨wd_571, wd_572, wd_573, wd_3, wd_574, by decide +kernel, by decide +kernel, by decide +kernel⟩
theorem cs_X4_103 : CS RX4 103 yX3_aboveLine cX3_aboveLine 7 (some .int) 6 := ⟨wd_595, wd_496, wd_4, wd_497, by decide +kernel, by decide +kernel, by decide +kernel⟩
theorem cs_X4_110 : CS RX4 110 yX3_isOpen cX3_isOpen 10 (some .boolean) 5 := ⟨wd_604, wd_491, wd_4, wd_492, by decide +kernel, by decide +kernel, by decide +kernel⟩
theorem cv_X4_117 : CV RX4 117 yX4_hangingWithout cX4_hangingWithout 3 (some .int) 2 := ⟨wd_613, wd_615, wp_8, wd_2, wd_616, by decide +kernel, by decide +kernel, by decide +kernel⟩
theorem cv_X4_121 : CV RX4 121 yX4_cutHouse cX4_cutHouse 6 (some .int) 0 := ⟨wd_622, wd_610, wd_611, wd_2, wd_612, by decide +kernel, by decide +kernel, by decide +kernel⟩
theorem cv_X4_124 : CV RX4 124 yX4_hangingIfBuilt cX4_hangingIfBuilt 2 (some .int) 1 := ⟨wd_635, wd_636, wd_637, wd_2, wd_638, by decide +kernel, by decide +kernel, by decide +kernel⟩
theorem cv_X4_127 : CV RX4 127 yX1_addHouse cX1_addHouse 4 (some .boolean) 3 := ⟨wd_639, wd_364, wd_365, wd_3, wd_366, by decide +kernel, by decide +kernel, by decide +kernel⟩
theorem cv_X4_131 : CV RX4 131 yX3_lookOver cX3_lookOver 2 none 1 := ⟨wd_640, wd_641, wd_642, wd_4, wd_643, by decide +kernel, by decide +kernel, by decide +kernel⟩
theorem cv_X4_134 : CV RX4 134 yX1_putHeight cX1_putHeight 3 (some .boolean) 2 := ⟨wd_655, wd_353, wd_354, wd_3, wd_355, by decide +kernel, by decide +kernel, by decide +kernel⟩
theorem cv_X4_137 : CV RX4 137 yX4_togetherIfCalled cX4_togetherIfCalled 3 (some .int) 2 := ⟨wd_672, wd_674, wp_9, wd_2, wd_675, by decide +kernel, by decide +kernel, by decide +kernel⟩
theorem cv_X4_143 : CV RX4 143 yX4_hangTogether cX4_hangTogether 4 (some .int) 1 := ⟨wd_676, wd_678, wp_10, wd_2, wd_679, by decide +kernel, by decide +kernel, by decide +kernel⟩
theorem cs_X4_146 : CS RX4 146 yJ7_fill_53178 cJ7_fill_53178 4 none 2 := ⟨wd_692, wd_693, wd_16, wd_694, by decide +kernel, by decide +kernel, by decide +kernel⟩
theorem cv_X4_152 : CV RX4 152 yX3_seeing cX3_seeing 5 (some .int) 2 := ⟨wd_695, wd_515, wd_516, wd_4, wd_517, by decide +kernel, by decide +kernel, by decide +kernel⟩
theorem cv_X4_155 : CV RX4 155 yX4_measureWays cX4_measureWays 5 none 0 := ⟨wd_688, wd_690, wp_11, wd_2, wd_691, by decide +kernel, by decide +kernel, by decide +kernel⟩
theorem cv_X4_158 : CV RX4 158 yX1_allWicks cX1_allWicks 3 (some .int) 0 := ⟨wd_716, wd_717, wd_718, wd_3, wd_719, by decide +kernel, by decide +kernel, by decide +kernel⟩
theorem cv_X4_161 : CV RX4 161 yX1_addWicks cX1_addWicks 3 (some .boolean) 2 := ⟨wd_728, wd_376, wd_377, wd_3, wd_378, by decide +kernel, by decide +kernel, by decide +kernel⟩
theorem cs_X4_164 : CS RX4 164 yJ9_max_7cf53 cJ9_max_7cf53 2 (some .int) 2 := ⟨wd_737, wd_286, wd_11, wd_287, by decide +kernel, by decide +kernel, by decide +kernel⟩
theorem cv_X4_172 : CV RX4 172 yX4_weighPair cX4_weighPair 8 none 3 := ⟨wd_758, wd_760, wp_12, wd_2, wd_761, by decide +kernel, by decide +kernel, by decide +kernel⟩
theorem cv_X4_176 : CV RX4 176 yX1_putCalled cX1_putCalled 3 none 2 := ⟨wd_762, wd_763, wd_764, wd_3, wd_765, by decide +kernel, by decide +kernel, by decide +kernel⟩
theorem cv_X4_180 : CV RX4 180 yX4_isSo cX4_isSo 4 (some .boolean) 2 := ⟨wd_801, wd_803, wp_14, wd_2, wd_804, by decide +kernel, by decide +kernel, by decide +kernel⟩
theorem cs_X4_190 : CS RX4 190 yX4_nextSeed cX4_nextSeed 1 (some .int) 1 := ⟨wd_837, wd_838, wd_2, wd_839, by decide +kernel, by decide +kernel, by decide +kernel⟩
theorem cs_X4_193 : CS RX4 193 yX4_drawn cX4_drawn 2 (some .int) 2 := ⟨wd_842, wd_843, wd_2, wd_844, by decide +kernel, by decide +kernel, by decide +kernel⟩
theorem cv_L_13 : CV RL 13 yX5_letter cX5_letter 2 (some .int) 1 := ⟨wd_181, wd_182, wd_183, wd_1, wd_184, by decide +kernel, by decide +kernel, by decide +kernel⟩
theorem cv_L_17 : CV RL 17 yX6_letter cX6_letter 2 (some .int) 1 := ⟨wd_913, wd_914, wd_915, wd_6, wd_916, by decide +kernel, by decide +kernel, by decide +kernel⟩
theorem cv_L_18 : CV RL 18 yX5_land cX5_land 4 (some .int) 0 := ⟨wd_198, wd_199, wd_200, wd_1, wd_201, by decide +kernel, by decide +kernel, by decide +kernel⟩
theorem cv_L_22 : CV RL 22 yX6_land cX6_land 6 (some .int) 0 := ⟨wd_921, wd_922, wd_923, wd_6, wd_924, by decide +kernel, by decide +kernel, by decide +kernel⟩
theorem cv_L_23 : CV RL 23 yX5_house cX5_house 3 (some .int) 2 := ⟨wd_410, wd_411, wd_412, wd_1, wd_413, by decide +kernel, by decide +kernel, by decide +kernel⟩
theorem cv_L_27 : CV RL 27 yX6_house cX6_house 3 (some .int) 2 := ⟨wd_991, wd_992, wd_993, wd_6, wd_994, by decide +kernel, by decide +kernel, by decide +kernel⟩
theorem cv_L_28 : CV RL 28 yX5_height cX5_height 2 (some .int) 1 := ⟨wd_431, wd_432, wd_433, wd_1, wd_434, by decide +kernel, by decide +kernel, by decide +kernel⟩
theorem cv_L_31 : CV RL 31 yX6_height cX6_height 2 (some .int) 1 := ⟨wd_1001, wd_1002, wd_1003, wd_6, wd_1004, by decide +kernel, by decide +kernel, by decide +kernel⟩
theorem cv_L_32 : CV RL 32 yX5_heaps cX5_heaps 5 (some .int) 2 := ⟨wd_436, wd_437, wd_438, wd_1, wd_439, by decide +kernel, by decide +kernel, by decide +kernel⟩
theorem cv_L_35 : CV RL 35 yX6_heaps cX6_heaps 5 (some .int) 2 := ⟨wd_1005, wd_1006, wd_1007, wd_6, wd_1008, by decide +kernel, by decide +kernel, by decide +kernel⟩
theorem cv_L_36 : CV RL 36 yX5_moves cX5_moves 4 (some .int) 2 := ⟨wd_444, wd_445, wd_446, wd_1, wd_447, by decide +kernel, by decide +kernel, by decide +kernel⟩
theorem cv_L_39 : CV RL 39 yX6_moves cX6_moves 4 (some .int) 2 := ⟨wd_1012, wd_1013, wd_1014, wd_6, wd_1015, by decide +kernel, by decide +kernel, by decide +kernel⟩
theorem cv_L_40 : CV RL 40 yX5_gives cX5_gives 4 (some .int) 2 := ⟨wd_449, wd_450, wd_451, wd_1, wd_452, by decide +kernel, by decide +kernel, by decide +kernel⟩
theorem cv_L_43 : CV RL 43 yX6_gives cX6_gives 4 (some .int) 2 := ⟨wd_1016, wd_1017, wd_1018, wd_6, wd_1019, by decide +kernel, by decide +kernel, by decide +kernel⟩
theorem cv_L_44 : CV RL 44 yX5_calls cX5_calls 2 (some .int) 1 := ⟨wd_454, wd_455, wd_456, wd_1, wd_457, by decide +kernel, by decide +kernel, by decide +kernel⟩
theorem cv_L_47 : CV RL 47 yX6_calls cX6_calls 2 (some .int) 1 := ⟨wd_1020, wd_1021, wd_1022, wd_6, wd_1023, by decide +kernel, by decide +kernel, by decide +kernel⟩
theorem cv_L_48 : CV RL 48 yX5_fog cX5_fog 4 (some .int) 1 := ⟨wd_459, wd_460, wd_461, wd_1, wd_462, by decide +kernel, by decide +kernel, by decide +kernel⟩
theorem cv_L_51 : CV RL 51 yX6_fog cX6_fog 4 (some .int) 1 := ⟨wd_1024, wd_1025, wd_1026, wd_6, wd_1027, by decide +kernel, by decide +kernel, by decide +kernel⟩
theorem cv_L_52 : CV RL 52 yX5_turn cX5_turn 6 (some .int) 3 := ⟨wd_463, wd_464, wd_465, wd_1, wd_466, by decide +kernel, by decide +kernel, by decide +kernel⟩
theorem cv_L_56 : CV RL 56 yX6_turn cX6_turn 6 (some .int) 3 := ⟨wd_1028, wd_1029, wd_1030, wd_6, wd_1031, by decide +kernel, by decide +kernel, by decide +kernel⟩
theorem cv_L_57 : CV RL 57 yX5_nights cX5_nights 3 (some .int) 1 := ⟨wd_467, wd_468, wd_469, wd_1, wd_470, by decide +kernel, by decide +kernel, by decide +kernel⟩
theorem cv_L_60 : CV RL 60 yX6_nights cX6_nights 3 (some .int) 1 := ⟨wd_1032, wd_1033, wd_1034, wd_6, wd_1035, by decide +kernel, by decide +kernel, by decide +kernel⟩
theorem cv_L_61 : CV RL 61 yX5_litThen cX5_litThen 3 (some .int) 1 := ⟨wd_525, wd_526, wd_527, wd_1, wd_528, by decide +kernel, by decide +kernel, by decide +kernel⟩
theorem cv_L_64 : CV RL 64 yX6_litThen cX6_litThen 4 (some .int) 1 := ⟨wd_1054, wd_1055, wd_1056, wd_6, wd_1057, by decide +kernel, by decide +kernel, by decide +kernel⟩
theorem cv_L_65 : CV RL 65 yX5_hangThen cX5_hangThen 3 (some .int) 1 := ⟨wd_533, wd_534, wd_535, wd_1, wd_536, by decide +kernel, by decide +kernel, by decide +kernel⟩
theorem cv_L_68 : CV RL 68 yX6_hangThen cX6_hangThen 4 (some .int) 1 := ⟨wd_1062, wd_1063, wd_1064, wd_6, wd_1065, by decide +kernel, by decide +kernel, by decide +kernel⟩
theorem cv_L_69 : CV RL 69 yX5_wicksThen cX5_wicksThen 4 (some .int) 2 := ⟨wd_537, wd_538, wd_539, wd_1, wd_540, by decide +kernel, by decide +kernel, by decide +kernel⟩
theorem cv_L_72 : CV RL 72 yX6_wicksThen cX6_wicksThen 5 (some .int) 2 := ⟨wd_1066, wd_1067, wd_1068, wd_6, wd_1069, by decide +kernel, by decide +kernel, by decide +kernel⟩
theorem cv_L_73 : CV RL 73 yX5_dark cX5_dark 2 (some .int) 1 := ⟨wd_545, wd_546, wd_547, wd_1, wd_548, by decide +kernel, by decide +kernel, by decide +kernel⟩
theorem cv_L_76 : CV RL 76 yX6_dark cX6_dark 2 (some .int) 1 := ⟨wd_1070, wd_1071, wd_1072, wd_6, wd_1073, by decide +kernel, by decide +kernel, by decide +kernel⟩
theorem cv_L_77 : CV RL 77 yX5_first cX5_first 2 (some .int) 1 := ⟨wd_555, wd_556, wd_557, wd_1, wd_558, by decide +kernel, by decide +kernel, by decide +kernel⟩
theorem cv_L_80 : CV RL 80 yX6_first cX6_first 2 (some .int) 1 := ⟨wd_1078, wd_1079, wd_1080, wd_6, wd_1081, by decide +kernel, by decide +kernel, by decide +kernel⟩
theorem cv_L_81 : CV RL 81 yX5_sees cX5_sees 2 (some .int) 1 := ⟨wd_575, wd_576, wd_577, wd_1, wd_578, by decide +kernel, by decide +kernel, by decide +kernel⟩
theorem cv_L_84 : CV RL 84 yX6_sees cX6_sees 4 (some .int) 1 := ⟨wd_1091, wd_1092, wd_1093, wd_6, wd_1094, by decide +kernel, by decide +kernel, by decide +kernel⟩
theorem cv_L_85 : CV RL 85 yX5_hill cX5_hill 3 (some .int) 2 := ⟨wd_583, wd_584, wd_585, wd_1, wd_586, by decide +kernel, by decide +kernel, by decide +kernel⟩
theorem cv_L_88 : CV RL 88 yX6_hill cX6_hill 9 (some .int) 2 := ⟨wd_1095, wd_1096, wd_1097, wd_6, wd_1098, by decide +kernel, by decide +kernel, by decide +kernel⟩
theorem cv_L_89 : CV RL 89 yX5_leastEye cX5_leastEye 2 (some .int) 1 := ⟨wd_596, wd_597, wd_598, wd_1, wd_599, by decide +kernel, by decide +kernel, by decide +kernel⟩
theorem cv_L_92 : CV RL 92 yX6_leastEye cX6_leastEye 4 (some .int) 1 := ⟨wd_1099, wd_1100, wd_1101, wd_6, wd_1102, by decide +kernel, by decide +kernel, by decide +kernel⟩
theorem cv_L_93 : CV RL 93 yX5_cut cX5_cut 2 (some .int) 1 := ⟨wd_605, wd_606, wd_607, wd_1, wd_608, by decide +kernel, by decide +kernel, by decide +kernel⟩
theorem cv_L_96 : CV RL 96 yX6_cut cX6_cut 9 (some .int) 1 := ⟨wd_1103, wd_1104, wd_1105, wd_6, wd_1106, by decide +kernel, by decide +kernel, by decide +kernel⟩
theorem cv_L_97 : CV RL 97 yX5_build cX5_build 2 (some .int) 1 := ⟨wd_627, wd_628, wd_629, wd_1, wd_630, by decide +kernel, by decide +kernel, by decide +kernel⟩
theorem cv_L_100 : CV RL 100 yX6_build cX6_build 6 (some .int) 1 := ⟨wd_1107, wd_1108, wd_1109, wd_6, wd_1110, by decide +kernel, by decide +kernel, by decide +kernel⟩
theorem cv_L_101 : CV RL 101 yX5_fell cX5_fell 1 (some .int) 0 := ⟨wd_647, wd_648, wd_649, wd_1, wd_650, by decide +kernel, by decide +kernel, by decide +kernel⟩
theorem cv_L_104 : CV RL 104 yX6_fell cX6_fell 4 (some .int) 0 := ⟨wd_1111, wd_1112, wd_1113, wd_6, wd_1114, by decide +kernel, by decide +kernel, by decide +kernel⟩
theorem cv_L_105 : CV RL 105 yX5_raise cX5_raise 1 (some .int) 0 := ⟨wd_656, wd_657, wd_658, wd_1, wd_659, by decide +kernel, by decide +kernel, by decide +kernel⟩
theorem cv_L_108 : CV RL 108 yX6_raise cX6_raise 4 (some .int) 0 := ⟨wd_1115, wd_1116, wd_1117, wd_6, wd_1118, by decide +kernel, by decide +kernel, by decide +kernel⟩
theorem cv_L_109 : CV RL 109 yX5_call cX5_call 3 (some .int) 1 := ⟨wd_664, wd_665, wd_666, wd_1, wd_667, by decide +kernel, by decide +kernel, by decide +kernel⟩
theorem cv_L_112 : CV RL 112 yX6_call cX6_call 7 (some .int) 1 := ⟨wd_1119, wd_1120, wd_1121, wd_6, wd_1122, by decide +kernel, by decide +kernel, by decide +kernel⟩
theorem cv_L_113 : CV RL 113 yX5_news cX5_news 3 (some .int) 2 := ⟨wd_680, wd_681, wd_682, wd_1, wd_683, by decide +kernel, by decide +kernel, by decide +kernel⟩
theorem cv_L_116 : CV RL 116 yX6_news cX6_news 3 (some .int) 2 := ⟨wd_1131, wd_1132, wd_1133, wd_6, wd_1134, by decide +kernel, by decide +kernel, by decide +kernel⟩
theorem cv_L_117 : CV RL 117 yX5_farthest cX5_farthest 1 (some .int) 0 := ⟨wd_700, wd_701, wd_702, wd_1, wd_703, by decide +kernel, by decide +kernel, by decide +kernel⟩
theorem cv_L_120 : CV RL 120 yX6_farthest cX6_farthest 3 (some .int) 0 := ⟨wd_1143, wd_1144, wd_1145, wd_6, wd_1146, by decide +kernel, by decide +kernel, by decide +kernel⟩
theorem cv_L_121 : CV RL 121 yX5_spend cX5_spend 3 (some .int) 1 := ⟨wd_708, wd_709, wd_710, wd_1, wd_711, by decide +kernel, by decide +kernel, by decide +kernel⟩
theorem cv_L_124 : CV RL 124 yX6_spend cX6_spend 3 (some .int) 1 := ⟨wd_1147, wd_1148, wd_1149, wd_6, wd_1150, by decide +kernel, by decide +kernel, by decide +kernel⟩
theorem cv_L_125 : CV RL 125 yX5_share cX5_share 3 (some .int) 1 := ⟨wd_720, wd_721, wd_722, wd_1, wd_723, by decide +kernel, by decide +kernel, by decide +kernel⟩
theorem cv_L_128 : CV RL 128 yX6_share cX6_share 7 (some .int) 1 := ⟨wd_1151, wd_1152, wd_1153, wd_6, wd_1154, by decide +kernel, by decide +kernel, by decide +kernel⟩
theorem cv_L_129 : CV RL 129 yX5_longest cX5_longest 3 (some .int) 1 := ⟨wd_729, wd_730, wd_731, wd_1, wd_732, by decide +kernel, by decide +kernel, by decide +kernel⟩
theorem cv_L_132 : CV RL 132 yX6_longest cX6_longest 6 (some .int) 1 := ⟨wd_1155, wd_1156, wd_1157, wd_6, wd_1158, by decide +kernel, by decide +kernel, by decide +kernel⟩
theorem cv_L_133 : CV RL 133 yX5_fogged cX5_fogged 1 (some .int) 0 := ⟨wd_738, wd_739, wd_740, wd_1, wd_741, by decide +kernel, by decide +kernel, by decide +kernel⟩
theorem cv_L_136 : CV RL 136 yX6_fogged cX6_fogged 2 (some .int) 0 := ⟨wd_1159, wd_1160, wd_1161, wd_6, wd_1162, by decide +kernel, by decide +kernel, by decide +kernel⟩
theorem cv_L_137 : CV RL 137 yX5_highest cX5_highest 3 (some .int) 0 := ⟨wd_746, wd_747, wd_748, wd_1, wd_749, by decide +kernel, by decide +kernel, by decide +kernel⟩
theorem cv_L_140 : CV RL 140 yX6_highest cX6_highest 3 (some .int) 0 := ⟨wd_1163, wd_1164, wd_1165, wd_6, wd_1166, by decide +kernel, by decide +kernel, by decide +kernel⟩
theorem cv_L_141 : CV RL 141 yX5_two cX5_two 3 (some .int) 2 := ⟨wd_750, wd_751, wd_752, wd_1, wd_753, by decide +kernel, by decide +kernel, by decide +kernel⟩
theorem cv_L_144 : CV RL 144 yX6_two cX6_two 6 (some .int) 2 := ⟨wd_1167, wd_1168, wd_1169, wd_6, wd_1170, by decide +kernel, by decide +kernel, by decide +kernel⟩
theorem cv_L_145 : CV RL 145 yX5_mist cX5_mist 5 (some .long) 4 := ⟨wd_766, wd_767, wd_768, wd_1, wd_769, by decide +kernel, by decide +kernel, by decide +kernel⟩
theorem cv_L_149 : CV RL 149 yX6_mist cX6_mist 13 (some .long) 4 := ⟨wd_1175, wd_1176, wd_1177, wd_6, wd_1178, by decide +kernel, by decide +kernel, by decide +kernel⟩
theorem cv_L_150 : CV RL 150 yX5_mean cX5_mean 5 (some .long) 1 := ⟨wd_788, wd_789, wd_790, wd_1, wd_791, by decide +kernel, by decide +kernel, by decide +kernel⟩
theorem cv_L_154 : CV RL 154 yX6_mean cX6_mean 5 (some .long) 1 := ⟨wd_1194, wd_1195, wd_1196, wd_6, wd_1197, by decide +kernel, by decide +kernel, by decide +kernel⟩
theorem cv_L_155 : CV RL 155 yX5_whoSlept cX5_whoSlept 1 (some .int) 0 := ⟨wd_793, wd_794, wd_795, wd_1, wd_796, by decide +kernel, by decide +kernel, by decide +kernel⟩
theorem cv_L_158 : CV RL 158 yX6_whoSlept cX6_whoSlept 3 (some .int) 0 := ⟨wd_1199, wd_1200, wd_1201, wd_6, wd_1202, by decide +kernel, by decide +kernel, by decide +kernel⟩
theorem cv_L_159 : CV RL 159 yX5_whatIs cX5_whatIs 3 (some .int) 2 := ⟨wd_805, wd_806, wd_807, wd_1, wd_808, by decide +kernel, by decide +kernel, by decide +kernel⟩
theorem cv_L_162 : CV RL 162 yX6_whatIs cX6_whatIs 5 (some .int) 2 := ⟨wd_1207, wd_1208, wd_1209, wd_6, wd_1210, by decide +kernel, by decide +kernel, by decide +kernel⟩
theorem cv_L_163 : CV RL 163 yX5_row cX5_row 2 (some .int) 1 := ⟨wd_817, wd_818, wd_819, wd_1, wd_820, by decide +kernel, by decide +kernel, by decide +kernel⟩
theorem cv_L_166 : CV RL 166 yX6_row cX6_row 3 (some .int) 1 := ⟨wd_1211, wd_1212, wd_1213, wd_6, wd_1214, by decide +kernel, by decide +kernel, by decide +kernel⟩
theorem cv_L_167 : CV RL 167 yX5_judge cX5_judge 3 (some .int) 0 := ⟨wd_821, wd_822, wd_823, wd_1, wd_824, by decide +kernel, by decide +kernel, by decide +kernel⟩
theorem cv_L_170 : CV RL 170 yX6_judge cX6_judge 3 (some .int) 0 := ⟨wd_1215, wd_1216, wd_1217, wd_6, wd_1218, by decide +kernel, by decide +kernel, by decide +kernel⟩
theorem cv_L_171 : CV RL 171 yX5_clear cX5_clear 2 (some .int) 0 := ⟨wd_825, wd_826, wd_827, wd_1, wd_828, by decide +kernel, by decide +kernel, by decide +kernel⟩
theorem cv_L_174 : CV RL 174 yX6_clear cX6_clear 2 (some .int) 0 := ⟨wd_1219, wd_1220, wd_1221, wd_6, wd_1222, by decide +kernel, by decide +kernel, by decide +kernel⟩
theorem cv_L_175 : CV RL 175 yX5_lots cX5_lots 5 (some .int) 3 := ⟨wd_829, wd_830, wd_831, wd_1, wd_832, by decide +kernel, by decide +kernel, by decide +kernel⟩
theorem cv_L_178 : CV RL 178 yX6_lots cX6_lots 7 (some .int) 3 := ⟨wd_1223, wd_1224, wd_1225, wd_6, wd_1226, by decide +kernel, by decide +kernel, by decide +kernel⟩
theorem cv_L_179 : CV RL 179 yX5_image cX5_image 1 (some .int) 0 := ⟨wd_846, wd_847, wd_848, wd_1, wd_849, by decide +kernel, by decide +kernel, by decide +kernel⟩
theorem cv_L_182 : CV RL 182 yX6_image cX6_image 1 (some .int) 0 := ⟨wd_1237, wd_1238, wd_1239, wd_6, wd_1240, by decide +kernel, by decide +kernel, by decide +kernel⟩
theorem cv_L_183 : CV RL 183 yX5_on cX5_on 1 (some .int) 0 := ⟨wd_850, wd_851, wd_852, wd_1, wd_853, by decide +kernel, by decide +kernel, by decide +kernel⟩
theorem cv_L_186 : CV RL 186 yX6_on cX6_on 1 (some .int) 0 := ⟨wd_1241, wd_1242, wd_1243, wd_6, wd_1244, by decide +kernel, by decide +kernel, by decide +kernel⟩
theorem cv_L_187 : CV RL 187 yX5_count cX5_count 2 (some .int) 1 := ⟨wd_854, wd_855, wd_856, wd_1, wd_857, by decide +kernel, by decide +kernel, by decide +kernel⟩
theorem cv_L_190 : CV RL 190 yX6_count cX6_count 2 (some .int) 1 := ⟨wd_1245, wd_1246, wd_1247, wd_6, wd_1248, by decide +kernel, by decide +kernel, by decide +kernel⟩
theorem cv_X6_39 : CV RX6 39 yX6_no cX6_no 2 (some .int) 1 := ⟨wd_917, wd_919, wp_16, wd_6, wd_920, by decide +kernel, by decide +kernel, by decide +kernel⟩
theorem cs_X6_43 : CS RX6 43 yX6_isIn cX6_isIn 3 (some .boolean) 3 := ⟨wd_937, wd_938, wd_6, wd_939, by decide +kernel, by decide +kernel, by decide +kernel⟩
theorem cs_X6_47 : CS RX6 47 yX6_of cX6_of 2 (some .int) 2 := ⟨wd_960, wd_961, wd_6, wd_962, by decide +kernel, by decide +kernel, by decide +kernel⟩
theorem cs_X6_51 : CS RX6 51 yX6_burnsBy cX6_burnsBy 1 (some .int) 1 := ⟨wd_982, wd_983, wd_6, wd_984, by decide +kernel, by decide +kernel, by decide +kernel⟩
theorem cs_X6_54 : CS RX6 54 yX6_doesSleep cX6_doesSleep 4 (some .boolean) 3 := ⟨wd_985, wd_986, wd_6, wd_987, by decide +kernel, by decide +kernel, by decide +kernel⟩
theorem cs_X6_57 : CS RX6 57 yX6_candleBy cX6_candleBy 2 (some .int) 2 := ⟨wd_998, wd_999, wd_6, wd_1000, by decide +kernel, by decide +kernel, by decide +kernel⟩
theorem cs_X6_60 : CS RX6 60 yX6_cellOf cX6_cellOf 2 (some .int) 2 := ⟨wd_1045, wd_1046, wd_6, wd_1047, by decide +kernel, by decide +kernel, by decide +kernel⟩
theorem cs_X6_64 : CS RX6 64 yX6_eye cX6_eye 2 (some .int) 2 := ⟨wd_995, wd_996, wd_6, wd_997, by decide +kernel, by decide +kernel, by decide +kernel⟩
theorem cs_X6_67 : CS RX6 67 yX6_above cX6_above 6 (some .int) 6 := ⟨wd_1048, wd_1049, wd_6, wd_1050, by decide +kernel, by decide +kernel, by decide +kernel⟩
theorem cs_X6_71 : CS RX6 71 yX6_isLit cX6_isLit 3 (some .boolean) 2 := ⟨wd_979, wd_980, wd_6, wd_981, by decide +kernel, by decide +kernel, by decide +kernel⟩
theorem cs_X6_75 : CS RX6 75 yX6_has cX6_has 2 (some .boolean) 2 := ⟨wd_988, wd_989, wd_6, wd_990, by decide +kernel, by decide +kernel, by decide +kernel⟩
theorem cs_X6_79 : CS RX6 79 yX6_doesSee cX6_doesSee 9 (some .boolean) 3 := ⟨wd_1042, wd_1043, wd_6, wd_1044, by decide +kernel, by decide +kernel, by decide +kernel⟩
theorem cs_X6_83 : CS RX6 83 yX6_litIn cX6_litIn 3 (some .int) 1 := ⟨wd_976, wd_977, wd_6, wd_978, by decide +kernel, by decide +kernel, by decide +kernel⟩
theorem cs_X6_87 : CS RX6 87 yX6_hangBy cX6_hangBy 6 (some .int) 2 := ⟨wd_1039, wd_1040, wd_6, wd_1041, by decide +kernel, by decide +kernel, by decide +kernel⟩
theorem cs_X6_90 : CS RX6 90 yX6_night cX6_night 5 (some .int) 1 := ⟨wd_973, wd_974, wd_6, wd_975, by decide +kernel, by decide +kernel, by decide +kernel⟩
theorem cv_X6_100 : CV RX6 100 yX6_here cX6_here 1 (some .int) 0 := ⟨wd_929, wd_931, wp_18, wd_6, wd_932, by decide +kernel, by decide +kernel, by decide +kernel⟩
theorem cs_X6_104 : CS RX6 104 yX6_kindBy cX6_kindBy 1 (some .int) 1 := ⟨wd_944, wd_945, wd_6, wd_946, by decide +kernel, by decide +kernel, by decide +kernel⟩
theorem cv_X6_107 : CV RX6 107 yX6_readsNumber cX6_readsNumber 4 (some .boolean) 2 := ⟨wd_933, wd_935, wp_19, wd_6, wd_936, by decide +kernel, by decide +kernel, by decide +kernel⟩
theorem cv_X6_110 : CV RX6 110 yX6_readsKind cX6_readsKind 1 (some .boolean) 0 := ⟨wd_940, wd_942, wp_20, wd_6, wd_943, by decide +kernel, by decide +kernel, by decide +kernel⟩
theorem cs_X6_114 : CS RX6 114 yX6_isCell cX6_isCell 1 (some .boolean) 1 := ⟨wd_954, wd_955, wd_6, wd_956, by decide +kernel, by decide +kernel, by decide +kernel⟩
theorem cs_X6_118 : CS RX6 118 yX6_adds cX6_adds 5 none 4 := ⟨wd_957, wd_958, wd_6, wd_959, by decide +kernel, by decide +kernel, by decide +kernel⟩
theorem cv_X6_122 : CV RX6 122 yX6_isHouse cX6_isHouse 2 (some .boolean) 1 := ⟨wd_963, wd_965, wp_22, wd_6, wd_966, by decide +kernel, by decide +kernel, by decide +kernel⟩
theorem cs_X6_125 : CS RX6 125 yX6_least cX6_least 2 (some .int) 2 := ⟨wd_967, wd_968, wd_6, wd_969, by decide +kernel, by decide +kernel, by decide +kernel⟩
theorem cs_X6_128 : CS RX6 128 yX6_nightsOn cX6_nightsOn 4 (some .int) 2 := ⟨wd_970, wd_971, wd_6, wd_972, by decide +kernel, by decide +kernel, by decide +kernel⟩
theorem cv_X6_131 : CV RX6 131 yX6_readsStatement cX6_readsStatement 3 (some .boolean) 0 := ⟨wd_925, wd_927, wp_17, wd_6, wd_928, by decide +kernel, by decide +kernel, by decide +kernel⟩
theorem cs_X6_134 : CS RX6 134 yX6_copies cX6_copies 3 none 2 := ⟨wd_947, wd_948, wd_6, wd_949, by decide +kernel, by decide +kernel, by decide +kernel⟩
theorem cv_X6_138 : CV RX6 138 yX6_isDone cX6_isDone 5 (some .boolean) 1 := ⟨wd_950, wd_952, wp_21, wd_6, wd_953, by decide +kernel, by decide +kernel, by decide +kernel⟩
theorem cs_X6_141 : CS RX6 141 yX6_wrongBy cX6_wrongBy 3 (some .int) 3 := ⟨wd_1009, wd_1010, wd_6, wd_1011, by decide +kernel, by decide +kernel, by decide +kernel⟩
theorem cs_X6_145 : CS RX6 145 yX6_hangIn cX6_hangIn 1 (some .int) 1 := ⟨wd_1036, wd_1037, wd_6, wd_1038, by decide +kernel, by decide +kernel, by decide +kernel⟩
theorem cs_X6_148 : CS RX6 148 yX6_bits cX6_bits 3 (some .int) 1 := ⟨wd_1051, wd_1052, wd_6, wd_1053, by decide +kernel, by decide +kernel, by decide +kernel⟩
theorem cv_X6_151 : CV RX6 151 yX6_takes cX6_takes 2 (some .int) 1 := ⟨wd_1058, wd_1060, wp_23, wd_6, wd_1061, by decide +kernel, by decide +kernel, by decide +kernel⟩
theorem cv_X6_154 : CV RX6 154 yX6_darkOf cX6_darkOf 4 (some .int) 1 := ⟨wd_1074, wd_1076, wp_24, wd_6, wd_1077, by decide +kernel, by decide +kernel, by decide +kernel⟩
theorem cv_X6_158 : CV RX6 158 yX6_firstDark cX6_firstDark 6 (some .int) 0 := ⟨wd_1082, wd_1084, wp_25, wd_6, wd_1085, by decide +kernel, by decide +kernel, by decide +kernel⟩
theorem cv_X6_161 : CV RX6 161 yX6_whole cX6_whole 3 (some .int) 0 := ⟨wd_1087, wd_1089, wp_26, wd_6, wd_1090, by decide +kernel, by decide +kernel, by decide +kernel⟩
theorem cv_X6_164 : CV RX6 164 yX6_hangsIn cX6_hangsIn 5 (some .int) 1 := ⟨wd_1127, wd_1129, wp_28, wd_6, wd_1130, by decide +kernel, by decide +kernel, by decide +kernel⟩
theorem cv_X6_167 : CV RX6 167 yX6_hangsCalled cX6_hangsCalled 4 (some .int) 2 := ⟨wd_1123, wd_1125, wp_27, wd_6, wd_1126, by decide +kernel, by decide +kernel, by decide +kernel⟩
theorem cv_X6_170 : CV RX6 170 yX6_brings cX6_brings 5 none 0 := ⟨wd_1135, wd_1137, wp_29, wd_6, wd_1138, by decide +kernel, by decide +kernel, by decide +kernel⟩
theorem cv_X6_173 : CV RX6 173 yX6_nextOf cX6_nextOf 3 (some .int) 1 := ⟨wd_1139, wd_1141, wp_30, wd_6, wd_1142, by decide +kernel, by decide +kernel, by decide +kernel⟩
theorem cv_X6_176 : CV RX6 176 yX6_hasBy cX6_hasBy 9 (some .int) 5 := ⟨wd_1171, wd_1173, wp_31, wd_6, wd_1174, by decide +kernel, by decide +kernel, by decide +kernel⟩
theorem cs_X6_180 : CS RX6 180 yX6_gcd cX6_gcd 10 (some .long) 2 := ⟨wd_1191, wd_1192, wd_6, wd_1193, by decide +kernel, by decide +kernel, by decide +kernel⟩
theorem cv_X6_184 : CV RX6 184 yX6_noWide cX6_noWide 2 (some .long) 1 := ⟨wd_1179, wd_1181, wp_32, wd_6, wd_1182, by decide +kernel, by decide +kernel, by decide +kernel⟩
theorem cv_X6_188 : CV RX6 188 yX6_doesHangBy cX6_doesHangBy 6 (some .boolean) 3 := ⟨wd_1184, wd_1186, wp_33, wd_6, wd_1187, by decide +kernel, by decide +kernel, by decide +kernel⟩
theorem cs_X6_191 : CS RX6 191 yX6_partOf cX6_partOf 5 (some .long) 3 := ⟨wd_1188, wd_1189, wd_6, wd_1190, by decide +kernel, by decide +kernel, by decide +kernel⟩
theorem cv_X6_200 : CV RX6 200 yX6_isHangSo cX6_isHangSo 4 (some .boolean) 0 := ⟨wd_1203, wd_1205, wp_34, wd_6, wd_1206, by decide +kernel, by decide +kernel, by decide +kernel⟩
theorem cv_X6_209 : CV RX6 209 yX6_drawn cX6_drawn 2 (some .int) 1 := ⟨wd_1227, wd_1229, wp_35, wd_6, wd_1230, by decide +kernel, by decide +kernel, by decide +kernel⟩
theorem cs_X6_212 : CS RX6 212 yX6_allWicks cX6_allWicks 3 (some .int) 1 := ⟨wd_1234, wd_1235, wd_6, wd_1236, by decide +kernel, by decide +kernel, by decide +kernel⟩
theorem cv_J0_335 : CV RJ0 335 yJ0_coder_7d493 cJ0_coder_7d493 1 (some .byte) 0 := ⟨wd_222, wd_223, wd_224, wd_7, wd_225, by decide +kernel, by decide +kernel, by decide +kernel⟩
theorem cv_J0_492 : CV RJ0 492 yJ0_isLatin1_aae02 cJ0_isLatin1_aae02 1 (some .boolean) 0 := ⟨wd_232, wd_233, wd_234, wd_7, wd_235, by decide +kernel, by decide +kernel, by decide +kernel⟩
theorem cs_J0_495 : CS RJ0 495 yJ1_charAt_3b067 cJ1_charAt_3b067 2 (some .char) 2 := ⟨wd_236, wd_237, wd_8, wd_238, by decide +kernel, by decide +kernel, by decide +kernel⟩
theorem cs_J0_498 : CS RJ0 498 yJ2_charAt_3b067 cJ2_charAt_3b067 2 (some .char) 2 := ⟨wd_247, wd_248, wd_10, wd_249, by decide +kernel, by decide +kernel, by decide +kernel⟩
theorem cv_J0_505 : CV RJ0 505 yJ0_length_8abf5 cJ0_length_8abf5 1 (some .int) 0 := ⟨wd_278, wd_219, wd_220, wd_7, wd_221, by decide +kernel, by decide +kernel, by decide +kernel⟩
theorem cv_J0_633 : CV RJ0 633 yJ0_indexOf_7cf53 cJ0_indexOf_7cf53 3 (some .int) 2 := ⟨wd_274, wd_275, wd_276, wd_7, wd_277, by decide +kernel, by decide +kernel, by decide +kernel⟩
theorem cs_J0_637 : CS RJ0 637 yJ1_indexOf_4cfef cJ1_indexOf_4cfef 4 (some .int) 4 := ⟨wd_279, wd_280, wd_8, wd_281, by decide +kernel, by decide +kernel, by decide +kernel⟩
theorem cs_J0_640 : CS RJ0 640 yJ2_indexOf_4cfef cJ2_indexOf_4cfef 4 (some .int) 4 := ⟨wd_294, wd_295, wd_10, wd_296, by decide +kernel, by decide +kernel, by decide +kernel⟩
theorem cs_J0_1059 : CS RJ0 1059 yJ3_checkIndex_8e157 cJ3_checkIndex_8e157 3 (some .int) 3 := ⟨wd_244, wd_245, wd_9, wd_246, by decide +kernel, by decide +kernel, by decide +kernel⟩
theorem cs_J0_1062 : CS RJ0 1062 yJ3_checkFromToIndex_8c36e cJ3_checkFromToIndex_8c36e 4 (some .int) 4 := ⟨wd_309, wd_310, wd_9, wd_311, by decide +kernel, by decide +kernel, by decide +kernel⟩
theorem cs_J1_9 : CS RJ1 9 yJ0_checkIndex_df160 cJ0_checkIndex_df160 2 none 2 := ⟨wd_239, wd_240, wd_7, wd_241, by decide +kernel, by decide +kernel, by decide +kernel⟩
theorem cs_J1_38 : CS RJ1 38 yJ9_min_7cf53 cJ9_min_7cf53 2 (some .int) 2 := ⟨wd_288, wd_289, wd_11, wd_290, by decide +kernel, by decide +kernel, by decide +kernel⟩
theorem cs_J1_88 : CS RJ1 88 yJ1_canEncode_9a6ad cJ1_canEncode_9a6ad 1 (some .boolean) 1 := ⟨wd_282, wd_283, wd_8, wd_284, by decide +kernel, by decide +kernel, by decide +kernel⟩
theorem cs_J1_92 : CS RJ1 92 yJ9_max_7cf53 cJ9_max_7cf53 2 (some .int) 2 := ⟨wd_285, wd_286, wd_11, wd_287, by decide +kernel, by decide +kernel, by decide +kernel⟩
theorem cs_J1_95 : CS RJ1 95 yJ1_indexOfChar_4cfef cJ1_indexOfChar_4cfef 6 (some .int) 4 := ⟨wd_291, wd_292, wd_8, wd_293, by decide +kernel, by decide +kernel, by decide +kernel⟩
theorem cs_J2_48 : CS RJ2 48 yJ2_length_9d52b cJ2_length_9d52b 1 (some .int) 1 := ⟨wd_253, wd_254, wd_10, wd_255, by decide +kernel, by decide +kernel, by decide +kernel⟩
theorem cs_J2_67 : CS RJ2 67 yJ2_checkIndex_2214a cJ2_checkIndex_2214a 2 none 2 := ⟨wd_250, wd_251, wd_10, wd_252, by decide +kernel, by decide +kernel, by decide +kernel⟩
theorem cs_J2_71 : CS RJ2 71 yJ2_getChar_3b067 cJ2_getChar_3b067 2 (some .char) 2 := ⟨wd_257, wd_258, wd_10, wd_259, by decide +kernel, by decide +kernel, by decide +kernel⟩
theorem cs_J2_96 : CS RJ2 96 yJ2_checkBoundsBeginEnd_d044e cJ2_checkBoundsBeginEnd_d044e 3 none 3 := ⟨wd_303, wd_304, wd_10, wd_305, by decide +kernel, by decide +kernel, by decide +kernel⟩
theorem cs_J2_157 : CS RJ2 157 yJ11_highSurrogate_5068e cJ11_highSurrogate_5068e 1 (some .char) 1 := ⟨wd_321, wd_322, wd_12, wd_323, by decide +kernel, by decide +kernel, by decide +kernel⟩
theorem cs_J2_161 : CS RJ2 161 yJ11_lowSurrogate_5068e cJ11_lowSurrogate_5068e 1 (some .char) 1 := ⟨wd_325, wd_326, wd_12, wd_327, by decide +kernel, by decide +kernel, by decide +kernel⟩
theorem cs_J2_164 : CS RJ2 164 yJ11_isValidCodePoint_9a6ad cJ11_isValidCodePoint_9a6ad 2 (some .boolean) 1 := ⟨wd_318, wd_319, wd_12, wd_320, by decide +kernel, by decide +kernel, by decide +kernel⟩
theorem cs_J2_183 : CS RJ2 183 yJ9_min_7cf53 cJ9_min_7cf53 2 (some .int) 2 := ⟨wd_298, wd_289, wd_11, wd_290, by decide +kernel, by decide +kernel, by decide +kernel⟩
theorem cs_J2_224 : CS RJ2 224 yJ9_max_7cf53 cJ9_max_7cf53 2 (some .int) 2 := ⟨wd_297, wd_286, wd_11, wd_287, by decide +kernel, by decide +kernel, by decide +kernel⟩
theorem cs_J2_228 : CS RJ2 228 yJ2_indexOfChar_4cfef cJ2_indexOfChar_4cfef 4 (some .int) 4 := ⟨wd_300, wd_301, wd_10, wd_302, by decide +kernel, by decide +kernel, by decide +kernel⟩
theorem cs_J2_232 : CS RJ2 232 yJ2_indexOfSupplementary_4cfef cJ2_indexOfSupplementary_4cfef 7 (some .int) 4 := ⟨wd_315, wd_316, wd_10, wd_317, by decide +kernel, by decide +kernel, by decide +kernel⟩
theorem cs_J2_241 : CS RJ2 241 yJ0_checkBoundsBeginEnd_23922 cJ0_checkBoundsBeginEnd_23922 3 none 3 := ⟨wd_306, wd_307, wd_7, wd_308, by decide +kernel, by decide +kernel, by decide +kernel⟩
theorem cs_J2_244 : CS RJ2 244 yJ2_indexOfCharUnsafe_4cfef cJ2_indexOfCharUnsafe_4cfef 5 (some .int) 4 := ⟨wd_312, wd_313, wd_10, wd_314, by decide +kernel, by decide +kernel, by decide +kernel⟩
theorem cs_J2_414 : CS RJ2 414 yJ0_checkIndex_df160 cJ0_checkIndex_df160 2 none 2 := ⟨wd_256, wd_240, wd_7, wd_241, by decide +kernel, by decide +kernel, by decide +kernel⟩
theorem cn_X1_62 : CN RX1 62 yX5_has RX5 cX5_has 2 (some .boolean) 2 := ⟨by simp only [NWl]; simp, wd_400, wd_1, wd_401, by decide +kernel, by decide +kernel, by decide +kernel⟩
theorem cn_X3_68 : CN RX3 68 yX5_has RX5 cX5_has 2 (some .boolean) 2 := ⟨by simp only [NWl]; simp, wd_400, wd_1, wd_401, by decide +kernel, by decide +kernel, by decide +kernel⟩
theorem cn_X4_80 : CN RX4 80 yX5_has RX5 cX5_has 2 (some .boolean) 2 := ⟨by simp only [NWl]; simp, wd_400, wd_1, wd_401, by decide +kernel, by decide +kernel, by decide +kernel⟩
theorem w_ac : Cond.native arraycopyName ∈ GT ∧ Cond.static arraycopyName ∈ GT ∧ Cond.initialized "java/lang/System" ∈ GT := ⟨wd_335, wd_334, wd_13⟩
abbrev Qi (below : List Frame) (G : EnT) (C1 : va_W) (r : Int32) (A0 : Nat → Prop) (args : Array Value) (s : State) : State → Prop := MQ below (va_Qi (fun (r' : Int32) (_ : Unit) => r' = r) (Bk G C1 A0) A0) args s 0 0 A0
abbrev Ql (below : List Frame) (G : EnT) (C1 : va_W) (r : Int64) (A0 : Nat → Prop) (args : Array Value) (s : State) : State → Prop := MQ below (va_Ql (fun (r' : Int64) (_ : Unit) => r' = r) (Bk G C1 A0) A0) args s 0 0 A0
abbrev Qv (below : List Frame) (G : EnT) (C1 : va_W) (A0 : Nat → Prop) (args : Array Value) (s : State) : State → Prop := MQ below (va_Qv (fun (_ : Unit) => True) (Bk G C1 A0) A0) args s 0 0 A0
abbrev remI (a b : Int32) : Int32 := a - a / b * b
abbrev remL (a b : Int64) : Int64 := a - a / b * b
abbrev ushrI (x y : Int32) : Int32 := (x.toUInt32 >>> (y.toUInt32 &&& Int32.toUInt32 31)).toInt32
abbrev i2cI (x : Int32) : Int32 := (x.toUInt32 % 65536).toInt32
abbrev i2bI (x : Int32) : Int32 := x.toInt8.toInt32
abbrev minI (x y : Int32) : Int32 := if y < x then y else x
abbrev maxI (x y : Int32) : Int32 := if x < y then y else x
theorem of_nguard {β : Type} {c : Prop} [Decidable c] {a : Option β} {o : β} (h : (if c then none else a) = some o) : ¬ c ∧ a = some o := by
  by_cases q : c
  · rw [if_pos q] at h; cases h
  · rw [if_neg q] at h; exact ⟨q, h⟩
theorem x_ne {x y : Int32} (h : ¬ x = y) {z : Int} (hz : y.toInt = z) : x.toInt ≠ z := fun q => h (Int32.toInt_inj.mp (q.trans hz.symm))
theorem arrV_cong {cI : ClassId} {n : Nat} {f g : Nat → Value} (h : ∀ j, j < n → f j = g j) : arrV cI n f = arrV cI n g := by
  unfold arrV
  congr 2
  funext j
  exact h j.val j.isLt
theorem va_P_swap {D : va_G} {cl : List vw_C} {ws : va_W} {q1 a : Nat} {e e' : va_E} {H : Heap} (h : va_P D cl (ws.set q1 (a, e)) H) (he : va_at D cl (a, e) H → va_at D cl (a, e') H) : va_P D cl (ws.set q1 (a, e')) H := by
  intro k q hk
  have hl : k < ws.length := by
    have := (List.getElem?_eq_some_iff.mp hk).1
    simpa using this
  by_cases hkq : k = q1
  · subst hkq
    rw [List.getElem?_set_self hl] at hk
    cases hk
    exact he (h k _ (by rw [List.getElem?_set_self hl]))
  · rw [List.getElem?_set_ne (Ne.symm hkq)] at hk
    exact h k q (by rw [List.getElem?_set_ne (Ne.symm hkq)]; exact hk)
section XR2
variable {p : Program} {l : Launch} {e : Env} {R : Room} {s : State} {m : MethodId} {args : Array Value} {below : List Frame} {meth : Method} {c : Code} {H : Heap} {locs : List Loc} {cells slots : Nat} {Q : State → Prop}
variable {pc : Nat} {ls : Array Slot} {rest st0 : List Value} {A0 : Nat → Prop} {G : EnT} {b : Bool} {cc : ByteArray} {nL : Nat} {own : String} {ws : va_W} {a : Nat}
theorem x_tableIn {x y : Int32} (hxy : x = y) (hexec : p.tables.exec = Jvm.exec) (hb : c.code = cc) {dflt lo hi : Int} {offs : Array Int} {len : Nat} {off : Int} {tgt : Nat} (hdg : decode cc pc = .ok (.tableswitch dflt lo hi offs, len)) (h1 : ¬ y.toInt < lo) (h2 : ¬ hi < y.toInt) (ho : offs[(y.toInt - lo).toNat]? = some off) (ht : (pc : Int) + off = (tgt : Int))
    (k : W p l e R s m args below meth c H locs cells slots Q (F0 m tgt ls rest)) : W p l e R s m args below meth c H locs cells slots Q (F0 m pc ls (.int x :: rest)) := by
  subst hxy
  exact lv_tableIn hexec hb hdg h1 h2 ho ht k
theorem x_lookIn {x y : Int32} (hxy : x = y) (hexec : p.tables.exec = Jvm.exec) (hb : c.code = cc) {dflt : Int} {ps : Array (Int × Int)} {len : Nat} {off : Int} {tgt : Nat} (hdg : decode cc pc = .ok (.lookupswitch dflt ps, len)) (hp : (ps.toList.zip (ps.toList.drop 1)).all (fun (a, next) => a.1 < next.1) = true) (ho : Op.lookupswitch.offset ps.toList dflt y.toInt = off) (ht : (pc : Int) + off = (tgt : Int))
    (k : W p l e R s m args below meth c H locs cells slots Q (F0 m tgt ls rest)) : W p l e R s m args below meth c H locs cells slots Q (F0 m pc ls (.int x :: rest)) := by
  subst hxy
  exact lv_lookup hexec hb hdg hp ho ht k
theorem x_copy {lv : List (Nat × Value)} (F : Fx p s m args meth c cc nL own G b A0) (hW : Wd G A0 s ws H locs) (hl : lv_has ls nL lv) (q0 q1 : Nat) {a0 n index : Nat} {f g : Nat → Int32} (ha0 : ws[q0]? = some (a0, .inl (G.2.1, n, .inl f))) (ha1 : ws[q1]? = some (a, .inl (G.2.1, n, .inl g))) {ws' : va_W} (hs : ws.set q1 (a, .inl (G.2.1, n, .inl f)) = ws') (hlink : (Cond.methodLink own index arraycopyName).before args s = true) {N : Int32} (hN : ¬ N < 0 ∧ N.toNatClampNeg = n)
    (hframes : 1 ≤ R.frames) (hlocals : (rest.map fun v => v.category).sum + (nativeFrameWords "java/lang/System" "arraycopy" 5 + 11) ≤ R.locals) (hdg : decode cc pc = .ok (.invokestatic index, 3))
    (kk : ∀ (H1 : Heap) (locs1 : List Loc), Wd G A0 s ws' H1 locs1 → W p l e R s m args below meth c H1 locs1 cells slots Q (F0 m (pc + 3) ls rest)) : W p l e R s m args below meth c H locs cells slots Q (F0 m pc ls (.int N :: .int 0 :: .ref a :: .int 0 :: .ref a0 :: rest)) := by
  obtain ⟨hx, hb, hml, hown, hts, hK, -⟩ := F
  obtain ⟨hN0, rfl⟩ := hN
  have z : (0 : Int32).toNatClampNeg = 0 := by decide
  refine va_copyi hx hb (hml.trans hl.1.symm) hown hlink (hts _ w_ac.1) (hts _ w_ac.2.1) (hts _ w_ac.2.2) hK hW.1 hW.2.1 hW.2.2 q0 q1 0 0 ha0 ha1 rfl rfl rfl (by decide) (by decide) hN0 (by rw [z]; omega) (by rw [z]; omega) (fun i _ => rfl) hframes hlocals hdg (fun H1 locs1 h1 h2 h3 => kk H1 locs1 ?_)
  subst hs
  refine ⟨va_P_swap h1 (fun q => ?_), hW.2.1.set ha1, h3⟩
  have q : H1[a]? = some (vp_cell G.2.1 (N.toNatClampNeg, .inl (va_cpy f g (0 : Int32).toNatClampNeg (0 : Int32).toNatClampNeg N.toNatClampNeg))) := q
  show H1[a]? = some (vp_cell G.2.1 (N.toNatClampNeg, .inl f))
  rw [q, vp_cell_i, vp_cell_i]
  congr 1
  refine arrV_cong fun j hj => ?_
  rw [z, pk_cpy_in (Nat.zero_le j) (by omega)]
  simp
end XR2

theorem inR_nI {k n : Nat} (h : k < n) (hn : n < 2 ^ 31) : inR (nI k) n = true := by
  simp only [inR, Bool.and_eq_true, Bool.not_eq_true', decide_eq_false_iff_not, decide_eq_true_eq]
  exact ⟨nI_pos (by omega), by rw [nI_clamp (by omega)]; exact h⟩
/-- a world whose one row is told otherwise, the same as far as the row goes -/
theorem va_P_arr {D : va_G} {cl : List vw_C} (u v : va_W) {a n : Nat} {cI : ClassId} {f g : Nat → Int32} {H : Heap} (h : ∀ j, j < n → f j = g j) (hP : va_P D cl (u ++ (a, .inl (cI, n, .inl f)) :: v) H) : va_P D cl (u ++ (a, .inl (cI, n, .inl g)) :: v) H := by
  have e : u ++ (a, (Sum.inl (cI, n, Sum.inl g) : va_E)) :: v = (u ++ (a, .inl (cI, n, .inl f)) :: v).set u.length (a, .inl (cI, n, .inl g)) := by
    rw [List.set_append_right _ _ (Nat.le_refl _), Nat.sub_self, List.set_cons_zero]
  have e0 : u ++ (a, (Sum.inl (cI, n, Sum.inl f) : va_E)) :: v = (u ++ (a, .inl (cI, n, .inl f)) :: v).set u.length (a, .inl (cI, n, .inl f)) := by
    rw [List.set_append_right _ _ (Nat.le_refl _), Nat.sub_self, List.set_cons_zero]
  rw [e]
  rw [e0] at hP
  refine va_P_swap hP (fun q => ?_)
  have q : H[a]? = some (vp_cell cI (n, .inl f)) := q
  show H[a]? = some (vp_cell cI (n, .inl g))
  rw [q, vp_cell_i, vp_cell_i]
  congr 1
  exact arrV_cong fun j hj => by rw [h j hj]
theorem va_D_arr {A : Nat → Prop} (u v : va_W) {a : Nat} {e e' : va_E} (hD : va_D A (u ++ (a, e) :: v)) : va_D A (u ++ (a, e') :: v) := by
  have h0 : (u ++ (a, e) :: v)[u.length]? = some (a, e) := by simp
  have := hD.set (e := e') h0
  rwa [List.set_append_right _ _ (Nat.le_refl _), Nat.sub_self, List.set_cons_zero] at this
theorem Met_imp {l : Launch} {y : MethodName} {ws : List Cond} {rm : Room} {Pc : Array Value → State → Prop} {Qc Qd : Array Value → State → Outcome → State → Prop} {mc ms : Nat} {free : Addr → Prop} (h : Met l y ws rm Pc Qc mc ms free) (hq : ∀ a st o t, Qc a st o t → Qd a st o t) : Met l y ws rm Pc Qd mc ms free := by
  intro p e ha hc hk s m args below hf happ hP hK
  obtain ⟨n, o, h1, h2, h3, h4, h5⟩ := h p e ha hc hk s m args below hf happ hP hK
  exact ⟨n, o, h1, h2, h3, hq _ _ _ _ h4, h5⟩
theorem Mv_imp {l : Launch} {y : MethodName} {rm : Room} {cc : ByteArray} {nL : Nat} {ret : Option FieldType} {G : EnT} {b : Bool} {av : List Value} {C0 C1 C2 : va_W} (h : Mv l y rm cc nL ret G b av C0 C1) (hP : ∀ H, va_P G.1 vwCl C1 H → va_P G.1 vwCl C2 H) (hD : ∀ A, va_D A C1 → va_D A C2) : Mv l y rm cc nL ret G b av C0 C2 := fun sz => Met_imp (h sz) (fun a st o t q => by
  obtain ⟨⟨u, h1, h2, h3⟩, h4⟩ := q
  exact ⟨⟨u, h1, h2, hP _ h3.1, hD _ h3.2⟩, h4⟩)
abbrev Qr (below : List Frame) (G : EnT) (C1 : va_W) (r : Nat) (A0 : Nat → Prop) (args : Array Value) (s : State) : State → Prop := MQ below (va_Qr (fun (_ : Unit) => True) (fun u a t => a = r ∧ Bk G C1 A0 u t) A0) args s 0 0 A0
section XT
variable {p : Program} {l : Launch} {e : Env} {R : Room} {s : State} {m : MethodId} {args : Array Value} {below : List Frame} {meth : Method} {c : Code} {H : Heap} {locs : List Loc} {cells slots : Nat} {Q : State → Prop}
variable {pc : Nat} {ls : Array Slot} {rest st0 : List Value} {A0 : Nat → Prop} {G : EnT} {b b' : Bool} {cc : ByteArray} {nL : Nat} {own : String} {ws C1 : va_W} {lv : List (Nat × Value)}
variable {y : MethodName} {rm : Room} {bytes : ByteArray} {maxL : Nat} {ret : Option FieldType} {av As : List Value} {index : Nat}
theorem x_retr (F : Fx p s m args meth c cc nL own G b A0) (hr : meth.sig.returnType = some (.object "java/lang/String")) {v r : Nat} (hW : Wd G A0 s C1 H locs) (hv : v = r) (hdg : decode cc pc = .ok (.areturn, 1)) : W p l e R s m args below meth c H locs 0 0 (MQ below (va_Qr (fun (_ : Unit) => True) (fun u a t => a = r ∧ Bk G C1 A0 u t) A0) args s 0 0 A0) (F0 m pc ls [.ref v]) := by
  obtain ⟨hx, hb, hml, hown, hts, hK, hN, hlocks, -⟩ := F
  exact W.aret hx hb hr (Or.inl ⟨_, rfl⟩) (Or.inr ⟨v, rfl⟩) (fun t ht hw => ⟨⟨(), v, rfl, trivial, hv, by rw [ht]; exact hW.1, hW.2.1⟩, hW.2.2.F ht⟩) hW.2.2.2.2 hdg
theorem x_retn {ty : FieldType} (F : Fx p s m args meth c cc nL own G b A0) (hr : meth.sig.returnType = some ty) {v r : Int32} (hW : Wd G A0 s C1 H locs) (hn : narrow ty (.int v) = .int v) (hv : v = r) (hdg : decode cc pc = .ok (.ireturn, 1)) : W p l e R s m args below meth c H locs 0 0 (MQ below (va_Qi (fun (r' : Int32) (_ : Unit) => r' = r) (Bk G C1 A0) A0) args s 0 0 A0) (F0 m pc ls [.int v]) := by
  obtain ⟨hx, hb, hml, hown, hts, hK, hN, hlocks, -⟩ := F
  exact W.zret (ty := ty) hx hb hr hn (fun t ht hw => ⟨⟨v, (), rfl, hv, by rw [ht]; exact hW.1, hW.2.1⟩, hW.2.2.F ht⟩) hW.2.2.2.2 hdg
theorem x_keep {H1 : Heap} {locs1 : List Loc} (hW : Wd G A0 s ws H locs) (hk : ∀ q : Nat, q < H.size → ¬ va_A [] H.size q → H1[q]? = H[q]?) (hS : va_S A0 s.heap H1 locs1) : Wd G A0 s ws H1 locs1 := by
  refine ⟨hW.1.kept (fun k q hq => hk q.1 (hW.1 k q hq).lt ?_), hW.2.1, hS⟩
  intro h
  rcases h with ⟨k2, e2, h⟩ | h
  · simp at h
  · have := (hW.1 k q hq).lt
    omega
theorem x_runT {i : Nat} (F : Fx p s m args meth c cc nL own G b A0) (hW : Wd G A0 s ws H locs) (hb : b' = true → b = true) (hi : i < 6) (hbt : b = true)
    {n : Nat} (hcv : CV own index y bytes maxL ret n) (hcls : y.cls = "java/lang/String") (hav : av = .ref (G.2.2.1 i) :: As) (hlen : As.length = n) (hst : st0 = As.reverse ++ .ref (G.2.2.1 i) :: rest) (hl : lv_has ls nL lv) (hro : (rest.map fun v => v.category).sum ≤ 8)
    (hR : rm.frames + 1 ≤ R.frames ∧ 8 + (maxL + 11) + rm.locals ≤ R.locals) (hrc : rm.cells = 0 ∧ rm.slots = 0) (hcs : cells ≤ R.cells ∧ slots ≤ R.slots) (hdg : decode cc pc = .ok (.invokevirtual index, 3))
    {Qc : Array Value → State → Outcome → State → Prop} (hM : Met l y (.code y bytes maxL ret :: GT) rm (va_Pc av (Pq G b' [] H.size)) Qc 0 0 (va_A [] H.size)) :
    va_Run p l e R s m args below meth c H locs cells slots 0 0 (F0 m pc ls st0) rest (Qc av.toArray) (va_A [] H.size) := by
  have hpre := x_pre F hW [] (C0 := []) rfl rfl hb
  obtain ⟨hx, hb', hml, hown, hts, hK, hN, hlocks, hA, hSX⟩ := F
  obtain ⟨w1, w2, w3, w4, w5, w6, w7, w8⟩ := hcv
  subst hav
  have cw : CallW R s args own y.cls index y bytes maxL ret (.code y bytes maxL ret :: GT) rm 0 0 n := by
    refine cwV n hts (GT_goodIn ?_) rfl hrc.1 hrc.2 ⟨rfl, w6, w7, w8⟩ hR
    intro w hw
    unfold wsV at hw
    simp only [List.mem_append, List.mem_cons, List.not_mem_nil, or_false] at hw
    rcases hw with (rfl | rfl | rfl | rfl) | rfl | hw
    · exact w1
    · exact w2
    · exact w3
    · exact w4
    · exact w5
    · exact hw
  refine va_runV (As := As) (rest := rest) (Ts := GT) ⟨hx, hb', hml, hown, hts⟩ hM cw ⟨Pq_blind, ?_, fun U hU hw => ⟨rfl, hpre U hU hw⟩⟩ rfl hlen hl.1 hst (lv_room hro) hdg ⟨hcs.1, hcs.2⟩
  rw [hcls]
  exact vk_recv (hSX hbt).1 hi hW.2.2
theorem x_Ti {r : Int32} {i : Nat} (F : Fx p s m args meth c cc nL own G b A0) (hW : Wd G A0 s ws H locs) (hM : Mi l y rm bytes maxL ret G b' av [] r []) (hb : b' = true → b = true) (hi : i < 6) (hbt : b = true)
    {n : Nat} (hcv : CV own index y bytes maxL ret n) (hcls : y.cls = "java/lang/String") (hav : av = .ref (G.2.2.1 i) :: As) (hlen : As.length = n) (hst : st0 = As.reverse ++ .ref (G.2.2.1 i) :: rest) (hl : lv_has ls nL lv) (hro : (rest.map fun v => v.category).sum ≤ 8)
    (hR : rm.frames + 1 ≤ R.frames ∧ 8 + (maxL + 11) + rm.locals ≤ R.locals) (hrc : rm.cells = 0 ∧ rm.slots = 0) (hcs : cells ≤ R.cells ∧ slots ≤ R.slots) (hdg : decode cc pc = .ok (.invokevirtual index, 3))
    (kk : ∀ (H1 : Heap) (locs1 : List Loc), Wd G A0 s ws H1 locs1 → W p l e R s m args below meth c H1 locs1 cells slots Q (F0 m (pc + 3) ls (.int r :: rest))) : W p l e R s m args below meth c H locs cells slots Q (F0 m pc ls st0) := by
  have hF := va_free (wc := []) hW.2.1 hW.2.2 F.2.2.2.2.2.2.2.2.1 [] rfl
  refine va_calli (x_runT F hW hb hi hbt hcv hcls hav hlen hst hl hro hR hrc hcs hdg (hM H.size)) hW.2.2 (fun q _ h => hF q h) hF (fun r2 u t H1 locs1 ht hvm hw hB hz hk hS => ?_)
  subst hw
  exact kk H1 locs1 (x_keep hW hk hS)
theorem x_Sr {r : Nat} (F : Fx p s m args meth c cc nL own G b A0) (hW : Wd G A0 s ws H locs) (hM : Mr l y rm bytes maxL ret G b' av [] r []) (hb : b' = true → b = true)
    {n : Nat} (hcv : CS own index y bytes maxL ret n) (hlen : av.length = n) (hst : st0 = av.reverse ++ rest) (hl : lv_has ls nL lv) (hro : (rest.map fun v => v.category).sum ≤ 8)
    (hR : rm.frames + 1 ≤ R.frames ∧ 8 + (maxL + 11) + rm.locals ≤ R.locals) (hrc : rm.cells = 0 ∧ rm.slots = 0) (hcs : cells ≤ R.cells ∧ slots ≤ R.slots) (hdg : decode cc pc = .ok (.invokestatic index, 3))
    (kk : ∀ (H1 : Heap) (locs1 : List Loc), Wd G A0 s ws H1 locs1 → W p l e R s m args below meth c H1 locs1 cells slots Q (F0 m (pc + 3) ls (.ref r :: rest))) : W p l e R s m args below meth c H locs cells slots Q (F0 m pc ls st0) := by
  have hF := va_free (wc := []) hW.2.1 hW.2.2 F.2.2.2.2.2.2.2.2.1 [] rfl
  refine va_callr (x_runS F hW [] rfl rfl hb hcv hlen hst hl hro hR hrc hcs hdg (hM H.size)) hW.2.2 (fun q _ h => hF q h) hF (fun u a t H1 locs1 ht hvm hw hB hz hk hS => ?_)
  obtain ⟨rfl, hB⟩ := hB
  exact kk H1 locs1 (x_keep hW hk hS)
end XT

