def E_letter (I : EW → MW → Prop) : Prop := ∀ (w : EW) (v : MW), I w v → ∀ (x1 : Int32), ∃ (o : Int32 × EW) (p : Int32 × MW), f_X5_letter w x1 = some o ∧ f_X6_letter v x1 = some p ∧ o.1 = p.1 ∧ I o.2 p.2
def E_land (I : EW → MW → Prop) : Prop := ∀ (w : EW) (v : MW), I w v → ∃ (o : Int32 × EW) (p : Int32 × MW), f_X5_land w = some o ∧ f_X6_land v = some p ∧ o.1 = p.1 ∧ I o.2 p.2
def E_house (I : EW → MW → Prop) : Prop := ∀ (w : EW) (v : MW), I w v → ∀ (x1 x2 : Int32), ∃ (o : Int32 × EW) (p : Int32 × MW), f_X5_house w x1 x2 = some o ∧ f_X6_house v x1 x2 = some p ∧ o.1 = p.1 ∧ I o.2 p.2
def E_height (I : EW → MW → Prop) : Prop := ∀ (w : EW) (v : MW), I w v → ∀ (x1 : Int32), ∃ (o : Int32 × EW) (p : Int32 × MW), f_X5_height w x1 = some o ∧ f_X6_height v x1 = some p ∧ o.1 = p.1 ∧ I o.2 p.2
def E_heaps (I : EW → MW → Prop) : Prop := ∀ (w : EW) (v : MW), I w v → ∀ (x1 x2 : Int32), ∃ (o : Int32 × EW) (p : Int32 × MW), f_X5_heaps w x1 x2 = some o ∧ f_X6_heaps v x1 x2 = some p ∧ o.1 = p.1 ∧ I o.2 p.2
def E_moves (I : EW → MW → Prop) : Prop := ∀ (w : EW) (v : MW), I w v → ∀ (x1 x2 : Int32), ∃ (o : Int32 × EW) (p : Int32 × MW), f_X5_moves w x1 x2 = some o ∧ f_X6_moves v x1 x2 = some p ∧ o.1 = p.1 ∧ I o.2 p.2
def E_gives (I : EW → MW → Prop) : Prop := ∀ (w : EW) (v : MW), I w v → ∀ (x1 x2 : Int32), ∃ (o : Int32 × EW) (p : Int32 × MW), f_X5_gives w x1 x2 = some o ∧ f_X6_gives v x1 x2 = some p ∧ o.1 = p.1 ∧ I o.2 p.2
def E_calls (I : EW → MW → Prop) : Prop := ∀ (w : EW) (v : MW), I w v → ∀ (x1 : Int32), ∃ (o : Int32 × EW) (p : Int32 × MW), f_X5_calls w x1 = some o ∧ f_X6_calls v x1 = some p ∧ o.1 = p.1 ∧ I o.2 p.2
def E_fog (I : EW → MW → Prop) : Prop := ∀ (w : EW) (v : MW), I w v → ∀ (x1 : Int32), ∃ (o : Int32 × EW) (p : Int32 × MW), f_X5_fog w x1 = some o ∧ f_X6_fog v x1 = some p ∧ o.1 = p.1 ∧ I o.2 p.2
def E_turn (I : EW → MW → Prop) : Prop := ∀ (w : EW) (v : MW), I w v → ∀ (x1 x2 x3 : Int32), ∃ (o : Int32 × EW) (p : Int32 × MW), f_X5_turn w x1 x2 x3 = some o ∧ f_X6_turn v x1 x2 x3 = some p ∧ o.1 = p.1 ∧ I o.2 p.2
def E_nights (I : EW → MW → Prop) : Prop := ∀ (w : EW) (v : MW), I w v → ∀ (x1 : Int32), ∃ (o : Int32 × EW) (p : Int32 × MW), f_X5_nights w x1 = some o ∧ f_X6_nights v x1 = some p ∧ o.1 = p.1 ∧ I o.2 p.2
def E_litThen (I : EW → MW → Prop) : Prop := ∀ (w : EW) (v : MW), I w v → ∀ (x1 : Int32), ∃ (o : Int32 × EW) (p : Int32 × MW), f_X5_litThen w x1 = some o ∧ f_X6_litThen v x1 = some p ∧ o.1 = p.1 ∧ I o.2 p.2
def E_hangThen (I : EW → MW → Prop) : Prop := ∀ (w : EW) (v : MW), I w v → ∀ (x1 : Int32), ∃ (o : Int32 × EW) (p : Int32 × MW), f_X5_hangThen w x1 = some o ∧ f_X6_hangThen v x1 = some p ∧ o.1 = p.1 ∧ I o.2 p.2
def E_wicksThen (I : EW → MW → Prop) : Prop := ∀ (w : EW) (v : MW), I w v → ∀ (x1 x2 : Int32), ∃ (o : Int32 × EW) (p : Int32 × MW), f_X5_wicksThen w x1 x2 = some o ∧ f_X6_wicksThen v x1 x2 = some p ∧ o.1 = p.1 ∧ I o.2 p.2
def E_dark (I : EW → MW → Prop) : Prop := ∀ (w : EW) (v : MW), I w v → ∀ (x1 : Int32), ∃ (o : Int32 × EW) (p : Int32 × MW), f_X5_dark w x1 = some o ∧ f_X6_dark v x1 = some p ∧ o.1 = p.1 ∧ I o.2 p.2
def E_first (I : EW → MW → Prop) : Prop := ∀ (w : EW) (v : MW), I w v → ∀ (x1 : Int32), ∃ (o : Int32 × EW) (p : Int32 × MW), f_X5_first w x1 = some o ∧ f_X6_first v x1 = some p ∧ o.1 = p.1 ∧ I o.2 p.2
def E_sees (I : EW → MW → Prop) : Prop := ∀ (w : EW) (v : MW), I w v → ∀ (x1 : Int32), ∃ (o : Int32 × EW) (p : Int32 × MW), f_X5_sees w x1 = some o ∧ f_X6_sees v x1 = some p ∧ o.1 = p.1 ∧ I o.2 p.2
def E_hill (I : EW → MW → Prop) : Prop := ∀ (w : EW) (v : MW), I w v → ∀ (x1 x2 : Int32), ∃ (o : Int32 × EW) (p : Int32 × MW), f_X5_hill w x1 x2 = some o ∧ f_X6_hill v x1 x2 = some p ∧ o.1 = p.1 ∧ I o.2 p.2
def E_leastEye (I : EW → MW → Prop) : Prop := ∀ (w : EW) (v : MW), I w v → ∀ (x1 : Int32), ∃ (o : Int32 × EW) (p : Int32 × MW), f_X5_leastEye w x1 = some o ∧ f_X6_leastEye v x1 = some p ∧ o.1 = p.1 ∧ I o.2 p.2
def E_cut (I : EW → MW → Prop) : Prop := ∀ (w : EW) (v : MW), I w v → ∀ (x1 : Int32), ∃ (o : Int32 × EW) (p : Int32 × MW), f_X5_cut w x1 = some o ∧ f_X6_cut v x1 = some p ∧ o.1 = p.1 ∧ I o.2 p.2
def E_build (I : EW → MW → Prop) : Prop := ∀ (w : EW) (v : MW), I w v → ∀ (x1 : Int32), ∃ (o : Int32 × EW) (p : Int32 × MW), f_X5_build w x1 = some o ∧ f_X6_build v x1 = some p ∧ o.1 = p.1 ∧ I o.2 p.2
def E_fell (I : EW → MW → Prop) : Prop := ∀ (w : EW) (v : MW), I w v → ∃ (o : Int32 × EW) (p : Int32 × MW), f_X5_fell w = some o ∧ f_X6_fell v = some p ∧ o.1 = p.1 ∧ I o.2 p.2
def E_raise (I : EW → MW → Prop) : Prop := ∀ (w : EW) (v : MW), I w v → ∃ (o : Int32 × EW) (p : Int32 × MW), f_X5_raise w = some o ∧ f_X6_raise v = some p ∧ o.1 = p.1 ∧ I o.2 p.2
def E_call (I : EW → MW → Prop) : Prop := ∀ (w : EW) (v : MW), I w v → ∀ (x1 : Int32), ∃ (o : Int32 × EW) (p : Int32 × MW), f_X5_call w x1 = some o ∧ f_X6_call v x1 = some p ∧ o.1 = p.1 ∧ I o.2 p.2
def E_news (I : EW → MW → Prop) : Prop := ∀ (w : EW) (v : MW), I w v → ∀ (x1 x2 : Int32), ∃ (o : Int32 × EW) (p : Int32 × MW), f_X5_news w x1 x2 = some o ∧ f_X6_news v x1 x2 = some p ∧ o.1 = p.1 ∧ I o.2 p.2
def E_farthest (I : EW → MW → Prop) : Prop := ∀ (w : EW) (v : MW), I w v → ∃ (o : Int32 × EW) (p : Int32 × MW), f_X5_farthest w = some o ∧ f_X6_farthest v = some p ∧ o.1 = p.1 ∧ I o.2 p.2
def E_spend (I : EW → MW → Prop) : Prop := ∀ (w : EW) (v : MW), I w v → ∀ (x1 : Int32), ∃ (o : Int32 × EW) (p : Int32 × MW), f_X5_spend w x1 = some o ∧ f_X6_spend v x1 = some p ∧ o.1 = p.1 ∧ I o.2 p.2
def E_share (I : EW → MW → Prop) : Prop := ∀ (w : EW) (v : MW), I w v → ∀ (x1 : Int32), ∃ (o : Int32 × EW) (p : Int32 × MW), f_X5_share w x1 = some o ∧ f_X6_share v x1 = some p ∧ o.1 = p.1 ∧ I o.2 p.2
def E_longest (I : EW → MW → Prop) : Prop := ∀ (w : EW) (v : MW), I w v → ∀ (x1 : Int32), ∃ (o : Int32 × EW) (p : Int32 × MW), f_X5_longest w x1 = some o ∧ f_X6_longest v x1 = some p ∧ o.1 = p.1 ∧ I o.2 p.2
def E_fogged (I : EW → MW → Prop) : Prop := ∀ (w : EW) (v : MW), I w v → ∃ (o : Int32 × EW) (p : Int32 × MW), f_X5_fogged w = some o ∧ f_X6_fogged v = some p ∧ o.1 = p.1 ∧ I o.2 p.2
def E_highest (I : EW → MW → Prop) : Prop := ∀ (w : EW) (v : MW), I w v → ∃ (o : Int32) (p : Int32), f_X5_highest w = some o ∧ f_X6_highest v = some p ∧ o = p ∧ I w v
def E_two (I : EW → MW → Prop) : Prop := ∀ (w : EW) (v : MW), I w v → ∀ (x1 x2 : Int32), ∃ (o : Int32 × EW) (p : Int32 × MW), f_X5_two w x1 x2 = some o ∧ f_X6_two v x1 x2 = some p ∧ o.1 = p.1 ∧ I o.2 p.2
def E_mist (I : EW → MW → Prop) : Prop := ∀ (w : EW) (v : MW), I w v → ∀ (x1 x2 x3 x4 : Int32), ∃ (o : Int64 × EW) (p : Int64 × MW), f_X5_mist w x1 x2 x3 x4 = some o ∧ f_X6_mist v x1 x2 x3 x4 = some p ∧ o.1 = p.1 ∧ I o.2 p.2
def E_mean (I : EW → MW → Prop) : Prop := ∀ (w : EW) (v : MW), I w v → ∀ (x1 : Int32), ∃ (o : Int64 × EW) (p : Int64 × MW), f_X5_mean w x1 = some o ∧ f_X6_mean v x1 = some p ∧ o.1 = p.1 ∧ I o.2 p.2
def E_whoSlept (I : EW → MW → Prop) : Prop := ∀ (w : EW) (v : MW), I w v → ∃ (o : Int32 × EW) (p : Int32 × MW), f_X5_whoSlept w = some o ∧ f_X6_whoSlept v = some p ∧ o.1 = p.1 ∧ I o.2 p.2
def E_whatIs (I : EW → MW → Prop) : Prop := ∀ (w : EW) (v : MW), I w v → ∀ (x1 x2 : Int32), ∃ (o : Int32 × EW) (p : Int32 × MW), f_X5_whatIs w x1 x2 = some o ∧ f_X6_whatIs v x1 x2 = some p ∧ o.1 = p.1 ∧ I o.2 p.2
def E_row (I : EW → MW → Prop) : Prop := ∀ (w : EW) (v : MW), I w v → ∀ (x1 : Int32), ∃ (o : Int32 × EW) (p : Int32 × MW), f_X5_row w x1 = some o ∧ f_X6_row v x1 = some p ∧ o.1 = p.1 ∧ I o.2 p.2
def E_judge (I : EW → MW → Prop) : Prop := ∀ (w : EW) (v : MW), I w v → ∃ (o : Int32 × EW) (p : Int32 × MW), f_X5_judge w = some o ∧ f_X6_judge v = some p ∧ o.1 = p.1 ∧ I o.2 p.2
def E_clear (I : EW → MW → Prop) : Prop := ∀ (w : EW) (v : MW), I w v → ∃ (o : Int32 × EW) (p : Int32 × MW), f_X5_clear w = some o ∧ f_X6_clear v = some p ∧ o.1 = p.1 ∧ I o.2 p.2
def E_lots (I : EW → MW → Prop) : Prop := ∀ (w : EW) (v : MW), I w v → ∀ (x1 x2 x3 : Int32), ∃ (o : Int32 × EW) (p : Int32 × MW), f_X5_lots w x1 x2 x3 = some o ∧ f_X6_lots v x1 x2 x3 = some p ∧ o.1 = p.1 ∧ I o.2 p.2
def E_image (I : EW → MW → Prop) : Prop := ∀ (w : EW) (v : MW), I w v → ∃ (o : Int32 × EW) (p : Int32 × MW), f_X5_image w = some o ∧ f_X6_image v = some p ∧ o.1 = p.1 ∧ I o.2 p.2
def E_on (I : EW → MW → Prop) : Prop := ∀ (w : EW) (v : MW), I w v → ∃ (o : Int32 × EW) (p : Int32 × MW), f_X5_on w = some o ∧ f_X6_on v = some p ∧ o.1 = p.1 ∧ I o.2 p.2
def E_count (I : EW → MW → Prop) : Prop := ∀ (w : EW) (v : MW), I w v → ∀ (x1 : Int32), ∃ (o : Int32 × EW) (p : Int32), f_X5_count w x1 = some o ∧ f_X6_count v x1 = some p ∧ o.1 = p ∧ I o.2 v
def AllEq (I : EW → MW → Prop) : Prop := E_letter I ∧ E_land I ∧ E_house I ∧ E_height I ∧ E_heaps I ∧ E_moves I ∧ E_gives I ∧ E_calls I ∧ E_fog I ∧ E_turn I ∧ E_nights I ∧ E_litThen I ∧ E_hangThen I ∧ E_wicksThen I ∧ E_dark I ∧ E_first I ∧ E_sees I ∧ E_hill I ∧ E_leastEye I ∧ E_cut I ∧ E_build I ∧ E_fell I ∧ E_raise I ∧ E_call I ∧ E_news I ∧ E_farthest I ∧ E_spend I ∧ E_share I ∧ E_longest I ∧ E_fogged I ∧ E_highest I ∧ E_two I ∧ E_mist I ∧ E_mean I ∧ E_whoSlept I ∧ E_whatIs I ∧ E_row I ∧ E_judge I ∧ E_clear I ∧ E_lots I ∧ E_image I ∧ E_on I ∧ E_count I
theorem lw_next {L i : Nat} (hL : L ≤ 2560) (hi : i ≤ L) (h : ¬ Int32.ofNat L - (5 : Int32) < nI i) : i + 5 ≤ L := by
  have h1 : ¬ (nI L - nI 5) < nI i := h
  rw [Int32.lt_iff_toInt_lt, pk_sub_toInt (by omega) (by decide), nI_toInt (by omega)] at h1
  omega
theorem lw_in {L i k : Nat} (hL : L ≤ 2560) (h : i + 5 ≤ L) (hk : k < 5) : vp_in (nI i + nI k) L := by
  rw [nI_add]
  exact vp_in_nI (by omega) (by omega)
theorem lw_cmp {x y : Int64} (h : x = y) : lg_cmp x y = 0 := by
  subst h
  unfold lg_cmp
  simp
set_option maxRecDepth 100000 in
set_option maxHeartbeats 40000000 in
theorem law_loop {p : Program} {l : Launch} {e : Env} {s : State} {m : MethodId} {below : List Frame} {meth : Method} {c : Code} {G : EnT} {b L : Nat} {xs : Nat → Int32} (hL : L ≤ 2560) (C0 : lw_At p s m meth c b L xs) (F : Fx p s m #[Value.ref b] meth c code 4 RL G true (fun q : Nat => s.heap.size ≤ q)) {I : EW → MW → Prop} (hall : AllEq I) :
    ∀ (n i : Nat), i ≤ L → L + 1 ≤ i + n → ∀ (w : EW) (v : MW), I w v → ∀ (q q2 : Nat → Nat) (H : Heap) (locs : List Loc), Wd G (fun q : Nat => s.heap.size ≤ q) s (cEW G q w ++ cMW G q2 v) H locs → ∀ ls : Array Slot, lv_has ls 4 [(3, .int (nI i)), (2, .ref (q2 0)), (1, .ref (q 0)), (0, .ref b)] → W p l e room_1 s m #[Value.ref b] below meth c H locs 49 865 (lw_Z below #[Value.ref b] s) (F0 m 18 ls []) := by
  obtain ⟨hx, hb, hr, hml, hown0, hts0, hX, hbl, hlocks, hgv⟩ := C0
  have hbA : ¬ (fun q : Nat => s.heap.size ≤ q) b := Nat.not_le.mpr hbl
  obtain ⟨-, -, -, hown, hts, hK, -⟩ := id F
  obtain ⟨e_letter, e_land, e_house, e_height, e_heaps, e_moves, e_gives, e_calls, e_fog, e_turn, e_nights, e_litThen, e_hangThen, e_wicksThen, e_dark, e_first, e_sees, e_hill, e_leastEye, e_cut, e_build, e_fell, e_raise, e_call, e_news, e_farthest, e_spend, e_share, e_longest, e_fogged, e_highest, e_two, e_mist, e_mean, e_whoSlept, e_whatIs, e_row, e_judge, e_clear, e_lots, e_image, e_on, e_count⟩ := hall
  intro n
  induction n with
  | zero => intro i h1 h2; exact absurd h2 (by omega)
  | succ n ih =>
    intro i hi hin w v I0 q q2 H locs hW ls hl
    refine lv_iload_n hx hb dL_law_18 rfl (lv_at hl 0 rfl) ?_
    refine lv_aload_n hx hb dL_law_19 rfl (lv_at hl 3 rfl) ?_
    refine va_slen hx hb hX hbl hbA hW.2.2 dL_law_20 ?_
    refine lv_iconst (v := (5 : Int32)) hx hb dL_law_21 (by decide) ?_
    refine lv_isub hx hb dL_law_22 ?_
    refine lv_icmp_gt (tgt := 1267) hx hb dL_law_23 (by decide) (fun c_23 => ?_) (fun c_23 => ?_)
    · refine lv_iconst (v := (1 : Int32)) hx hb dL_law_1267 (by decide) ?_
      refine va_forget (fun q hq => hW.2.2.2.2 q hq) ?_
      exact lw_ret hx hb hr hlocks dL_law_1268
    have h5 : i + 5 ≤ L := lw_next hL hi c_23
    have K : ∀ (w : EW) (v : MW) (H : Heap) (locs : List Loc) (ls : Array Slot), I w v → Wd G (fun q : Nat => s.heap.size ≤ q) s (cEW G q w ++ cMW G q2 v) H locs → lv_has ls 4 [(3, .int (nI i)), (2, .ref (q2 0)), (1, .ref (q 0)), (0, .ref b)] → W p l e room_1 s m #[Value.ref b] below meth c H locs 49 865 (lw_Z below #[Value.ref b] s) (F0 m 1261 ls []) := by
      intro w v H locs ls I1 hW hl
      refine lv_iinc (v := nI (i + 5)) (lv' := [(3, .int (nI (i + 5))), (2, .ref (q2 0)), (1, .ref (q 0)), (0, .ref b)]) hx hb dL_law_1261 hl (k := 0) rfl (nI_add i 5) (by decide) rfl (fun ls hl => ?_)
      refine lv_goto (tgt := 18) hx hb dL_law_1264 (by decide) ?_
      exact ih (i + 5) h5 (by omega) w v I1 q q2 H locs hW ls hl
    have h_1 : vp_in (nI i + (1 : Int32)) L := lw_in (k := 1) hL h5 (by decide)
    have h_2 : vp_in (nI i + (2 : Int32)) L := lw_in (k := 2) hL h5 (by decide)
    have h_3 : vp_in (nI i + (3 : Int32)) L := lw_in (k := 3) hL h5 (by decide)
    have h_4 : vp_in (nI i + (4 : Int32)) L := lw_in (k := 4) hL h5 (by decide)
    refine lv_aload_n hx hb dL_law_26 rfl (lv_at hl 3 rfl) ?_
    refine lv_iload_n hx hb dL_law_27 rfl (lv_at hl 0 rfl) ?_
    refine va_sld hx hb hX hbl hbA hW.2.2 (vp_in_nI (by omega) (by omega)) dL_law_28 ?_
    refine lv_bipush (v := (63 : Int32)) hx hb dL_law_29 (by decide) ?_
    refine lv_iand hx hb dL_law_31 ?_
    refine lv_topi (fun sw esw => ?_)
    by_cases c_0 : sw = (0 : Int32)
    · refine x_tableIn c_0 hx hb dL_law_32 (by decide) (by decide) (off := (188)) rfl (tgt := 220) (by decide) ?_
      obtain ⟨o, p9, ho, hp, hans, hI⟩ := e_letter w v I0 (xs (nI i + (1 : Int32)).toNatClampNeg)
      refine lv_aload_n hx hb dL_law_220 rfl (lv_at hl 2 rfl) ?_
      refine lv_aload_n hx hb dL_law_221 rfl (lv_at hl 3 rfl) ?_
      refine lv_iload_n hx hb dL_law_222 rfl (lv_at hl 0 rfl) ?_
      refine lv_iconst (v := (1 : Int32)) hx hb dL_law_223 (by decide) ?_
      refine lv_iadd hx hb dL_law_224 ?_
      refine va_sld hx hb hX hbl hbA hW.2.2 h_1 dL_law_225 ?_
      refine x_Vi (av := [.ref (q 0), .int (xs (nI i + (1 : Int32)).toNatClampNeg)]) (As := [.int (xs (nI i + (1 : Int32)).toNatClampNeg)]) F hW (c_X5_letter l G q w (xs (nI i + (1 : Int32)).toNatClampNeg) _ ho) [0, 1, 2, 3, 4, 5, 6, 7, 8, 9, 10, 11, 12, 13, 14, 15, 16, 17, 18, 19, 20, 21, 22, 23, 24, 25, 26, 27, 28, 29, 30, 31, 32, 33, 34, 35, 36, 37, 38] rfl rfl (by intro q; cases q) cv_L_13 rfl ⟨_, rfl, rfl⟩ rfl rfl rfl hl (Nat.le_of_ble_eq_true rfl) ⟨Nat.le_of_ble_eq_true rfl, Nat.le_of_ble_eq_true rfl⟩ ⟨rfl, rfl⟩ ⟨Nat.le_of_ble_eq_true rfl, Nat.le_of_ble_eq_true rfl⟩ dL_law_226 rfl [some 0, some 1, some 2, some 3, some 4, some 5, some 6, some 7, some 8, some 9, some 10, some 11, some 12, some 13, some 14, some 15, some 16, some 17, some 18, some 19, some 20, some 21, some 22, some 23, some 24, some 25, some 26, some 27, some 28, some 29, some 30, some 31, some 32, some 33, some 34, some 35, some 36, some 37, some 38, none, none, none, none, none, none, none, none, none, none] rfl (ws' := cEW G q o.2 ++ cMW G q2 v) rfl (fun H locs hW => ?_)
      refine lv_aload_n hx hb dL_law_229 rfl (lv_at hl 1 rfl) ?_
      refine lv_aload_n hx hb dL_law_230 rfl (lv_at hl 3 rfl) ?_
      refine lv_iload_n hx hb dL_law_231 rfl (lv_at hl 0 rfl) ?_
      refine lv_iconst (v := (1 : Int32)) hx hb dL_law_232 (by decide) ?_
      refine lv_iadd hx hb dL_law_233 ?_
      refine va_sld hx hb hX hbl hbA hW.2.2 h_1 dL_law_234 ?_
      refine x_Vi (av := [.ref (q2 0), .int (xs (nI i + (1 : Int32)).toNatClampNeg)]) (As := [.int (xs (nI i + (1 : Int32)).toNatClampNeg)]) F hW (c_X6_letter l G q2 v (xs (nI i + (1 : Int32)).toNatClampNeg) _ hp) [39, 40, 41, 42, 43, 44, 45, 46, 47, 48] rfl rfl (by intro q; cases q) cv_L_17 rfl ⟨_, rfl, rfl⟩ rfl rfl rfl hl (Nat.le_of_ble_eq_true rfl) ⟨Nat.le_of_ble_eq_true rfl, Nat.le_of_ble_eq_true rfl⟩ ⟨rfl, rfl⟩ ⟨Nat.le_of_ble_eq_true rfl, Nat.le_of_ble_eq_true rfl⟩ dL_law_235 rfl [none, none, none, none, none, none, none, none, none, none, none, none, none, none, none, none, none, none, none, none, none, none, none, none, none, none, none, none, none, none, none, none, none, none, none, none, none, none, none, some 0, some 1, some 2, some 3, some 4, some 5, some 6, some 7, some 8, some 9] rfl (ws' := cEW G q o.2 ++ cMW G q2 p9.2) rfl (fun H locs hW => ?_)
      refine lv_icmp_eq (tgt := 1261) hx hb dL_law_238 (by decide) (fun c9 => ?_) (fun c9 => ?_)
      · exact K (o.2) (p9.2) _ _ _ hI hW hl
      · exact absurd hans c9
    by_cases c_1 : sw = (1 : Int32)
    · refine x_tableIn c_1 hx hb dL_law_32 (by decide) (by decide) (off := (211)) rfl (tgt := 243) (by decide) ?_
      obtain ⟨o, p9, ho, hp, hans, hI⟩ := e_land w v I0 
      refine lv_aload_n hx hb dL_law_243 rfl (lv_at hl 2 rfl) ?_
      refine x_Vi (av := [.ref (q 0)]) (As := []) F hW (c_X5_land l G q w  _ ho) [0, 1, 2, 3, 4, 5, 6, 7, 8, 9, 10, 11, 12, 13, 14, 15, 16, 17, 18, 19, 20, 21, 22, 23, 24, 25, 26, 27, 28, 29, 30, 31, 32, 33, 34, 35, 36, 37, 38] rfl rfl (by intro q; exact q) cv_L_18 rfl ⟨_, rfl, rfl⟩ rfl rfl rfl hl (Nat.le_of_ble_eq_true rfl) ⟨Nat.le_of_ble_eq_true rfl, Nat.le_of_ble_eq_true rfl⟩ ⟨rfl, rfl⟩ ⟨Nat.le_of_ble_eq_true rfl, Nat.le_of_ble_eq_true rfl⟩ dL_law_244 rfl [some 0, some 1, some 2, some 3, some 4, some 5, some 6, some 7, some 8, some 9, some 10, some 11, some 12, some 13, some 14, some 15, some 16, some 17, some 18, some 19, some 20, some 21, some 22, some 23, some 24, some 25, some 26, some 27, some 28, some 29, some 30, some 31, some 32, some 33, some 34, some 35, some 36, some 37, some 38, none, none, none, none, none, none, none, none, none, none] rfl (ws' := cEW G q o.2 ++ cMW G q2 v) rfl (fun H locs hW => ?_)
      refine lv_aload_n hx hb dL_law_247 rfl (lv_at hl 1 rfl) ?_
      refine x_Vi (av := [.ref (q2 0)]) (As := []) F hW (c_X6_land l G q2 v  _ hp) [39, 40, 41, 42, 43, 44, 45, 46, 47, 48] rfl rfl (by intro q; cases q) cv_L_22 rfl ⟨_, rfl, rfl⟩ rfl rfl rfl hl (Nat.le_of_ble_eq_true rfl) ⟨Nat.le_of_ble_eq_true rfl, Nat.le_of_ble_eq_true rfl⟩ ⟨rfl, rfl⟩ ⟨Nat.le_of_ble_eq_true rfl, Nat.le_of_ble_eq_true rfl⟩ dL_law_248 rfl [none, none, none, none, none, none, none, none, none, none, none, none, none, none, none, none, none, none, none, none, none, none, none, none, none, none, none, none, none, none, none, none, none, none, none, none, none, none, none, some 0, some 1, some 2, some 3, some 4, some 5, some 6, some 7, some 8, some 9] rfl (ws' := cEW G q o.2 ++ cMW G q2 p9.2) rfl (fun H locs hW => ?_)
      refine lv_icmp_eq (tgt := 1261) hx hb dL_law_251 (by decide) (fun c9 => ?_) (fun c9 => ?_)
      · exact K (o.2) (p9.2) _ _ _ hI hW hl
      · exact absurd hans c9
    by_cases c_2 : sw = (2 : Int32)
    · refine x_tableIn c_2 hx hb dL_law_32 (by decide) (by decide) (off := (224)) rfl (tgt := 256) (by decide) ?_
      obtain ⟨o, p9, ho, hp, hans, hI⟩ := e_house w v I0 (xs (nI i + (1 : Int32)).toNatClampNeg) (xs (nI i + (2 : Int32)).toNatClampNeg)
      refine lv_aload_n hx hb dL_law_256 rfl (lv_at hl 2 rfl) ?_
      refine lv_aload_n hx hb dL_law_257 rfl (lv_at hl 3 rfl) ?_
      refine lv_iload_n hx hb dL_law_258 rfl (lv_at hl 0 rfl) ?_
      refine lv_iconst (v := (1 : Int32)) hx hb dL_law_259 (by decide) ?_
      refine lv_iadd hx hb dL_law_260 ?_
      refine va_sld hx hb hX hbl hbA hW.2.2 h_1 dL_law_261 ?_
      refine lv_aload_n hx hb dL_law_262 rfl (lv_at hl 3 rfl) ?_
      refine lv_iload_n hx hb dL_law_263 rfl (lv_at hl 0 rfl) ?_
      refine lv_iconst (v := (2 : Int32)) hx hb dL_law_264 (by decide) ?_
      refine lv_iadd hx hb dL_law_265 ?_
      refine va_sld hx hb hX hbl hbA hW.2.2 h_2 dL_law_266 ?_
      refine x_Vi (av := [.ref (q 0), .int (xs (nI i + (1 : Int32)).toNatClampNeg), .int (xs (nI i + (2 : Int32)).toNatClampNeg)]) (As := [.int (xs (nI i + (1 : Int32)).toNatClampNeg), .int (xs (nI i + (2 : Int32)).toNatClampNeg)]) F hW (c_X5_house l G q w (xs (nI i + (1 : Int32)).toNatClampNeg) (xs (nI i + (2 : Int32)).toNatClampNeg) _ ho) [0, 1, 2, 3, 4, 5, 6, 7, 8, 9, 10, 11, 12, 13, 14, 15, 16, 17, 18, 19, 20, 21, 22, 23, 24, 25, 26, 27, 28, 29, 30, 31, 32, 33, 34, 35, 36, 37, 38] rfl rfl (by intro q; cases q) cv_L_23 rfl ⟨_, rfl, rfl⟩ rfl rfl rfl hl (Nat.le_of_ble_eq_true rfl) ⟨Nat.le_of_ble_eq_true rfl, Nat.le_of_ble_eq_true rfl⟩ ⟨rfl, rfl⟩ ⟨Nat.le_of_ble_eq_true rfl, Nat.le_of_ble_eq_true rfl⟩ dL_law_267 rfl [some 0, some 1, some 2, some 3, some 4, some 5, some 6, some 7, some 8, some 9, some 10, some 11, some 12, some 13, some 14, some 15, some 16, some 17, some 18, some 19, some 20, some 21, some 22, some 23, some 24, some 25, some 26, some 27, some 28, some 29, some 30, some 31, some 32, some 33, some 34, some 35, some 36, some 37, some 38, none, none, none, none, none, none, none, none, none, none] rfl (ws' := cEW G q o.2 ++ cMW G q2 v) rfl (fun H locs hW => ?_)
      refine lv_aload_n hx hb dL_law_270 rfl (lv_at hl 1 rfl) ?_
      refine lv_aload_n hx hb dL_law_271 rfl (lv_at hl 3 rfl) ?_
      refine lv_iload_n hx hb dL_law_272 rfl (lv_at hl 0 rfl) ?_
      refine lv_iconst (v := (1 : Int32)) hx hb dL_law_273 (by decide) ?_
      refine lv_iadd hx hb dL_law_274 ?_
      refine va_sld hx hb hX hbl hbA hW.2.2 h_1 dL_law_275 ?_
      refine lv_aload_n hx hb dL_law_276 rfl (lv_at hl 3 rfl) ?_
      refine lv_iload_n hx hb dL_law_277 rfl (lv_at hl 0 rfl) ?_
      refine lv_iconst (v := (2 : Int32)) hx hb dL_law_278 (by decide) ?_
      refine lv_iadd hx hb dL_law_279 ?_
      refine va_sld hx hb hX hbl hbA hW.2.2 h_2 dL_law_280 ?_
      refine x_Vi (av := [.ref (q2 0), .int (xs (nI i + (1 : Int32)).toNatClampNeg), .int (xs (nI i + (2 : Int32)).toNatClampNeg)]) (As := [.int (xs (nI i + (1 : Int32)).toNatClampNeg), .int (xs (nI i + (2 : Int32)).toNatClampNeg)]) F hW (c_X6_house l G q2 v (xs (nI i + (1 : Int32)).toNatClampNeg) (xs (nI i + (2 : Int32)).toNatClampNeg) _ hp) [39, 40, 41, 42, 43, 44, 45, 46, 47, 48] rfl rfl (by intro q; cases q) cv_L_27 rfl ⟨_, rfl, rfl⟩ rfl rfl rfl hl (Nat.le_of_ble_eq_true rfl) ⟨Nat.le_of_ble_eq_true rfl, Nat.le_of_ble_eq_true rfl⟩ ⟨rfl, rfl⟩ ⟨Nat.le_of_ble_eq_true rfl, Nat.le_of_ble_eq_true rfl⟩ dL_law_281 rfl [none, none, none, none, none, none, none, none, none, none, none, none, none, none, none, none, none, none, none, none, none, none, none, none, none, none, none, none, none, none, none, none, none, none, none, none, none, none, none, some 0, some 1, some 2, some 3, some 4, some 5, some 6, some 7, some 8, some 9] rfl (ws' := cEW G q o.2 ++ cMW G q2 p9.2) rfl (fun H locs hW => ?_)
      refine lv_icmp_eq (tgt := 1261) hx hb dL_law_284 (by decide) (fun c9 => ?_) (fun c9 => ?_)
      · exact K (o.2) (p9.2) _ _ _ hI hW hl
      · exact absurd hans c9
    by_cases c_3 : sw = (3 : Int32)
    · refine x_tableIn c_3 hx hb dL_law_32 (by decide) (by decide) (off := (257)) rfl (tgt := 289) (by decide) ?_
      obtain ⟨o, p9, ho, hp, hans, hI⟩ := e_height w v I0 (xs (nI i + (1 : Int32)).toNatClampNeg)
      refine lv_aload_n hx hb dL_law_289 rfl (lv_at hl 2 rfl) ?_
      refine lv_aload_n hx hb dL_law_290 rfl (lv_at hl 3 rfl) ?_
      refine lv_iload_n hx hb dL_law_291 rfl (lv_at hl 0 rfl) ?_
      refine lv_iconst (v := (1 : Int32)) hx hb dL_law_292 (by decide) ?_
      refine lv_iadd hx hb dL_law_293 ?_
      refine va_sld hx hb hX hbl hbA hW.2.2 h_1 dL_law_294 ?_
      refine x_Vi (av := [.ref (q 0), .int (xs (nI i + (1 : Int32)).toNatClampNeg)]) (As := [.int (xs (nI i + (1 : Int32)).toNatClampNeg)]) F hW (c_X5_height l G q w (xs (nI i + (1 : Int32)).toNatClampNeg) _ ho) [0, 1, 2, 3, 4, 5, 6, 7, 8, 9, 10, 11, 12, 13, 14, 15, 16, 17, 18, 19, 20, 21, 22, 23, 24, 25, 26, 27, 28, 29, 30, 31, 32, 33, 34, 35, 36, 37, 38] rfl rfl (by intro q; cases q) cv_L_28 rfl ⟨_, rfl, rfl⟩ rfl rfl rfl hl (Nat.le_of_ble_eq_true rfl) ⟨Nat.le_of_ble_eq_true rfl, Nat.le_of_ble_eq_true rfl⟩ ⟨rfl, rfl⟩ ⟨Nat.le_of_ble_eq_true rfl, Nat.le_of_ble_eq_true rfl⟩ dL_law_295 rfl [some 0, some 1, some 2, some 3, some 4, some 5, some 6, some 7, some 8, some 9, some 10, some 11, some 12, some 13, some 14, some 15, some 16, some 17, some 18, some 19, some 20, some 21, some 22, some 23, some 24, some 25, some 26, some 27, some 28, some 29, some 30, some 31, some 32, some 33, some 34, some 35, some 36, some 37, some 38, none, none, none, none, none, none, none, none, none, none] rfl (ws' := cEW G q o.2 ++ cMW G q2 v) rfl (fun H locs hW => ?_)
      refine lv_aload_n hx hb dL_law_298 rfl (lv_at hl 1 rfl) ?_
      refine lv_aload_n hx hb dL_law_299 rfl (lv_at hl 3 rfl) ?_
      refine lv_iload_n hx hb dL_law_300 rfl (lv_at hl 0 rfl) ?_
      refine lv_iconst (v := (1 : Int32)) hx hb dL_law_301 (by decide) ?_
      refine lv_iadd hx hb dL_law_302 ?_
      refine va_sld hx hb hX hbl hbA hW.2.2 h_1 dL_law_303 ?_
      refine x_Vi (av := [.ref (q2 0), .int (xs (nI i + (1 : Int32)).toNatClampNeg)]) (As := [.int (xs (nI i + (1 : Int32)).toNatClampNeg)]) F hW (c_X6_height l G q2 v (xs (nI i + (1 : Int32)).toNatClampNeg) _ hp) [39, 40, 41, 42, 43, 44, 45, 46, 47, 48] rfl rfl (by intro q; cases q) cv_L_31 rfl ⟨_, rfl, rfl⟩ rfl rfl rfl hl (Nat.le_of_ble_eq_true rfl) ⟨Nat.le_of_ble_eq_true rfl, Nat.le_of_ble_eq_true rfl⟩ ⟨rfl, rfl⟩ ⟨Nat.le_of_ble_eq_true rfl, Nat.le_of_ble_eq_true rfl⟩ dL_law_304 rfl [none, none, none, none, none, none, none, none, none, none, none, none, none, none, none, none, none, none, none, none, none, none, none, none, none, none, none, none, none, none, none, none, none, none, none, none, none, none, none, some 0, some 1, some 2, some 3, some 4, some 5, some 6, some 7, some 8, some 9] rfl (ws' := cEW G q o.2 ++ cMW G q2 p9.2) rfl (fun H locs hW => ?_)
      refine lv_icmp_eq (tgt := 1261) hx hb dL_law_307 (by decide) (fun c9 => ?_) (fun c9 => ?_)
      · exact K (o.2) (p9.2) _ _ _ hI hW hl
      · exact absurd hans c9
    by_cases c_4 : sw = (4 : Int32)
    · refine x_tableIn c_4 hx hb dL_law_32 (by decide) (by decide) (off := (280)) rfl (tgt := 312) (by decide) ?_
      obtain ⟨o, p9, ho, hp, hans, hI⟩ := e_heaps w v I0 (xs (nI i + (1 : Int32)).toNatClampNeg) (xs (nI i + (2 : Int32)).toNatClampNeg)
      refine lv_aload_n hx hb dL_law_312 rfl (lv_at hl 2 rfl) ?_
      refine lv_aload_n hx hb dL_law_313 rfl (lv_at hl 3 rfl) ?_
      refine lv_iload_n hx hb dL_law_314 rfl (lv_at hl 0 rfl) ?_
      refine lv_iconst (v := (1 : Int32)) hx hb dL_law_315 (by decide) ?_
      refine lv_iadd hx hb dL_law_316 ?_
      refine va_sld hx hb hX hbl hbA hW.2.2 h_1 dL_law_317 ?_
      refine lv_aload_n hx hb dL_law_318 rfl (lv_at hl 3 rfl) ?_
      refine lv_iload_n hx hb dL_law_319 rfl (lv_at hl 0 rfl) ?_
      refine lv_iconst (v := (2 : Int32)) hx hb dL_law_320 (by decide) ?_
      refine lv_iadd hx hb dL_law_321 ?_
      refine va_sld hx hb hX hbl hbA hW.2.2 h_2 dL_law_322 ?_
      refine x_Vi (av := [.ref (q 0), .int (xs (nI i + (1 : Int32)).toNatClampNeg), .int (xs (nI i + (2 : Int32)).toNatClampNeg)]) (As := [.int (xs (nI i + (1 : Int32)).toNatClampNeg), .int (xs (nI i + (2 : Int32)).toNatClampNeg)]) F hW (c_X5_heaps l G q w (xs (nI i + (1 : Int32)).toNatClampNeg) (xs (nI i + (2 : Int32)).toNatClampNeg) _ ho) [0, 1, 2, 3, 4, 5, 6, 7, 8, 9, 10, 11, 12, 13, 14, 15, 16, 17, 18, 19, 20, 21, 22, 23, 24, 25, 26, 27, 28, 29, 30, 31, 32, 33, 34, 35, 36, 37, 38] rfl rfl (by intro q; cases q) cv_L_32 rfl ⟨_, rfl, rfl⟩ rfl rfl rfl hl (Nat.le_of_ble_eq_true rfl) ⟨Nat.le_of_ble_eq_true rfl, Nat.le_of_ble_eq_true rfl⟩ ⟨rfl, rfl⟩ ⟨Nat.le_of_ble_eq_true rfl, Nat.le_of_ble_eq_true rfl⟩ dL_law_323 rfl [some 0, some 1, some 2, some 3, some 4, some 5, some 6, some 7, some 8, some 9, some 10, some 11, some 12, some 13, some 14, some 15, some 16, some 17, some 18, some 19, some 20, some 21, some 22, some 23, some 24, some 25, some 26, some 27, some 28, some 29, some 30, some 31, some 32, some 33, some 34, some 35, some 36, some 37, some 38, none, none, none, none, none, none, none, none, none, none] rfl (ws' := cEW G q o.2 ++ cMW G q2 v) rfl (fun H locs hW => ?_)
      refine lv_aload_n hx hb dL_law_326 rfl (lv_at hl 1 rfl) ?_
      refine lv_aload_n hx hb dL_law_327 rfl (lv_at hl 3 rfl) ?_
      refine lv_iload_n hx hb dL_law_328 rfl (lv_at hl 0 rfl) ?_
      refine lv_iconst (v := (1 : Int32)) hx hb dL_law_329 (by decide) ?_
      refine lv_iadd hx hb dL_law_330 ?_
      refine va_sld hx hb hX hbl hbA hW.2.2 h_1 dL_law_331 ?_
      refine lv_aload_n hx hb dL_law_332 rfl (lv_at hl 3 rfl) ?_
      refine lv_iload_n hx hb dL_law_333 rfl (lv_at hl 0 rfl) ?_
      refine lv_iconst (v := (2 : Int32)) hx hb dL_law_334 (by decide) ?_
      refine lv_iadd hx hb dL_law_335 ?_
      refine va_sld hx hb hX hbl hbA hW.2.2 h_2 dL_law_336 ?_
      refine x_Vi (av := [.ref (q2 0), .int (xs (nI i + (1 : Int32)).toNatClampNeg), .int (xs (nI i + (2 : Int32)).toNatClampNeg)]) (As := [.int (xs (nI i + (1 : Int32)).toNatClampNeg), .int (xs (nI i + (2 : Int32)).toNatClampNeg)]) F hW (c_X6_heaps l G q2 v (xs (nI i + (1 : Int32)).toNatClampNeg) (xs (nI i + (2 : Int32)).toNatClampNeg) _ hp) [39, 40, 41, 42, 43, 44, 45, 46, 47, 48] rfl rfl (by intro q; cases q) cv_L_35 rfl ⟨_, rfl, rfl⟩ rfl rfl rfl hl (Nat.le_of_ble_eq_true rfl) ⟨Nat.le_of_ble_eq_true rfl, Nat.le_of_ble_eq_true rfl⟩ ⟨rfl, rfl⟩ ⟨Nat.le_of_ble_eq_true rfl, Nat.le_of_ble_eq_true rfl⟩ dL_law_337 rfl [none, none, none, none, none, none, none, none, none, none, none, none, none, none, none, none, none, none, none, none, none, none, none, none, none, none, none, none, none, none, none, none, none, none, none, none, none, none, none, some 0, some 1, some 2, some 3, some 4, some 5, some 6, some 7, some 8, some 9] rfl (ws' := cEW G q o.2 ++ cMW G q2 p9.2) rfl (fun H locs hW => ?_)
      refine lv_icmp_eq (tgt := 1261) hx hb dL_law_340 (by decide) (fun c9 => ?_) (fun c9 => ?_)
      · exact K (o.2) (p9.2) _ _ _ hI hW hl
      · exact absurd hans c9
    by_cases c_5 : sw = (5 : Int32)
    · refine x_tableIn c_5 hx hb dL_law_32 (by decide) (by decide) (off := (313)) rfl (tgt := 345) (by decide) ?_
      obtain ⟨o, p9, ho, hp, hans, hI⟩ := e_moves w v I0 (xs (nI i + (1 : Int32)).toNatClampNeg) (xs (nI i + (2 : Int32)).toNatClampNeg)
      refine lv_aload_n hx hb dL_law_345 rfl (lv_at hl 2 rfl) ?_
      refine lv_aload_n hx hb dL_law_346 rfl (lv_at hl 3 rfl) ?_
      refine lv_iload_n hx hb dL_law_347 rfl (lv_at hl 0 rfl) ?_
      refine lv_iconst (v := (1 : Int32)) hx hb dL_law_348 (by decide) ?_
      refine lv_iadd hx hb dL_law_349 ?_
      refine va_sld hx hb hX hbl hbA hW.2.2 h_1 dL_law_350 ?_
      refine lv_aload_n hx hb dL_law_351 rfl (lv_at hl 3 rfl) ?_
      refine lv_iload_n hx hb dL_law_352 rfl (lv_at hl 0 rfl) ?_
      refine lv_iconst (v := (2 : Int32)) hx hb dL_law_353 (by decide) ?_
      refine lv_iadd hx hb dL_law_354 ?_
      refine va_sld hx hb hX hbl hbA hW.2.2 h_2 dL_law_355 ?_
      refine x_Vi (av := [.ref (q 0), .int (xs (nI i + (1 : Int32)).toNatClampNeg), .int (xs (nI i + (2 : Int32)).toNatClampNeg)]) (As := [.int (xs (nI i + (1 : Int32)).toNatClampNeg), .int (xs (nI i + (2 : Int32)).toNatClampNeg)]) F hW (c_X5_moves l G q w (xs (nI i + (1 : Int32)).toNatClampNeg) (xs (nI i + (2 : Int32)).toNatClampNeg) _ ho) [0, 1, 2, 3, 4, 5, 6, 7, 8, 9, 10, 11, 12, 13, 14, 15, 16, 17, 18, 19, 20, 21, 22, 23, 24, 25, 26, 27, 28, 29, 30, 31, 32, 33, 34, 35, 36, 37, 38] rfl rfl (by intro q; cases q) cv_L_36 rfl ⟨_, rfl, rfl⟩ rfl rfl rfl hl (Nat.le_of_ble_eq_true rfl) ⟨Nat.le_of_ble_eq_true rfl, Nat.le_of_ble_eq_true rfl⟩ ⟨rfl, rfl⟩ ⟨Nat.le_of_ble_eq_true rfl, Nat.le_of_ble_eq_true rfl⟩ dL_law_356 rfl [some 0, some 1, some 2, some 3, some 4, some 5, some 6, some 7, some 8, some 9, some 10, some 11, some 12, some 13, some 14, some 15, some 16, some 17, some 18, some 19, some 20, some 21, some 22, some 23, some 24, some 25, some 26, some 27, some 28, some 29, some 30, some 31, some 32, some 33, some 34, some 35, some 36, some 37, some 38, none, none, none, none, none, none, none, none, none, none] rfl (ws' := cEW G q o.2 ++ cMW G q2 v) rfl (fun H locs hW => ?_)
      refine lv_aload_n hx hb dL_law_359 rfl (lv_at hl 1 rfl) ?_
      refine lv_aload_n hx hb dL_law_360 rfl (lv_at hl 3 rfl) ?_
      refine lv_iload_n hx hb dL_law_361 rfl (lv_at hl 0 rfl) ?_
      refine lv_iconst (v := (1 : Int32)) hx hb dL_law_362 (by decide) ?_
      refine lv_iadd hx hb dL_law_363 ?_
      refine va_sld hx hb hX hbl hbA hW.2.2 h_1 dL_law_364 ?_
      refine lv_aload_n hx hb dL_law_365 rfl (lv_at hl 3 rfl) ?_
      refine lv_iload_n hx hb dL_law_366 rfl (lv_at hl 0 rfl) ?_
      refine lv_iconst (v := (2 : Int32)) hx hb dL_law_367 (by decide) ?_
      refine lv_iadd hx hb dL_law_368 ?_
      refine va_sld hx hb hX hbl hbA hW.2.2 h_2 dL_law_369 ?_
      refine x_Vi (av := [.ref (q2 0), .int (xs (nI i + (1 : Int32)).toNatClampNeg), .int (xs (nI i + (2 : Int32)).toNatClampNeg)]) (As := [.int (xs (nI i + (1 : Int32)).toNatClampNeg), .int (xs (nI i + (2 : Int32)).toNatClampNeg)]) F hW (c_X6_moves l G q2 v (xs (nI i + (1 : Int32)).toNatClampNeg) (xs (nI i + (2 : Int32)).toNatClampNeg) _ hp) [39, 40, 41, 42, 43, 44, 45, 46, 47, 48] rfl rfl (by intro q; cases q) cv_L_39 rfl ⟨_, rfl, rfl⟩ rfl rfl rfl hl (Nat.le_of_ble_eq_true rfl) ⟨Nat.le_of_ble_eq_true rfl, Nat.le_of_ble_eq_true rfl⟩ ⟨rfl, rfl⟩ ⟨Nat.le_of_ble_eq_true rfl, Nat.le_of_ble_eq_true rfl⟩ dL_law_370 rfl [none, none, none, none, none, none, none, none, none, none, none, none, none, none, none, none, none, none, none, none, none, none, none, none, none, none, none, none, none, none, none, none, none, none, none, none, none, none, none, some 0, some 1, some 2, some 3, some 4, some 5, some 6, some 7, some 8, some 9] rfl (ws' := cEW G q o.2 ++ cMW G q2 p9.2) rfl (fun H locs hW => ?_)
      refine lv_icmp_eq (tgt := 1261) hx hb dL_law_373 (by decide) (fun c9 => ?_) (fun c9 => ?_)
      · exact K (o.2) (p9.2) _ _ _ hI hW hl
      · exact absurd hans c9
    by_cases c_6 : sw = (6 : Int32)
    · refine x_tableIn c_6 hx hb dL_law_32 (by decide) (by decide) (off := (346)) rfl (tgt := 378) (by decide) ?_
      obtain ⟨o, p9, ho, hp, hans, hI⟩ := e_gives w v I0 (xs (nI i + (1 : Int32)).toNatClampNeg) (xs (nI i + (2 : Int32)).toNatClampNeg)
      refine lv_aload_n hx hb dL_law_378 rfl (lv_at hl 2 rfl) ?_
      refine lv_aload_n hx hb dL_law_379 rfl (lv_at hl 3 rfl) ?_
      refine lv_iload_n hx hb dL_law_380 rfl (lv_at hl 0 rfl) ?_
      refine lv_iconst (v := (1 : Int32)) hx hb dL_law_381 (by decide) ?_
      refine lv_iadd hx hb dL_law_382 ?_
      refine va_sld hx hb hX hbl hbA hW.2.2 h_1 dL_law_383 ?_
      refine lv_aload_n hx hb dL_law_384 rfl (lv_at hl 3 rfl) ?_
      refine lv_iload_n hx hb dL_law_385 rfl (lv_at hl 0 rfl) ?_
      refine lv_iconst (v := (2 : Int32)) hx hb dL_law_386 (by decide) ?_
      refine lv_iadd hx hb dL_law_387 ?_
      refine va_sld hx hb hX hbl hbA hW.2.2 h_2 dL_law_388 ?_
      refine x_Vi (av := [.ref (q 0), .int (xs (nI i + (1 : Int32)).toNatClampNeg), .int (xs (nI i + (2 : Int32)).toNatClampNeg)]) (As := [.int (xs (nI i + (1 : Int32)).toNatClampNeg), .int (xs (nI i + (2 : Int32)).toNatClampNeg)]) F hW (c_X5_gives l G q w (xs (nI i + (1 : Int32)).toNatClampNeg) (xs (nI i + (2 : Int32)).toNatClampNeg) _ ho) [0, 1, 2, 3, 4, 5, 6, 7, 8, 9, 10, 11, 12, 13, 14, 15, 16, 17, 18, 19, 20, 21, 22, 23, 24, 25, 26, 27, 28, 29, 30, 31, 32, 33, 34, 35, 36, 37, 38] rfl rfl (by intro q; cases q) cv_L_40 rfl ⟨_, rfl, rfl⟩ rfl rfl rfl hl (Nat.le_of_ble_eq_true rfl) ⟨Nat.le_of_ble_eq_true rfl, Nat.le_of_ble_eq_true rfl⟩ ⟨rfl, rfl⟩ ⟨Nat.le_of_ble_eq_true rfl, Nat.le_of_ble_eq_true rfl⟩ dL_law_389 rfl [some 0, some 1, some 2, some 3, some 4, some 5, some 6, some 7, some 8, some 9, some 10, some 11, some 12, some 13, some 14, some 15, some 16, some 17, some 18, some 19, some 20, some 21, some 22, some 23, some 24, some 25, some 26, some 27, some 28, some 29, some 30, some 31, some 32, some 33, some 34, some 35, some 36, some 37, some 38, none, none, none, none, none, none, none, none, none, none] rfl (ws' := cEW G q o.2 ++ cMW G q2 v) rfl (fun H locs hW => ?_)
      refine lv_aload_n hx hb dL_law_392 rfl (lv_at hl 1 rfl) ?_
      refine lv_aload_n hx hb dL_law_393 rfl (lv_at hl 3 rfl) ?_
      refine lv_iload_n hx hb dL_law_394 rfl (lv_at hl 0 rfl) ?_
      refine lv_iconst (v := (1 : Int32)) hx hb dL_law_395 (by decide) ?_
      refine lv_iadd hx hb dL_law_396 ?_
      refine va_sld hx hb hX hbl hbA hW.2.2 h_1 dL_law_397 ?_
      refine lv_aload_n hx hb dL_law_398 rfl (lv_at hl 3 rfl) ?_
      refine lv_iload_n hx hb dL_law_399 rfl (lv_at hl 0 rfl) ?_
      refine lv_iconst (v := (2 : Int32)) hx hb dL_law_400 (by decide) ?_
      refine lv_iadd hx hb dL_law_401 ?_
      refine va_sld hx hb hX hbl hbA hW.2.2 h_2 dL_law_402 ?_
      refine x_Vi (av := [.ref (q2 0), .int (xs (nI i + (1 : Int32)).toNatClampNeg), .int (xs (nI i + (2 : Int32)).toNatClampNeg)]) (As := [.int (xs (nI i + (1 : Int32)).toNatClampNeg), .int (xs (nI i + (2 : Int32)).toNatClampNeg)]) F hW (c_X6_gives l G q2 v (xs (nI i + (1 : Int32)).toNatClampNeg) (xs (nI i + (2 : Int32)).toNatClampNeg) _ hp) [39, 40, 41, 42, 43, 44, 45, 46, 47, 48] rfl rfl (by intro q; cases q) cv_L_43 rfl ⟨_, rfl, rfl⟩ rfl rfl rfl hl (Nat.le_of_ble_eq_true rfl) ⟨Nat.le_of_ble_eq_true rfl, Nat.le_of_ble_eq_true rfl⟩ ⟨rfl, rfl⟩ ⟨Nat.le_of_ble_eq_true rfl, Nat.le_of_ble_eq_true rfl⟩ dL_law_403 rfl [none, none, none, none, none, none, none, none, none, none, none, none, none, none, none, none, none, none, none, none, none, none, none, none, none, none, none, none, none, none, none, none, none, none, none, none, none, none, none, some 0, some 1, some 2, some 3, some 4, some 5, some 6, some 7, some 8, some 9] rfl (ws' := cEW G q o.2 ++ cMW G q2 p9.2) rfl (fun H locs hW => ?_)
      refine lv_icmp_eq (tgt := 1261) hx hb dL_law_406 (by decide) (fun c9 => ?_) (fun c9 => ?_)
      · exact K (o.2) (p9.2) _ _ _ hI hW hl
      · exact absurd hans c9
    by_cases c_7 : sw = (7 : Int32)
    · refine x_tableIn c_7 hx hb dL_law_32 (by decide) (by decide) (off := (379)) rfl (tgt := 411) (by decide) ?_
      obtain ⟨o, p9, ho, hp, hans, hI⟩ := e_calls w v I0 (xs (nI i + (1 : Int32)).toNatClampNeg)
      refine lv_aload_n hx hb dL_law_411 rfl (lv_at hl 2 rfl) ?_
      refine lv_aload_n hx hb dL_law_412 rfl (lv_at hl 3 rfl) ?_
      refine lv_iload_n hx hb dL_law_413 rfl (lv_at hl 0 rfl) ?_
      refine lv_iconst (v := (1 : Int32)) hx hb dL_law_414 (by decide) ?_
      refine lv_iadd hx hb dL_law_415 ?_
      refine va_sld hx hb hX hbl hbA hW.2.2 h_1 dL_law_416 ?_
      refine x_Vi (av := [.ref (q 0), .int (xs (nI i + (1 : Int32)).toNatClampNeg)]) (As := [.int (xs (nI i + (1 : Int32)).toNatClampNeg)]) F hW (c_X5_calls l G q w (xs (nI i + (1 : Int32)).toNatClampNeg) _ ho) [0, 1, 2, 3, 4, 5, 6, 7, 8, 9, 10, 11, 12, 13, 14, 15, 16, 17, 18, 19, 20, 21, 22, 23, 24, 25, 26, 27, 28, 29, 30, 31, 32, 33, 34, 35, 36, 37, 38] rfl rfl (by intro q; cases q) cv_L_44 rfl ⟨_, rfl, rfl⟩ rfl rfl rfl hl (Nat.le_of_ble_eq_true rfl) ⟨Nat.le_of_ble_eq_true rfl, Nat.le_of_ble_eq_true rfl⟩ ⟨rfl, rfl⟩ ⟨Nat.le_of_ble_eq_true rfl, Nat.le_of_ble_eq_true rfl⟩ dL_law_417 rfl [some 0, some 1, some 2, some 3, some 4, some 5, some 6, some 7, some 8, some 9, some 10, some 11, some 12, some 13, some 14, some 15, some 16, some 17, some 18, some 19, some 20, some 21, some 22, some 23, some 24, some 25, some 26, some 27, some 28, some 29, some 30, some 31, some 32, some 33, some 34, some 35, some 36, some 37, some 38, none, none, none, none, none, none, none, none, none, none] rfl (ws' := cEW G q o.2 ++ cMW G q2 v) rfl (fun H locs hW => ?_)
      refine lv_aload_n hx hb dL_law_420 rfl (lv_at hl 1 rfl) ?_
      refine lv_aload_n hx hb dL_law_421 rfl (lv_at hl 3 rfl) ?_
      refine lv_iload_n hx hb dL_law_422 rfl (lv_at hl 0 rfl) ?_
      refine lv_iconst (v := (1 : Int32)) hx hb dL_law_423 (by decide) ?_
      refine lv_iadd hx hb dL_law_424 ?_
      refine va_sld hx hb hX hbl hbA hW.2.2 h_1 dL_law_425 ?_
      refine x_Vi (av := [.ref (q2 0), .int (xs (nI i + (1 : Int32)).toNatClampNeg)]) (As := [.int (xs (nI i + (1 : Int32)).toNatClampNeg)]) F hW (c_X6_calls l G q2 v (xs (nI i + (1 : Int32)).toNatClampNeg) _ hp) [39, 40, 41, 42, 43, 44, 45, 46, 47, 48] rfl rfl (by intro q; cases q) cv_L_47 rfl ⟨_, rfl, rfl⟩ rfl rfl rfl hl (Nat.le_of_ble_eq_true rfl) ⟨Nat.le_of_ble_eq_true rfl, Nat.le_of_ble_eq_true rfl⟩ ⟨rfl, rfl⟩ ⟨Nat.le_of_ble_eq_true rfl, Nat.le_of_ble_eq_true rfl⟩ dL_law_426 rfl [none, none, none, none, none, none, none, none, none, none, none, none, none, none, none, none, none, none, none, none, none, none, none, none, none, none, none, none, none, none, none, none, none, none, none, none, none, none, none, some 0, some 1, some 2, some 3, some 4, some 5, some 6, some 7, some 8, some 9] rfl (ws' := cEW G q o.2 ++ cMW G q2 p9.2) rfl (fun H locs hW => ?_)
      refine lv_icmp_eq (tgt := 1261) hx hb dL_law_429 (by decide) (fun c9 => ?_) (fun c9 => ?_)
      · exact K (o.2) (p9.2) _ _ _ hI hW hl
      · exact absurd hans c9
    by_cases c_8 : sw = (8 : Int32)
    · refine x_tableIn c_8 hx hb dL_law_32 (by decide) (by decide) (off := (402)) rfl (tgt := 434) (by decide) ?_
      obtain ⟨o, p9, ho, hp, hans, hI⟩ := e_fog w v I0 (xs (nI i + (1 : Int32)).toNatClampNeg)
      refine lv_aload_n hx hb dL_law_434 rfl (lv_at hl 2 rfl) ?_
      refine lv_aload_n hx hb dL_law_435 rfl (lv_at hl 3 rfl) ?_
      refine lv_iload_n hx hb dL_law_436 rfl (lv_at hl 0 rfl) ?_
      refine lv_iconst (v := (1 : Int32)) hx hb dL_law_437 (by decide) ?_
      refine lv_iadd hx hb dL_law_438 ?_
      refine va_sld hx hb hX hbl hbA hW.2.2 h_1 dL_law_439 ?_
      refine x_Vi (av := [.ref (q 0), .int (xs (nI i + (1 : Int32)).toNatClampNeg)]) (As := [.int (xs (nI i + (1 : Int32)).toNatClampNeg)]) F hW (c_X5_fog l G q w (xs (nI i + (1 : Int32)).toNatClampNeg) _ ho) [0, 1, 2, 3, 4, 5, 6, 7, 8, 9, 10, 11, 12, 13, 14, 15, 16, 17, 18, 19, 20, 21, 22, 23, 24, 25, 26, 27, 28, 29, 30, 31, 32, 33, 34, 35, 36, 37, 38] rfl rfl (by intro q; cases q) cv_L_48 rfl ⟨_, rfl, rfl⟩ rfl rfl rfl hl (Nat.le_of_ble_eq_true rfl) ⟨Nat.le_of_ble_eq_true rfl, Nat.le_of_ble_eq_true rfl⟩ ⟨rfl, rfl⟩ ⟨Nat.le_of_ble_eq_true rfl, Nat.le_of_ble_eq_true rfl⟩ dL_law_440 rfl [some 0, some 1, some 2, some 3, some 4, some 5, some 6, some 7, some 8, some 9, some 10, some 11, some 12, some 13, some 14, some 15, some 16, some 17, some 18, some 19, some 20, some 21, some 22, some 23, some 24, some 25, some 26, some 27, some 28, some 29, some 30, some 31, some 32, some 33, some 34, some 35, some 36, some 37, some 38, none, none, none, none, none, none, none, none, none, none] rfl (ws' := cEW G q o.2 ++ cMW G q2 v) rfl (fun H locs hW => ?_)
      refine lv_aload_n hx hb dL_law_443 rfl (lv_at hl 1 rfl) ?_
      refine lv_aload_n hx hb dL_law_444 rfl (lv_at hl 3 rfl) ?_
      refine lv_iload_n hx hb dL_law_445 rfl (lv_at hl 0 rfl) ?_
      refine lv_iconst (v := (1 : Int32)) hx hb dL_law_446 (by decide) ?_
      refine lv_iadd hx hb dL_law_447 ?_
      refine va_sld hx hb hX hbl hbA hW.2.2 h_1 dL_law_448 ?_
      refine x_Vi (av := [.ref (q2 0), .int (xs (nI i + (1 : Int32)).toNatClampNeg)]) (As := [.int (xs (nI i + (1 : Int32)).toNatClampNeg)]) F hW (c_X6_fog l G q2 v (xs (nI i + (1 : Int32)).toNatClampNeg) _ hp) [39, 40, 41, 42, 43, 44, 45, 46, 47, 48] rfl rfl (by intro q; cases q) cv_L_51 rfl ⟨_, rfl, rfl⟩ rfl rfl rfl hl (Nat.le_of_ble_eq_true rfl) ⟨Nat.le_of_ble_eq_true rfl, Nat.le_of_ble_eq_true rfl⟩ ⟨rfl, rfl⟩ ⟨Nat.le_of_ble_eq_true rfl, Nat.le_of_ble_eq_true rfl⟩ dL_law_449 rfl [none, none, none, none, none, none, none, none, none, none, none, none, none, none, none, none, none, none, none, none, none, none, none, none, none, none, none, none, none, none, none, none, none, none, none, none, none, none, none, some 0, some 1, some 2, some 3, some 4, some 5, some 6, some 7, some 8, some 9] rfl (ws' := cEW G q o.2 ++ cMW G q2 p9.2) rfl (fun H locs hW => ?_)
      refine lv_icmp_eq (tgt := 1261) hx hb dL_law_452 (by decide) (fun c9 => ?_) (fun c9 => ?_)
      · exact K (o.2) (p9.2) _ _ _ hI hW hl
      · exact absurd hans c9
    by_cases c_9 : sw = (9 : Int32)
    · refine x_tableIn c_9 hx hb dL_law_32 (by decide) (by decide) (off := (425)) rfl (tgt := 457) (by decide) ?_
      obtain ⟨o, p9, ho, hp, hans, hI⟩ := e_turn w v I0 (xs (nI i + (1 : Int32)).toNatClampNeg) (xs (nI i + (2 : Int32)).toNatClampNeg) (xs (nI i + (3 : Int32)).toNatClampNeg)
      refine lv_aload_n hx hb dL_law_457 rfl (lv_at hl 2 rfl) ?_
      refine lv_aload_n hx hb dL_law_458 rfl (lv_at hl 3 rfl) ?_
      refine lv_iload_n hx hb dL_law_459 rfl (lv_at hl 0 rfl) ?_
      refine lv_iconst (v := (1 : Int32)) hx hb dL_law_460 (by decide) ?_
      refine lv_iadd hx hb dL_law_461 ?_
      refine va_sld hx hb hX hbl hbA hW.2.2 h_1 dL_law_462 ?_
      refine lv_aload_n hx hb dL_law_463 rfl (lv_at hl 3 rfl) ?_
      refine lv_iload_n hx hb dL_law_464 rfl (lv_at hl 0 rfl) ?_
      refine lv_iconst (v := (2 : Int32)) hx hb dL_law_465 (by decide) ?_
      refine lv_iadd hx hb dL_law_466 ?_
      refine va_sld hx hb hX hbl hbA hW.2.2 h_2 dL_law_467 ?_
      refine lv_aload_n hx hb dL_law_468 rfl (lv_at hl 3 rfl) ?_
      refine lv_iload_n hx hb dL_law_469 rfl (lv_at hl 0 rfl) ?_
      refine lv_iconst (v := (3 : Int32)) hx hb dL_law_470 (by decide) ?_
      refine lv_iadd hx hb dL_law_471 ?_
      refine va_sld hx hb hX hbl hbA hW.2.2 h_3 dL_law_472 ?_
      refine x_Vi (av := [.ref (q 0), .int (xs (nI i + (1 : Int32)).toNatClampNeg), .int (xs (nI i + (2 : Int32)).toNatClampNeg), .int (xs (nI i + (3 : Int32)).toNatClampNeg)]) (As := [.int (xs (nI i + (1 : Int32)).toNatClampNeg), .int (xs (nI i + (2 : Int32)).toNatClampNeg), .int (xs (nI i + (3 : Int32)).toNatClampNeg)]) F hW (c_X5_turn l G q w (xs (nI i + (1 : Int32)).toNatClampNeg) (xs (nI i + (2 : Int32)).toNatClampNeg) (xs (nI i + (3 : Int32)).toNatClampNeg) _ ho) [0, 1, 2, 3, 4, 5, 6, 7, 8, 9, 10, 11, 12, 13, 14, 15, 16, 17, 18, 19, 20, 21, 22, 23, 24, 25, 26, 27, 28, 29, 30, 31, 32, 33, 34, 35, 36, 37, 38] rfl rfl (by intro q; cases q) cv_L_52 rfl ⟨_, rfl, rfl⟩ rfl rfl rfl hl (Nat.le_of_ble_eq_true rfl) ⟨Nat.le_of_ble_eq_true rfl, Nat.le_of_ble_eq_true rfl⟩ ⟨rfl, rfl⟩ ⟨Nat.le_of_ble_eq_true rfl, Nat.le_of_ble_eq_true rfl⟩ dL_law_473 rfl [some 0, some 1, some 2, some 3, some 4, some 5, some 6, some 7, some 8, some 9, some 10, some 11, some 12, some 13, some 14, some 15, some 16, some 17, some 18, some 19, some 20, some 21, some 22, some 23, some 24, some 25, some 26, some 27, some 28, some 29, some 30, some 31, some 32, some 33, some 34, some 35, some 36, some 37, some 38, none, none, none, none, none, none, none, none, none, none] rfl (ws' := cEW G q o.2 ++ cMW G q2 v) rfl (fun H locs hW => ?_)
      refine lv_aload_n hx hb dL_law_476 rfl (lv_at hl 1 rfl) ?_
      refine lv_aload_n hx hb dL_law_477 rfl (lv_at hl 3 rfl) ?_
      refine lv_iload_n hx hb dL_law_478 rfl (lv_at hl 0 rfl) ?_
      refine lv_iconst (v := (1 : Int32)) hx hb dL_law_479 (by decide) ?_
      refine lv_iadd hx hb dL_law_480 ?_
      refine va_sld hx hb hX hbl hbA hW.2.2 h_1 dL_law_481 ?_
      refine lv_aload_n hx hb dL_law_482 rfl (lv_at hl 3 rfl) ?_
      refine lv_iload_n hx hb dL_law_483 rfl (lv_at hl 0 rfl) ?_
      refine lv_iconst (v := (2 : Int32)) hx hb dL_law_484 (by decide) ?_
      refine lv_iadd hx hb dL_law_485 ?_
      refine va_sld hx hb hX hbl hbA hW.2.2 h_2 dL_law_486 ?_
      refine lv_aload_n hx hb dL_law_487 rfl (lv_at hl 3 rfl) ?_
      refine lv_iload_n hx hb dL_law_488 rfl (lv_at hl 0 rfl) ?_
      refine lv_iconst (v := (3 : Int32)) hx hb dL_law_489 (by decide) ?_
      refine lv_iadd hx hb dL_law_490 ?_
      refine va_sld hx hb hX hbl hbA hW.2.2 h_3 dL_law_491 ?_
      refine x_Vi (av := [.ref (q2 0), .int (xs (nI i + (1 : Int32)).toNatClampNeg), .int (xs (nI i + (2 : Int32)).toNatClampNeg), .int (xs (nI i + (3 : Int32)).toNatClampNeg)]) (As := [.int (xs (nI i + (1 : Int32)).toNatClampNeg), .int (xs (nI i + (2 : Int32)).toNatClampNeg), .int (xs (nI i + (3 : Int32)).toNatClampNeg)]) F hW (c_X6_turn l G q2 v (xs (nI i + (1 : Int32)).toNatClampNeg) (xs (nI i + (2 : Int32)).toNatClampNeg) (xs (nI i + (3 : Int32)).toNatClampNeg) _ hp) [39, 40, 41, 42, 43, 44, 45, 46, 47, 48] rfl rfl (by intro q; cases q) cv_L_56 rfl ⟨_, rfl, rfl⟩ rfl rfl rfl hl (Nat.le_of_ble_eq_true rfl) ⟨Nat.le_of_ble_eq_true rfl, Nat.le_of_ble_eq_true rfl⟩ ⟨rfl, rfl⟩ ⟨Nat.le_of_ble_eq_true rfl, Nat.le_of_ble_eq_true rfl⟩ dL_law_492 rfl [none, none, none, none, none, none, none, none, none, none, none, none, none, none, none, none, none, none, none, none, none, none, none, none, none, none, none, none, none, none, none, none, none, none, none, none, none, none, none, some 0, some 1, some 2, some 3, some 4, some 5, some 6, some 7, some 8, some 9] rfl (ws' := cEW G q o.2 ++ cMW G q2 p9.2) rfl (fun H locs hW => ?_)
      refine lv_icmp_eq (tgt := 1261) hx hb dL_law_495 (by decide) (fun c9 => ?_) (fun c9 => ?_)
      · exact K (o.2) (p9.2) _ _ _ hI hW hl
      · exact absurd hans c9
    by_cases c_10 : sw = (10 : Int32)
    · refine x_tableIn c_10 hx hb dL_law_32 (by decide) (by decide) (off := (468)) rfl (tgt := 500) (by decide) ?_
      obtain ⟨o, p9, ho, hp, hans, hI⟩ := e_nights w v I0 (xs (nI i + (1 : Int32)).toNatClampNeg)
      refine lv_aload_n hx hb dL_law_500 rfl (lv_at hl 2 rfl) ?_
      refine lv_aload_n hx hb dL_law_501 rfl (lv_at hl 3 rfl) ?_
      refine lv_iload_n hx hb dL_law_502 rfl (lv_at hl 0 rfl) ?_
      refine lv_iconst (v := (1 : Int32)) hx hb dL_law_503 (by decide) ?_
      refine lv_iadd hx hb dL_law_504 ?_
      refine va_sld hx hb hX hbl hbA hW.2.2 h_1 dL_law_505 ?_
      refine x_Vi (av := [.ref (q 0), .int (xs (nI i + (1 : Int32)).toNatClampNeg)]) (As := [.int (xs (nI i + (1 : Int32)).toNatClampNeg)]) F hW (c_X5_nights l G q w (xs (nI i + (1 : Int32)).toNatClampNeg) _ ho) [0, 1, 2, 3, 4, 5, 6, 7, 8, 9, 10, 11, 12, 13, 14, 15, 16, 17, 18, 19, 20, 21, 22, 23, 24, 25, 26, 27, 28, 29, 30, 31, 32, 33, 34, 35, 36, 37, 38] rfl rfl (by intro q; cases q) cv_L_57 rfl ⟨_, rfl, rfl⟩ rfl rfl rfl hl (Nat.le_of_ble_eq_true rfl) ⟨Nat.le_of_ble_eq_true rfl, Nat.le_of_ble_eq_true rfl⟩ ⟨rfl, rfl⟩ ⟨Nat.le_of_ble_eq_true rfl, Nat.le_of_ble_eq_true rfl⟩ dL_law_506 rfl [some 0, some 1, some 2, some 3, some 4, some 5, some 6, some 7, some 8, some 9, some 10, some 11, some 12, some 13, some 14, some 15, some 16, some 17, some 18, some 19, some 20, some 21, some 22, some 23, some 24, some 25, some 26, some 27, some 28, some 29, some 30, some 31, some 32, some 33, some 34, some 35, some 36, some 37, some 38, none, none, none, none, none, none, none, none, none, none] rfl (ws' := cEW G q o.2 ++ cMW G q2 v) rfl (fun H locs hW => ?_)
      refine lv_aload_n hx hb dL_law_509 rfl (lv_at hl 1 rfl) ?_
      refine lv_aload_n hx hb dL_law_510 rfl (lv_at hl 3 rfl) ?_
      refine lv_iload_n hx hb dL_law_511 rfl (lv_at hl 0 rfl) ?_
      refine lv_iconst (v := (1 : Int32)) hx hb dL_law_512 (by decide) ?_
      refine lv_iadd hx hb dL_law_513 ?_
      refine va_sld hx hb hX hbl hbA hW.2.2 h_1 dL_law_514 ?_
      refine x_Vi (av := [.ref (q2 0), .int (xs (nI i + (1 : Int32)).toNatClampNeg)]) (As := [.int (xs (nI i + (1 : Int32)).toNatClampNeg)]) F hW (c_X6_nights l G q2 v (xs (nI i + (1 : Int32)).toNatClampNeg) _ hp) [39, 40, 41, 42, 43, 44, 45, 46, 47, 48] rfl rfl (by intro q; cases q) cv_L_60 rfl ⟨_, rfl, rfl⟩ rfl rfl rfl hl (Nat.le_of_ble_eq_true rfl) ⟨Nat.le_of_ble_eq_true rfl, Nat.le_of_ble_eq_true rfl⟩ ⟨rfl, rfl⟩ ⟨Nat.le_of_ble_eq_true rfl, Nat.le_of_ble_eq_true rfl⟩ dL_law_515 rfl [none, none, none, none, none, none, none, none, none, none, none, none, none, none, none, none, none, none, none, none, none, none, none, none, none, none, none, none, none, none, none, none, none, none, none, none, none, none, none, some 0, some 1, some 2, some 3, some 4, some 5, some 6, some 7, some 8, some 9] rfl (ws' := cEW G q o.2 ++ cMW G q2 p9.2) rfl (fun H locs hW => ?_)
      refine lv_icmp_eq (tgt := 1261) hx hb dL_law_518 (by decide) (fun c9 => ?_) (fun c9 => ?_)
      · exact K (o.2) (p9.2) _ _ _ hI hW hl
      · exact absurd hans c9
    by_cases c_11 : sw = (11 : Int32)
    · refine x_tableIn c_11 hx hb dL_law_32 (by decide) (by decide) (off := (491)) rfl (tgt := 523) (by decide) ?_
      obtain ⟨o, p9, ho, hp, hans, hI⟩ := e_litThen w v I0 (xs (nI i + (1 : Int32)).toNatClampNeg)
      refine lv_aload_n hx hb dL_law_523 rfl (lv_at hl 2 rfl) ?_
      refine lv_aload_n hx hb dL_law_524 rfl (lv_at hl 3 rfl) ?_
      refine lv_iload_n hx hb dL_law_525 rfl (lv_at hl 0 rfl) ?_
      refine lv_iconst (v := (1 : Int32)) hx hb dL_law_526 (by decide) ?_
      refine lv_iadd hx hb dL_law_527 ?_
      refine va_sld hx hb hX hbl hbA hW.2.2 h_1 dL_law_528 ?_
      refine x_Vi (av := [.ref (q 0), .int (xs (nI i + (1 : Int32)).toNatClampNeg)]) (As := [.int (xs (nI i + (1 : Int32)).toNatClampNeg)]) F hW (c_X5_litThen l G q w (xs (nI i + (1 : Int32)).toNatClampNeg) _ ho) [0, 1, 2, 3, 4, 5, 6, 7, 8, 9, 10, 11, 12, 13, 14, 15, 16, 17, 18, 19, 20, 21, 22, 23, 24, 25, 26, 27, 28, 29, 30, 31, 32, 33, 34, 35, 36, 37, 38] rfl rfl (by intro q; cases q) cv_L_61 rfl ⟨_, rfl, rfl⟩ rfl rfl rfl hl (Nat.le_of_ble_eq_true rfl) ⟨Nat.le_of_ble_eq_true rfl, Nat.le_of_ble_eq_true rfl⟩ ⟨rfl, rfl⟩ ⟨Nat.le_of_ble_eq_true rfl, Nat.le_of_ble_eq_true rfl⟩ dL_law_529 rfl [some 0, some 1, some 2, some 3, some 4, some 5, some 6, some 7, some 8, some 9, some 10, some 11, some 12, some 13, some 14, some 15, some 16, some 17, some 18, some 19, some 20, some 21, some 22, some 23, some 24, some 25, some 26, some 27, some 28, some 29, some 30, some 31, some 32, some 33, some 34, some 35, some 36, some 37, some 38, none, none, none, none, none, none, none, none, none, none] rfl (ws' := cEW G q o.2 ++ cMW G q2 v) rfl (fun H locs hW => ?_)
      refine lv_aload_n hx hb dL_law_532 rfl (lv_at hl 1 rfl) ?_
      refine lv_aload_n hx hb dL_law_533 rfl (lv_at hl 3 rfl) ?_
      refine lv_iload_n hx hb dL_law_534 rfl (lv_at hl 0 rfl) ?_
      refine lv_iconst (v := (1 : Int32)) hx hb dL_law_535 (by decide) ?_
      refine lv_iadd hx hb dL_law_536 ?_
      refine va_sld hx hb hX hbl hbA hW.2.2 h_1 dL_law_537 ?_
      refine x_Vi (av := [.ref (q2 0), .int (xs (nI i + (1 : Int32)).toNatClampNeg)]) (As := [.int (xs (nI i + (1 : Int32)).toNatClampNeg)]) F hW (c_X6_litThen l G q2 v (xs (nI i + (1 : Int32)).toNatClampNeg) _ hp) [39, 40, 41, 42, 43, 44, 45, 46, 47, 48] rfl rfl (by intro q; cases q) cv_L_64 rfl ⟨_, rfl, rfl⟩ rfl rfl rfl hl (Nat.le_of_ble_eq_true rfl) ⟨Nat.le_of_ble_eq_true rfl, Nat.le_of_ble_eq_true rfl⟩ ⟨rfl, rfl⟩ ⟨Nat.le_of_ble_eq_true rfl, Nat.le_of_ble_eq_true rfl⟩ dL_law_538 rfl [none, none, none, none, none, none, none, none, none, none, none, none, none, none, none, none, none, none, none, none, none, none, none, none, none, none, none, none, none, none, none, none, none, none, none, none, none, none, none, some 0, some 1, some 2, some 3, some 4, some 5, some 6, some 7, some 8, some 9] rfl (ws' := cEW G q o.2 ++ cMW G q2 p9.2) rfl (fun H locs hW => ?_)
      refine lv_icmp_eq (tgt := 1261) hx hb dL_law_541 (by decide) (fun c9 => ?_) (fun c9 => ?_)
      · exact K (o.2) (p9.2) _ _ _ hI hW hl
      · exact absurd hans c9
    by_cases c_12 : sw = (12 : Int32)
    · refine x_tableIn c_12 hx hb dL_law_32 (by decide) (by decide) (off := (514)) rfl (tgt := 546) (by decide) ?_
      obtain ⟨o, p9, ho, hp, hans, hI⟩ := e_hangThen w v I0 (xs (nI i + (1 : Int32)).toNatClampNeg)
      refine lv_aload_n hx hb dL_law_546 rfl (lv_at hl 2 rfl) ?_
      refine lv_aload_n hx hb dL_law_547 rfl (lv_at hl 3 rfl) ?_
      refine lv_iload_n hx hb dL_law_548 rfl (lv_at hl 0 rfl) ?_
      refine lv_iconst (v := (1 : Int32)) hx hb dL_law_549 (by decide) ?_
      refine lv_iadd hx hb dL_law_550 ?_
      refine va_sld hx hb hX hbl hbA hW.2.2 h_1 dL_law_551 ?_
      refine x_Vi (av := [.ref (q 0), .int (xs (nI i + (1 : Int32)).toNatClampNeg)]) (As := [.int (xs (nI i + (1 : Int32)).toNatClampNeg)]) F hW (c_X5_hangThen l G q w (xs (nI i + (1 : Int32)).toNatClampNeg) _ ho) [0, 1, 2, 3, 4, 5, 6, 7, 8, 9, 10, 11, 12, 13, 14, 15, 16, 17, 18, 19, 20, 21, 22, 23, 24, 25, 26, 27, 28, 29, 30, 31, 32, 33, 34, 35, 36, 37, 38] rfl rfl (by intro q; cases q) cv_L_65 rfl ⟨_, rfl, rfl⟩ rfl rfl rfl hl (Nat.le_of_ble_eq_true rfl) ⟨Nat.le_of_ble_eq_true rfl, Nat.le_of_ble_eq_true rfl⟩ ⟨rfl, rfl⟩ ⟨Nat.le_of_ble_eq_true rfl, Nat.le_of_ble_eq_true rfl⟩ dL_law_552 rfl [some 0, some 1, some 2, some 3, some 4, some 5, some 6, some 7, some 8, some 9, some 10, some 11, some 12, some 13, some 14, some 15, some 16, some 17, some 18, some 19, some 20, some 21, some 22, some 23, some 24, some 25, some 26, some 27, some 28, some 29, some 30, some 31, some 32, some 33, some 34, some 35, some 36, some 37, some 38, none, none, none, none, none, none, none, none, none, none] rfl (ws' := cEW G q o.2 ++ cMW G q2 v) rfl (fun H locs hW => ?_)
      refine lv_aload_n hx hb dL_law_555 rfl (lv_at hl 1 rfl) ?_
      refine lv_aload_n hx hb dL_law_556 rfl (lv_at hl 3 rfl) ?_
      refine lv_iload_n hx hb dL_law_557 rfl (lv_at hl 0 rfl) ?_
      refine lv_iconst (v := (1 : Int32)) hx hb dL_law_558 (by decide) ?_
      refine lv_iadd hx hb dL_law_559 ?_
      refine va_sld hx hb hX hbl hbA hW.2.2 h_1 dL_law_560 ?_
      refine x_Vi (av := [.ref (q2 0), .int (xs (nI i + (1 : Int32)).toNatClampNeg)]) (As := [.int (xs (nI i + (1 : Int32)).toNatClampNeg)]) F hW (c_X6_hangThen l G q2 v (xs (nI i + (1 : Int32)).toNatClampNeg) _ hp) [39, 40, 41, 42, 43, 44, 45, 46, 47, 48] rfl rfl (by intro q; cases q) cv_L_68 rfl ⟨_, rfl, rfl⟩ rfl rfl rfl hl (Nat.le_of_ble_eq_true rfl) ⟨Nat.le_of_ble_eq_true rfl, Nat.le_of_ble_eq_true rfl⟩ ⟨rfl, rfl⟩ ⟨Nat.le_of_ble_eq_true rfl, Nat.le_of_ble_eq_true rfl⟩ dL_law_561 rfl [none, none, none, none, none, none, none, none, none, none, none, none, none, none, none, none, none, none, none, none, none, none, none, none, none, none, none, none, none, none, none, none, none, none, none, none, none, none, none, some 0, some 1, some 2, some 3, some 4, some 5, some 6, some 7, some 8, some 9] rfl (ws' := cEW G q o.2 ++ cMW G q2 p9.2) rfl (fun H locs hW => ?_)
      refine lv_icmp_eq (tgt := 1261) hx hb dL_law_564 (by decide) (fun c9 => ?_) (fun c9 => ?_)
      · exact K (o.2) (p9.2) _ _ _ hI hW hl
      · exact absurd hans c9
    by_cases c_13 : sw = (13 : Int32)
    · refine x_tableIn c_13 hx hb dL_law_32 (by decide) (by decide) (off := (537)) rfl (tgt := 569) (by decide) ?_
      obtain ⟨o, p9, ho, hp, hans, hI⟩ := e_wicksThen w v I0 (xs (nI i + (1 : Int32)).toNatClampNeg) (xs (nI i + (2 : Int32)).toNatClampNeg)
      refine lv_aload_n hx hb dL_law_569 rfl (lv_at hl 2 rfl) ?_
      refine lv_aload_n hx hb dL_law_570 rfl (lv_at hl 3 rfl) ?_
      refine lv_iload_n hx hb dL_law_571 rfl (lv_at hl 0 rfl) ?_
      refine lv_iconst (v := (1 : Int32)) hx hb dL_law_572 (by decide) ?_
      refine lv_iadd hx hb dL_law_573 ?_
      refine va_sld hx hb hX hbl hbA hW.2.2 h_1 dL_law_574 ?_
      refine lv_aload_n hx hb dL_law_575 rfl (lv_at hl 3 rfl) ?_
      refine lv_iload_n hx hb dL_law_576 rfl (lv_at hl 0 rfl) ?_
      refine lv_iconst (v := (2 : Int32)) hx hb dL_law_577 (by decide) ?_
      refine lv_iadd hx hb dL_law_578 ?_
      refine va_sld hx hb hX hbl hbA hW.2.2 h_2 dL_law_579 ?_
      refine x_Vi (av := [.ref (q 0), .int (xs (nI i + (1 : Int32)).toNatClampNeg), .int (xs (nI i + (2 : Int32)).toNatClampNeg)]) (As := [.int (xs (nI i + (1 : Int32)).toNatClampNeg), .int (xs (nI i + (2 : Int32)).toNatClampNeg)]) F hW (c_X5_wicksThen l G q w (xs (nI i + (1 : Int32)).toNatClampNeg) (xs (nI i + (2 : Int32)).toNatClampNeg) _ ho) [0, 1, 2, 3, 4, 5, 6, 7, 8, 9, 10, 11, 12, 13, 14, 15, 16, 17, 18, 19, 20, 21, 22, 23, 24, 25, 26, 27, 28, 29, 30, 31, 32, 33, 34, 35, 36, 37, 38] rfl rfl (by intro q; cases q) cv_L_69 rfl ⟨_, rfl, rfl⟩ rfl rfl rfl hl (Nat.le_of_ble_eq_true rfl) ⟨Nat.le_of_ble_eq_true rfl, Nat.le_of_ble_eq_true rfl⟩ ⟨rfl, rfl⟩ ⟨Nat.le_of_ble_eq_true rfl, Nat.le_of_ble_eq_true rfl⟩ dL_law_580 rfl [some 0, some 1, some 2, some 3, some 4, some 5, some 6, some 7, some 8, some 9, some 10, some 11, some 12, some 13, some 14, some 15, some 16, some 17, some 18, some 19, some 20, some 21, some 22, some 23, some 24, some 25, some 26, some 27, some 28, some 29, some 30, some 31, some 32, some 33, some 34, some 35, some 36, some 37, some 38, none, none, none, none, none, none, none, none, none, none] rfl (ws' := cEW G q o.2 ++ cMW G q2 v) rfl (fun H locs hW => ?_)
      refine lv_aload_n hx hb dL_law_583 rfl (lv_at hl 1 rfl) ?_
      refine lv_aload_n hx hb dL_law_584 rfl (lv_at hl 3 rfl) ?_
      refine lv_iload_n hx hb dL_law_585 rfl (lv_at hl 0 rfl) ?_
      refine lv_iconst (v := (1 : Int32)) hx hb dL_law_586 (by decide) ?_
      refine lv_iadd hx hb dL_law_587 ?_
      refine va_sld hx hb hX hbl hbA hW.2.2 h_1 dL_law_588 ?_
      refine lv_aload_n hx hb dL_law_589 rfl (lv_at hl 3 rfl) ?_
      refine lv_iload_n hx hb dL_law_590 rfl (lv_at hl 0 rfl) ?_
      refine lv_iconst (v := (2 : Int32)) hx hb dL_law_591 (by decide) ?_
      refine lv_iadd hx hb dL_law_592 ?_
      refine va_sld hx hb hX hbl hbA hW.2.2 h_2 dL_law_593 ?_
      refine x_Vi (av := [.ref (q2 0), .int (xs (nI i + (1 : Int32)).toNatClampNeg), .int (xs (nI i + (2 : Int32)).toNatClampNeg)]) (As := [.int (xs (nI i + (1 : Int32)).toNatClampNeg), .int (xs (nI i + (2 : Int32)).toNatClampNeg)]) F hW (c_X6_wicksThen l G q2 v (xs (nI i + (1 : Int32)).toNatClampNeg) (xs (nI i + (2 : Int32)).toNatClampNeg) _ hp) [39, 40, 41, 42, 43, 44, 45, 46, 47, 48] rfl rfl (by intro q; cases q) cv_L_72 rfl ⟨_, rfl, rfl⟩ rfl rfl rfl hl (Nat.le_of_ble_eq_true rfl) ⟨Nat.le_of_ble_eq_true rfl, Nat.le_of_ble_eq_true rfl⟩ ⟨rfl, rfl⟩ ⟨Nat.le_of_ble_eq_true rfl, Nat.le_of_ble_eq_true rfl⟩ dL_law_594 rfl [none, none, none, none, none, none, none, none, none, none, none, none, none, none, none, none, none, none, none, none, none, none, none, none, none, none, none, none, none, none, none, none, none, none, none, none, none, none, none, some 0, some 1, some 2, some 3, some 4, some 5, some 6, some 7, some 8, some 9] rfl (ws' := cEW G q o.2 ++ cMW G q2 p9.2) rfl (fun H locs hW => ?_)
      refine lv_icmp_eq (tgt := 1261) hx hb dL_law_597 (by decide) (fun c9 => ?_) (fun c9 => ?_)
      · exact K (o.2) (p9.2) _ _ _ hI hW hl
      · exact absurd hans c9
    by_cases c_14 : sw = (14 : Int32)
    · refine x_tableIn c_14 hx hb dL_law_32 (by decide) (by decide) (off := (570)) rfl (tgt := 602) (by decide) ?_
      obtain ⟨o, p9, ho, hp, hans, hI⟩ := e_dark w v I0 (xs (nI i + (1 : Int32)).toNatClampNeg)
      refine lv_aload_n hx hb dL_law_602 rfl (lv_at hl 2 rfl) ?_
      refine lv_aload_n hx hb dL_law_603 rfl (lv_at hl 3 rfl) ?_
      refine lv_iload_n hx hb dL_law_604 rfl (lv_at hl 0 rfl) ?_
      refine lv_iconst (v := (1 : Int32)) hx hb dL_law_605 (by decide) ?_
      refine lv_iadd hx hb dL_law_606 ?_
      refine va_sld hx hb hX hbl hbA hW.2.2 h_1 dL_law_607 ?_
      refine x_Vi (av := [.ref (q 0), .int (xs (nI i + (1 : Int32)).toNatClampNeg)]) (As := [.int (xs (nI i + (1 : Int32)).toNatClampNeg)]) F hW (c_X5_dark l G q w (xs (nI i + (1 : Int32)).toNatClampNeg) _ ho) [0, 1, 2, 3, 4, 5, 6, 7, 8, 9, 10, 11, 12, 13, 14, 15, 16, 17, 18, 19, 20, 21, 22, 23, 24, 25, 26, 27, 28, 29, 30, 31, 32, 33, 34, 35, 36, 37, 38] rfl rfl (by intro q; cases q) cv_L_73 rfl ⟨_, rfl, rfl⟩ rfl rfl rfl hl (Nat.le_of_ble_eq_true rfl) ⟨Nat.le_of_ble_eq_true rfl, Nat.le_of_ble_eq_true rfl⟩ ⟨rfl, rfl⟩ ⟨Nat.le_of_ble_eq_true rfl, Nat.le_of_ble_eq_true rfl⟩ dL_law_608 rfl [some 0, some 1, some 2, some 3, some 4, some 5, some 6, some 7, some 8, some 9, some 10, some 11, some 12, some 13, some 14, some 15, some 16, some 17, some 18, some 19, some 20, some 21, some 22, some 23, some 24, some 25, some 26, some 27, some 28, some 29, some 30, some 31, some 32, some 33, some 34, some 35, some 36, some 37, some 38, none, none, none, none, none, none, none, none, none, none] rfl (ws' := cEW G q o.2 ++ cMW G q2 v) rfl (fun H locs hW => ?_)
      refine lv_aload_n hx hb dL_law_611 rfl (lv_at hl 1 rfl) ?_
      refine lv_aload_n hx hb dL_law_612 rfl (lv_at hl 3 rfl) ?_
      refine lv_iload_n hx hb dL_law_613 rfl (lv_at hl 0 rfl) ?_
      refine lv_iconst (v := (1 : Int32)) hx hb dL_law_614 (by decide) ?_
      refine lv_iadd hx hb dL_law_615 ?_
      refine va_sld hx hb hX hbl hbA hW.2.2 h_1 dL_law_616 ?_
      refine x_Vi (av := [.ref (q2 0), .int (xs (nI i + (1 : Int32)).toNatClampNeg)]) (As := [.int (xs (nI i + (1 : Int32)).toNatClampNeg)]) F hW (c_X6_dark l G q2 v (xs (nI i + (1 : Int32)).toNatClampNeg) _ hp) [39, 40, 41, 42, 43, 44, 45, 46, 47, 48] rfl rfl (by intro q; cases q) cv_L_76 rfl ⟨_, rfl, rfl⟩ rfl rfl rfl hl (Nat.le_of_ble_eq_true rfl) ⟨Nat.le_of_ble_eq_true rfl, Nat.le_of_ble_eq_true rfl⟩ ⟨rfl, rfl⟩ ⟨Nat.le_of_ble_eq_true rfl, Nat.le_of_ble_eq_true rfl⟩ dL_law_617 rfl [none, none, none, none, none, none, none, none, none, none, none, none, none, none, none, none, none, none, none, none, none, none, none, none, none, none, none, none, none, none, none, none, none, none, none, none, none, none, none, some 0, some 1, some 2, some 3, some 4, some 5, some 6, some 7, some 8, some 9] rfl (ws' := cEW G q o.2 ++ cMW G q2 p9.2) rfl (fun H locs hW => ?_)
      refine lv_icmp_eq (tgt := 1261) hx hb dL_law_620 (by decide) (fun c9 => ?_) (fun c9 => ?_)
      · exact K (o.2) (p9.2) _ _ _ hI hW hl
      · exact absurd hans c9
    by_cases c_15 : sw = (15 : Int32)
    · refine x_tableIn c_15 hx hb dL_law_32 (by decide) (by decide) (off := (593)) rfl (tgt := 625) (by decide) ?_
      obtain ⟨o, p9, ho, hp, hans, hI⟩ := e_first w v I0 (xs (nI i + (1 : Int32)).toNatClampNeg)
      refine lv_aload_n hx hb dL_law_625 rfl (lv_at hl 2 rfl) ?_
      refine lv_aload_n hx hb dL_law_626 rfl (lv_at hl 3 rfl) ?_
      refine lv_iload_n hx hb dL_law_627 rfl (lv_at hl 0 rfl) ?_
      refine lv_iconst (v := (1 : Int32)) hx hb dL_law_628 (by decide) ?_
      refine lv_iadd hx hb dL_law_629 ?_
      refine va_sld hx hb hX hbl hbA hW.2.2 h_1 dL_law_630 ?_
      refine x_Vi (av := [.ref (q 0), .int (xs (nI i + (1 : Int32)).toNatClampNeg)]) (As := [.int (xs (nI i + (1 : Int32)).toNatClampNeg)]) F hW (c_X5_first l G q w (xs (nI i + (1 : Int32)).toNatClampNeg) _ ho) [0, 1, 2, 3, 4, 5, 6, 7, 8, 9, 10, 11, 12, 13, 14, 15, 16, 17, 18, 19, 20, 21, 22, 23, 24, 25, 26, 27, 28, 29, 30, 31, 32, 33, 34, 35, 36, 37, 38] rfl rfl (by intro q; cases q) cv_L_77 rfl ⟨_, rfl, rfl⟩ rfl rfl rfl hl (Nat.le_of_ble_eq_true rfl) ⟨Nat.le_of_ble_eq_true rfl, Nat.le_of_ble_eq_true rfl⟩ ⟨rfl, rfl⟩ ⟨Nat.le_of_ble_eq_true rfl, Nat.le_of_ble_eq_true rfl⟩ dL_law_631 rfl [some 0, some 1, some 2, some 3, some 4, some 5, some 6, some 7, some 8, some 9, some 10, some 11, some 12, some 13, some 14, some 15, some 16, some 17, some 18, some 19, some 20, some 21, some 22, some 23, some 24, some 25, some 26, some 27, some 28, some 29, some 30, some 31, some 32, some 33, some 34, some 35, some 36, some 37, some 38, none, none, none, none, none, none, none, none, none, none] rfl (ws' := cEW G q o.2 ++ cMW G q2 v) rfl (fun H locs hW => ?_)
      refine lv_aload_n hx hb dL_law_634 rfl (lv_at hl 1 rfl) ?_
      refine lv_aload_n hx hb dL_law_635 rfl (lv_at hl 3 rfl) ?_
      refine lv_iload_n hx hb dL_law_636 rfl (lv_at hl 0 rfl) ?_
      refine lv_iconst (v := (1 : Int32)) hx hb dL_law_637 (by decide) ?_
      refine lv_iadd hx hb dL_law_638 ?_
      refine va_sld hx hb hX hbl hbA hW.2.2 h_1 dL_law_639 ?_
      refine x_Vi (av := [.ref (q2 0), .int (xs (nI i + (1 : Int32)).toNatClampNeg)]) (As := [.int (xs (nI i + (1 : Int32)).toNatClampNeg)]) F hW (c_X6_first l G q2 v (xs (nI i + (1 : Int32)).toNatClampNeg) _ hp) [39, 40, 41, 42, 43, 44, 45, 46, 47, 48] rfl rfl (by intro q; cases q) cv_L_80 rfl ⟨_, rfl, rfl⟩ rfl rfl rfl hl (Nat.le_of_ble_eq_true rfl) ⟨Nat.le_of_ble_eq_true rfl, Nat.le_of_ble_eq_true rfl⟩ ⟨rfl, rfl⟩ ⟨Nat.le_of_ble_eq_true rfl, Nat.le_of_ble_eq_true rfl⟩ dL_law_640 rfl [none, none, none, none, none, none, none, none, none, none, none, none, none, none, none, none, none, none, none, none, none, none, none, none, none, none, none, none, none, none, none, none, none, none, none, none, none, none, none, some 0, some 1, some 2, some 3, some 4, some 5, some 6, some 7, some 8, some 9] rfl (ws' := cEW G q o.2 ++ cMW G q2 p9.2) rfl (fun H locs hW => ?_)
      refine lv_icmp_eq (tgt := 1261) hx hb dL_law_643 (by decide) (fun c9 => ?_) (fun c9 => ?_)
      · exact K (o.2) (p9.2) _ _ _ hI hW hl
      · exact absurd hans c9
    by_cases c_16 : sw = (16 : Int32)
    · refine x_tableIn c_16 hx hb dL_law_32 (by decide) (by decide) (off := (616)) rfl (tgt := 648) (by decide) ?_
      obtain ⟨o, p9, ho, hp, hans, hI⟩ := e_sees w v I0 (xs (nI i + (1 : Int32)).toNatClampNeg)
      refine lv_aload_n hx hb dL_law_648 rfl (lv_at hl 2 rfl) ?_
      refine lv_aload_n hx hb dL_law_649 rfl (lv_at hl 3 rfl) ?_
      refine lv_iload_n hx hb dL_law_650 rfl (lv_at hl 0 rfl) ?_
      refine lv_iconst (v := (1 : Int32)) hx hb dL_law_651 (by decide) ?_
      refine lv_iadd hx hb dL_law_652 ?_
      refine va_sld hx hb hX hbl hbA hW.2.2 h_1 dL_law_653 ?_
      refine x_Vi (av := [.ref (q 0), .int (xs (nI i + (1 : Int32)).toNatClampNeg)]) (As := [.int (xs (nI i + (1 : Int32)).toNatClampNeg)]) F hW (c_X5_sees l G q w (xs (nI i + (1 : Int32)).toNatClampNeg) _ ho) [0, 1, 2, 3, 4, 5, 6, 7, 8, 9, 10, 11, 12, 13, 14, 15, 16, 17, 18, 19, 20, 21, 22, 23, 24, 25, 26, 27, 28, 29, 30, 31, 32, 33, 34, 35, 36, 37, 38] rfl rfl (by intro q; cases q) cv_L_81 rfl ⟨_, rfl, rfl⟩ rfl rfl rfl hl (Nat.le_of_ble_eq_true rfl) ⟨Nat.le_of_ble_eq_true rfl, Nat.le_of_ble_eq_true rfl⟩ ⟨rfl, rfl⟩ ⟨Nat.le_of_ble_eq_true rfl, Nat.le_of_ble_eq_true rfl⟩ dL_law_654 rfl [some 0, some 1, some 2, some 3, some 4, some 5, some 6, some 7, some 8, some 9, some 10, some 11, some 12, some 13, some 14, some 15, some 16, some 17, some 18, some 19, some 20, some 21, some 22, some 23, some 24, some 25, some 26, some 27, some 28, some 29, some 30, some 31, some 32, some 33, some 34, some 35, some 36, some 37, some 38, none, none, none, none, none, none, none, none, none, none] rfl (ws' := cEW G q o.2 ++ cMW G q2 v) rfl (fun H locs hW => ?_)
      refine lv_aload_n hx hb dL_law_657 rfl (lv_at hl 1 rfl) ?_
      refine lv_aload_n hx hb dL_law_658 rfl (lv_at hl 3 rfl) ?_
      refine lv_iload_n hx hb dL_law_659 rfl (lv_at hl 0 rfl) ?_
      refine lv_iconst (v := (1 : Int32)) hx hb dL_law_660 (by decide) ?_
      refine lv_iadd hx hb dL_law_661 ?_
      refine va_sld hx hb hX hbl hbA hW.2.2 h_1 dL_law_662 ?_
      refine x_Vi (av := [.ref (q2 0), .int (xs (nI i + (1 : Int32)).toNatClampNeg)]) (As := [.int (xs (nI i + (1 : Int32)).toNatClampNeg)]) F hW (c_X6_sees l G q2 v (xs (nI i + (1 : Int32)).toNatClampNeg) _ hp) [39, 40, 41, 42, 43, 44, 45, 46, 47, 48] rfl rfl (by intro q; cases q) cv_L_84 rfl ⟨_, rfl, rfl⟩ rfl rfl rfl hl (Nat.le_of_ble_eq_true rfl) ⟨Nat.le_of_ble_eq_true rfl, Nat.le_of_ble_eq_true rfl⟩ ⟨rfl, rfl⟩ ⟨Nat.le_of_ble_eq_true rfl, Nat.le_of_ble_eq_true rfl⟩ dL_law_663 rfl [none, none, none, none, none, none, none, none, none, none, none, none, none, none, none, none, none, none, none, none, none, none, none, none, none, none, none, none, none, none, none, none, none, none, none, none, none, none, none, some 0, some 1, some 2, some 3, some 4, some 5, some 6, some 7, some 8, some 9] rfl (ws' := cEW G q o.2 ++ cMW G q2 p9.2) rfl (fun H locs hW => ?_)
      refine lv_icmp_eq (tgt := 1261) hx hb dL_law_666 (by decide) (fun c9 => ?_) (fun c9 => ?_)
      · exact K (o.2) (p9.2) _ _ _ hI hW hl
      · exact absurd hans c9
    by_cases c_17 : sw = (17 : Int32)
    · refine x_tableIn c_17 hx hb dL_law_32 (by decide) (by decide) (off := (639)) rfl (tgt := 671) (by decide) ?_
      obtain ⟨o, p9, ho, hp, hans, hI⟩ := e_hill w v I0 (xs (nI i + (1 : Int32)).toNatClampNeg) (xs (nI i + (2 : Int32)).toNatClampNeg)
      refine lv_aload_n hx hb dL_law_671 rfl (lv_at hl 2 rfl) ?_
      refine lv_aload_n hx hb dL_law_672 rfl (lv_at hl 3 rfl) ?_
      refine lv_iload_n hx hb dL_law_673 rfl (lv_at hl 0 rfl) ?_
      refine lv_iconst (v := (1 : Int32)) hx hb dL_law_674 (by decide) ?_
      refine lv_iadd hx hb dL_law_675 ?_
      refine va_sld hx hb hX hbl hbA hW.2.2 h_1 dL_law_676 ?_
      refine lv_aload_n hx hb dL_law_677 rfl (lv_at hl 3 rfl) ?_
      refine lv_iload_n hx hb dL_law_678 rfl (lv_at hl 0 rfl) ?_
      refine lv_iconst (v := (2 : Int32)) hx hb dL_law_679 (by decide) ?_
      refine lv_iadd hx hb dL_law_680 ?_
      refine va_sld hx hb hX hbl hbA hW.2.2 h_2 dL_law_681 ?_
      refine x_Vi (av := [.ref (q 0), .int (xs (nI i + (1 : Int32)).toNatClampNeg), .int (xs (nI i + (2 : Int32)).toNatClampNeg)]) (As := [.int (xs (nI i + (1 : Int32)).toNatClampNeg), .int (xs (nI i + (2 : Int32)).toNatClampNeg)]) F hW (c_X5_hill l G q w (xs (nI i + (1 : Int32)).toNatClampNeg) (xs (nI i + (2 : Int32)).toNatClampNeg) _ ho) [0, 1, 2, 3, 4, 5, 6, 7, 8, 9, 10, 11, 12, 13, 14, 15, 16, 17, 18, 19, 20, 21, 22, 23, 24, 25, 26, 27, 28, 29, 30, 31, 32, 33, 34, 35, 36, 37, 38] rfl rfl (by intro q; cases q) cv_L_85 rfl ⟨_, rfl, rfl⟩ rfl rfl rfl hl (Nat.le_of_ble_eq_true rfl) ⟨Nat.le_of_ble_eq_true rfl, Nat.le_of_ble_eq_true rfl⟩ ⟨rfl, rfl⟩ ⟨Nat.le_of_ble_eq_true rfl, Nat.le_of_ble_eq_true rfl⟩ dL_law_682 rfl [some 0, some 1, some 2, some 3, some 4, some 5, some 6, some 7, some 8, some 9, some 10, some 11, some 12, some 13, some 14, some 15, some 16, some 17, some 18, some 19, some 20, some 21, some 22, some 23, some 24, some 25, some 26, some 27, some 28, some 29, some 30, some 31, some 32, some 33, some 34, some 35, some 36, some 37, some 38, none, none, none, none, none, none, none, none, none, none] rfl (ws' := cEW G q o.2 ++ cMW G q2 v) rfl (fun H locs hW => ?_)
      refine lv_aload_n hx hb dL_law_685 rfl (lv_at hl 1 rfl) ?_
      refine lv_aload_n hx hb dL_law_686 rfl (lv_at hl 3 rfl) ?_
      refine lv_iload_n hx hb dL_law_687 rfl (lv_at hl 0 rfl) ?_
      refine lv_iconst (v := (1 : Int32)) hx hb dL_law_688 (by decide) ?_
      refine lv_iadd hx hb dL_law_689 ?_
      refine va_sld hx hb hX hbl hbA hW.2.2 h_1 dL_law_690 ?_
      refine lv_aload_n hx hb dL_law_691 rfl (lv_at hl 3 rfl) ?_
      refine lv_iload_n hx hb dL_law_692 rfl (lv_at hl 0 rfl) ?_
      refine lv_iconst (v := (2 : Int32)) hx hb dL_law_693 (by decide) ?_
      refine lv_iadd hx hb dL_law_694 ?_
      refine va_sld hx hb hX hbl hbA hW.2.2 h_2 dL_law_695 ?_
      refine x_Vi (av := [.ref (q2 0), .int (xs (nI i + (1 : Int32)).toNatClampNeg), .int (xs (nI i + (2 : Int32)).toNatClampNeg)]) (As := [.int (xs (nI i + (1 : Int32)).toNatClampNeg), .int (xs (nI i + (2 : Int32)).toNatClampNeg)]) F hW (c_X6_hill l G q2 v (xs (nI i + (1 : Int32)).toNatClampNeg) (xs (nI i + (2 : Int32)).toNatClampNeg) _ hp) [39, 40, 41, 42, 43, 44, 45, 46, 47, 48] rfl rfl (by intro q; cases q) cv_L_88 rfl ⟨_, rfl, rfl⟩ rfl rfl rfl hl (Nat.le_of_ble_eq_true rfl) ⟨Nat.le_of_ble_eq_true rfl, Nat.le_of_ble_eq_true rfl⟩ ⟨rfl, rfl⟩ ⟨Nat.le_of_ble_eq_true rfl, Nat.le_of_ble_eq_true rfl⟩ dL_law_696 rfl [none, none, none, none, none, none, none, none, none, none, none, none, none, none, none, none, none, none, none, none, none, none, none, none, none, none, none, none, none, none, none, none, none, none, none, none, none, none, none, some 0, some 1, some 2, some 3, some 4, some 5, some 6, some 7, some 8, some 9] rfl (ws' := cEW G q o.2 ++ cMW G q2 p9.2) rfl (fun H locs hW => ?_)
      refine lv_icmp_eq (tgt := 1261) hx hb dL_law_699 (by decide) (fun c9 => ?_) (fun c9 => ?_)
      · exact K (o.2) (p9.2) _ _ _ hI hW hl
      · exact absurd hans c9
    by_cases c_18 : sw = (18 : Int32)
    · refine x_tableIn c_18 hx hb dL_law_32 (by decide) (by decide) (off := (672)) rfl (tgt := 704) (by decide) ?_
      obtain ⟨o, p9, ho, hp, hans, hI⟩ := e_leastEye w v I0 (xs (nI i + (1 : Int32)).toNatClampNeg)
      refine lv_aload_n hx hb dL_law_704 rfl (lv_at hl 2 rfl) ?_
      refine lv_aload_n hx hb dL_law_705 rfl (lv_at hl 3 rfl) ?_
      refine lv_iload_n hx hb dL_law_706 rfl (lv_at hl 0 rfl) ?_
      refine lv_iconst (v := (1 : Int32)) hx hb dL_law_707 (by decide) ?_
      refine lv_iadd hx hb dL_law_708 ?_
      refine va_sld hx hb hX hbl hbA hW.2.2 h_1 dL_law_709 ?_
      refine x_Vi (av := [.ref (q 0), .int (xs (nI i + (1 : Int32)).toNatClampNeg)]) (As := [.int (xs (nI i + (1 : Int32)).toNatClampNeg)]) F hW (c_X5_leastEye l G q w (xs (nI i + (1 : Int32)).toNatClampNeg) _ ho) [0, 1, 2, 3, 4, 5, 6, 7, 8, 9, 10, 11, 12, 13, 14, 15, 16, 17, 18, 19, 20, 21, 22, 23, 24, 25, 26, 27, 28, 29, 30, 31, 32, 33, 34, 35, 36, 37, 38] rfl rfl (by intro q; cases q) cv_L_89 rfl ⟨_, rfl, rfl⟩ rfl rfl rfl hl (Nat.le_of_ble_eq_true rfl) ⟨Nat.le_of_ble_eq_true rfl, Nat.le_of_ble_eq_true rfl⟩ ⟨rfl, rfl⟩ ⟨Nat.le_of_ble_eq_true rfl, Nat.le_of_ble_eq_true rfl⟩ dL_law_710 rfl [some 0, some 1, some 2, some 3, some 4, some 5, some 6, some 7, some 8, some 9, some 10, some 11, some 12, some 13, some 14, some 15, some 16, some 17, some 18, some 19, some 20, some 21, some 22, some 23, some 24, some 25, some 26, some 27, some 28, some 29, some 30, some 31, some 32, some 33, some 34, some 35, some 36, some 37, some 38, none, none, none, none, none, none, none, none, none, none] rfl (ws' := cEW G q o.2 ++ cMW G q2 v) rfl (fun H locs hW => ?_)
      refine lv_aload_n hx hb dL_law_713 rfl (lv_at hl 1 rfl) ?_
      refine lv_aload_n hx hb dL_law_714 rfl (lv_at hl 3 rfl) ?_
      refine lv_iload_n hx hb dL_law_715 rfl (lv_at hl 0 rfl) ?_
      refine lv_iconst (v := (1 : Int32)) hx hb dL_law_716 (by decide) ?_
      refine lv_iadd hx hb dL_law_717 ?_
      refine va_sld hx hb hX hbl hbA hW.2.2 h_1 dL_law_718 ?_
      refine x_Vi (av := [.ref (q2 0), .int (xs (nI i + (1 : Int32)).toNatClampNeg)]) (As := [.int (xs (nI i + (1 : Int32)).toNatClampNeg)]) F hW (c_X6_leastEye l G q2 v (xs (nI i + (1 : Int32)).toNatClampNeg) _ hp) [39, 40, 41, 42, 43, 44, 45, 46, 47, 48] rfl rfl (by intro q; cases q) cv_L_92 rfl ⟨_, rfl, rfl⟩ rfl rfl rfl hl (Nat.le_of_ble_eq_true rfl) ⟨Nat.le_of_ble_eq_true rfl, Nat.le_of_ble_eq_true rfl⟩ ⟨rfl, rfl⟩ ⟨Nat.le_of_ble_eq_true rfl, Nat.le_of_ble_eq_true rfl⟩ dL_law_719 rfl [none, none, none, none, none, none, none, none, none, none, none, none, none, none, none, none, none, none, none, none, none, none, none, none, none, none, none, none, none, none, none, none, none, none, none, none, none, none, none, some 0, some 1, some 2, some 3, some 4, some 5, some 6, some 7, some 8, some 9] rfl (ws' := cEW G q o.2 ++ cMW G q2 p9.2) rfl (fun H locs hW => ?_)
      refine lv_icmp_eq (tgt := 1261) hx hb dL_law_722 (by decide) (fun c9 => ?_) (fun c9 => ?_)
      · exact K (o.2) (p9.2) _ _ _ hI hW hl
      · exact absurd hans c9
    by_cases c_19 : sw = (19 : Int32)
    · refine x_tableIn c_19 hx hb dL_law_32 (by decide) (by decide) (off := (695)) rfl (tgt := 727) (by decide) ?_
      obtain ⟨o, p9, ho, hp, hans, hI⟩ := e_cut w v I0 (xs (nI i + (1 : Int32)).toNatClampNeg)
      refine lv_aload_n hx hb dL_law_727 rfl (lv_at hl 2 rfl) ?_
      refine lv_aload_n hx hb dL_law_728 rfl (lv_at hl 3 rfl) ?_
      refine lv_iload_n hx hb dL_law_729 rfl (lv_at hl 0 rfl) ?_
      refine lv_iconst (v := (1 : Int32)) hx hb dL_law_730 (by decide) ?_
      refine lv_iadd hx hb dL_law_731 ?_
      refine va_sld hx hb hX hbl hbA hW.2.2 h_1 dL_law_732 ?_
      refine x_Vi (av := [.ref (q 0), .int (xs (nI i + (1 : Int32)).toNatClampNeg)]) (As := [.int (xs (nI i + (1 : Int32)).toNatClampNeg)]) F hW (c_X5_cut l G q w (xs (nI i + (1 : Int32)).toNatClampNeg) _ ho) [0, 1, 2, 3, 4, 5, 6, 7, 8, 9, 10, 11, 12, 13, 14, 15, 16, 17, 18, 19, 20, 21, 22, 23, 24, 25, 26, 27, 28, 29, 30, 31, 32, 33, 34, 35, 36, 37, 38] rfl rfl (by intro q; cases q) cv_L_93 rfl ⟨_, rfl, rfl⟩ rfl rfl rfl hl (Nat.le_of_ble_eq_true rfl) ⟨Nat.le_of_ble_eq_true rfl, Nat.le_of_ble_eq_true rfl⟩ ⟨rfl, rfl⟩ ⟨Nat.le_of_ble_eq_true rfl, Nat.le_of_ble_eq_true rfl⟩ dL_law_733 rfl [some 0, some 1, some 2, some 3, some 4, some 5, some 6, some 7, some 8, some 9, some 10, some 11, some 12, some 13, some 14, some 15, some 16, some 17, some 18, some 19, some 20, some 21, some 22, some 23, some 24, some 25, some 26, some 27, some 28, some 29, some 30, some 31, some 32, some 33, some 34, some 35, some 36, some 37, some 38, none, none, none, none, none, none, none, none, none, none] rfl (ws' := cEW G q o.2 ++ cMW G q2 v) rfl (fun H locs hW => ?_)
      refine lv_aload_n hx hb dL_law_736 rfl (lv_at hl 1 rfl) ?_
      refine lv_aload_n hx hb dL_law_737 rfl (lv_at hl 3 rfl) ?_
      refine lv_iload_n hx hb dL_law_738 rfl (lv_at hl 0 rfl) ?_
      refine lv_iconst (v := (1 : Int32)) hx hb dL_law_739 (by decide) ?_
      refine lv_iadd hx hb dL_law_740 ?_
      refine va_sld hx hb hX hbl hbA hW.2.2 h_1 dL_law_741 ?_
      refine x_Vi (av := [.ref (q2 0), .int (xs (nI i + (1 : Int32)).toNatClampNeg)]) (As := [.int (xs (nI i + (1 : Int32)).toNatClampNeg)]) F hW (c_X6_cut l G q2 v (xs (nI i + (1 : Int32)).toNatClampNeg) _ hp) [39, 40, 41, 42, 43, 44, 45, 46, 47, 48] rfl rfl (by intro q; cases q) cv_L_96 rfl ⟨_, rfl, rfl⟩ rfl rfl rfl hl (Nat.le_of_ble_eq_true rfl) ⟨Nat.le_of_ble_eq_true rfl, Nat.le_of_ble_eq_true rfl⟩ ⟨rfl, rfl⟩ ⟨Nat.le_of_ble_eq_true rfl, Nat.le_of_ble_eq_true rfl⟩ dL_law_742 rfl [none, none, none, none, none, none, none, none, none, none, none, none, none, none, none, none, none, none, none, none, none, none, none, none, none, none, none, none, none, none, none, none, none, none, none, none, none, none, none, some 0, some 1, some 2, some 3, some 4, some 5, some 6, some 7, some 8, some 9] rfl (ws' := cEW G q o.2 ++ cMW G q2 p9.2) rfl (fun H locs hW => ?_)
      refine lv_icmp_eq (tgt := 1261) hx hb dL_law_745 (by decide) (fun c9 => ?_) (fun c9 => ?_)
      · exact K (o.2) (p9.2) _ _ _ hI hW hl
      · exact absurd hans c9
    by_cases c_20 : sw = (20 : Int32)
    · refine x_tableIn c_20 hx hb dL_law_32 (by decide) (by decide) (off := (718)) rfl (tgt := 750) (by decide) ?_
      obtain ⟨o, p9, ho, hp, hans, hI⟩ := e_build w v I0 (xs (nI i + (1 : Int32)).toNatClampNeg)
      refine lv_aload_n hx hb dL_law_750 rfl (lv_at hl 2 rfl) ?_
      refine lv_aload_n hx hb dL_law_751 rfl (lv_at hl 3 rfl) ?_
      refine lv_iload_n hx hb dL_law_752 rfl (lv_at hl 0 rfl) ?_
      refine lv_iconst (v := (1 : Int32)) hx hb dL_law_753 (by decide) ?_
      refine lv_iadd hx hb dL_law_754 ?_
      refine va_sld hx hb hX hbl hbA hW.2.2 h_1 dL_law_755 ?_
      refine x_Vi (av := [.ref (q 0), .int (xs (nI i + (1 : Int32)).toNatClampNeg)]) (As := [.int (xs (nI i + (1 : Int32)).toNatClampNeg)]) F hW (c_X5_build l G q w (xs (nI i + (1 : Int32)).toNatClampNeg) _ ho) [0, 1, 2, 3, 4, 5, 6, 7, 8, 9, 10, 11, 12, 13, 14, 15, 16, 17, 18, 19, 20, 21, 22, 23, 24, 25, 26, 27, 28, 29, 30, 31, 32, 33, 34, 35, 36, 37, 38] rfl rfl (by intro q; cases q) cv_L_97 rfl ⟨_, rfl, rfl⟩ rfl rfl rfl hl (Nat.le_of_ble_eq_true rfl) ⟨Nat.le_of_ble_eq_true rfl, Nat.le_of_ble_eq_true rfl⟩ ⟨rfl, rfl⟩ ⟨Nat.le_of_ble_eq_true rfl, Nat.le_of_ble_eq_true rfl⟩ dL_law_756 rfl [some 0, some 1, some 2, some 3, some 4, some 5, some 6, some 7, some 8, some 9, some 10, some 11, some 12, some 13, some 14, some 15, some 16, some 17, some 18, some 19, some 20, some 21, some 22, some 23, some 24, some 25, some 26, some 27, some 28, some 29, some 30, some 31, some 32, some 33, some 34, some 35, some 36, some 37, some 38, none, none, none, none, none, none, none, none, none, none] rfl (ws' := cEW G q o.2 ++ cMW G q2 v) rfl (fun H locs hW => ?_)
      refine lv_aload_n hx hb dL_law_759 rfl (lv_at hl 1 rfl) ?_
      refine lv_aload_n hx hb dL_law_760 rfl (lv_at hl 3 rfl) ?_
      refine lv_iload_n hx hb dL_law_761 rfl (lv_at hl 0 rfl) ?_
      refine lv_iconst (v := (1 : Int32)) hx hb dL_law_762 (by decide) ?_
      refine lv_iadd hx hb dL_law_763 ?_
      refine va_sld hx hb hX hbl hbA hW.2.2 h_1 dL_law_764 ?_
      refine x_Vi (av := [.ref (q2 0), .int (xs (nI i + (1 : Int32)).toNatClampNeg)]) (As := [.int (xs (nI i + (1 : Int32)).toNatClampNeg)]) F hW (c_X6_build l G q2 v (xs (nI i + (1 : Int32)).toNatClampNeg) _ hp) [39, 40, 41, 42, 43, 44, 45, 46, 47, 48] rfl rfl (by intro q; cases q) cv_L_100 rfl ⟨_, rfl, rfl⟩ rfl rfl rfl hl (Nat.le_of_ble_eq_true rfl) ⟨Nat.le_of_ble_eq_true rfl, Nat.le_of_ble_eq_true rfl⟩ ⟨rfl, rfl⟩ ⟨Nat.le_of_ble_eq_true rfl, Nat.le_of_ble_eq_true rfl⟩ dL_law_765 rfl [none, none, none, none, none, none, none, none, none, none, none, none, none, none, none, none, none, none, none, none, none, none, none, none, none, none, none, none, none, none, none, none, none, none, none, none, none, none, none, some 0, some 1, some 2, some 3, some 4, some 5, some 6, some 7, some 8, some 9] rfl (ws' := cEW G q o.2 ++ cMW G q2 p9.2) rfl (fun H locs hW => ?_)
      refine lv_icmp_eq (tgt := 1261) hx hb dL_law_768 (by decide) (fun c9 => ?_) (fun c9 => ?_)
      · exact K (o.2) (p9.2) _ _ _ hI hW hl
      · exact absurd hans c9
    by_cases c_21 : sw = (21 : Int32)
    · refine x_tableIn c_21 hx hb dL_law_32 (by decide) (by decide) (off := (741)) rfl (tgt := 773) (by decide) ?_
      obtain ⟨o, p9, ho, hp, hans, hI⟩ := e_fell w v I0 
      refine lv_aload_n hx hb dL_law_773 rfl (lv_at hl 2 rfl) ?_
      refine x_Vi (av := [.ref (q 0)]) (As := []) F hW (c_X5_fell l G q w  _ ho) [0, 1, 2, 3, 4, 5, 6, 7, 8, 9, 10, 11, 12, 13, 14, 15, 16, 17, 18, 19, 20, 21, 22, 23, 24, 25, 26, 27, 28, 29, 30, 31, 32, 33, 34, 35, 36, 37, 38] rfl rfl (by intro q; cases q) cv_L_101 rfl ⟨_, rfl, rfl⟩ rfl rfl rfl hl (Nat.le_of_ble_eq_true rfl) ⟨Nat.le_of_ble_eq_true rfl, Nat.le_of_ble_eq_true rfl⟩ ⟨rfl, rfl⟩ ⟨Nat.le_of_ble_eq_true rfl, Nat.le_of_ble_eq_true rfl⟩ dL_law_774 rfl [some 0, some 1, some 2, some 3, some 4, some 5, some 6, some 7, some 8, some 9, some 10, some 11, some 12, some 13, some 14, some 15, some 16, some 17, some 18, some 19, some 20, some 21, some 22, some 23, some 24, some 25, some 26, some 27, some 28, some 29, some 30, some 31, some 32, some 33, some 34, some 35, some 36, some 37, some 38, none, none, none, none, none, none, none, none, none, none] rfl (ws' := cEW G q o.2 ++ cMW G q2 v) rfl (fun H locs hW => ?_)
      refine lv_aload_n hx hb dL_law_777 rfl (lv_at hl 1 rfl) ?_
      refine x_Vi (av := [.ref (q2 0)]) (As := []) F hW (c_X6_fell l G q2 v  _ hp) [39, 40, 41, 42, 43, 44, 45, 46, 47, 48] rfl rfl (by intro q; cases q) cv_L_104 rfl ⟨_, rfl, rfl⟩ rfl rfl rfl hl (Nat.le_of_ble_eq_true rfl) ⟨Nat.le_of_ble_eq_true rfl, Nat.le_of_ble_eq_true rfl⟩ ⟨rfl, rfl⟩ ⟨Nat.le_of_ble_eq_true rfl, Nat.le_of_ble_eq_true rfl⟩ dL_law_778 rfl [none, none, none, none, none, none, none, none, none, none, none, none, none, none, none, none, none, none, none, none, none, none, none, none, none, none, none, none, none, none, none, none, none, none, none, none, none, none, none, some 0, some 1, some 2, some 3, some 4, some 5, some 6, some 7, some 8, some 9] rfl (ws' := cEW G q o.2 ++ cMW G q2 p9.2) rfl (fun H locs hW => ?_)
      refine lv_icmp_eq (tgt := 1261) hx hb dL_law_781 (by decide) (fun c9 => ?_) (fun c9 => ?_)
      · exact K (o.2) (p9.2) _ _ _ hI hW hl
      · exact absurd hans c9
    by_cases c_22 : sw = (22 : Int32)
    · refine x_tableIn c_22 hx hb dL_law_32 (by decide) (by decide) (off := (754)) rfl (tgt := 786) (by decide) ?_
      obtain ⟨o, p9, ho, hp, hans, hI⟩ := e_raise w v I0 
      refine lv_aload_n hx hb dL_law_786 rfl (lv_at hl 2 rfl) ?_
      refine x_Vi (av := [.ref (q 0)]) (As := []) F hW (c_X5_raise l G q w  _ ho) [0, 1, 2, 3, 4, 5, 6, 7, 8, 9, 10, 11, 12, 13, 14, 15, 16, 17, 18, 19, 20, 21, 22, 23, 24, 25, 26, 27, 28, 29, 30, 31, 32, 33, 34, 35, 36, 37, 38] rfl rfl (by intro q; cases q) cv_L_105 rfl ⟨_, rfl, rfl⟩ rfl rfl rfl hl (Nat.le_of_ble_eq_true rfl) ⟨Nat.le_of_ble_eq_true rfl, Nat.le_of_ble_eq_true rfl⟩ ⟨rfl, rfl⟩ ⟨Nat.le_of_ble_eq_true rfl, Nat.le_of_ble_eq_true rfl⟩ dL_law_787 rfl [some 0, some 1, some 2, some 3, some 4, some 5, some 6, some 7, some 8, some 9, some 10, some 11, some 12, some 13, some 14, some 15, some 16, some 17, some 18, some 19, some 20, some 21, some 22, some 23, some 24, some 25, some 26, some 27, some 28, some 29, some 30, some 31, some 32, some 33, some 34, some 35, some 36, some 37, some 38, none, none, none, none, none, none, none, none, none, none] rfl (ws' := cEW G q o.2 ++ cMW G q2 v) rfl (fun H locs hW => ?_)
      refine lv_aload_n hx hb dL_law_790 rfl (lv_at hl 1 rfl) ?_
      refine x_Vi (av := [.ref (q2 0)]) (As := []) F hW (c_X6_raise l G q2 v  _ hp) [39, 40, 41, 42, 43, 44, 45, 46, 47, 48] rfl rfl (by intro q; cases q) cv_L_108 rfl ⟨_, rfl, rfl⟩ rfl rfl rfl hl (Nat.le_of_ble_eq_true rfl) ⟨Nat.le_of_ble_eq_true rfl, Nat.le_of_ble_eq_true rfl⟩ ⟨rfl, rfl⟩ ⟨Nat.le_of_ble_eq_true rfl, Nat.le_of_ble_eq_true rfl⟩ dL_law_791 rfl [none, none, none, none, none, none, none, none, none, none, none, none, none, none, none, none, none, none, none, none, none, none, none, none, none, none, none, none, none, none, none, none, none, none, none, none, none, none, none, some 0, some 1, some 2, some 3, some 4, some 5, some 6, some 7, some 8, some 9] rfl (ws' := cEW G q o.2 ++ cMW G q2 p9.2) rfl (fun H locs hW => ?_)
      refine lv_icmp_eq (tgt := 1261) hx hb dL_law_794 (by decide) (fun c9 => ?_) (fun c9 => ?_)
      · exact K (o.2) (p9.2) _ _ _ hI hW hl
      · exact absurd hans c9
    by_cases c_23 : sw = (23 : Int32)
    · refine x_tableIn c_23 hx hb dL_law_32 (by decide) (by decide) (off := (767)) rfl (tgt := 799) (by decide) ?_
      obtain ⟨o, p9, ho, hp, hans, hI⟩ := e_call w v I0 (xs (nI i + (1 : Int32)).toNatClampNeg)
      refine lv_aload_n hx hb dL_law_799 rfl (lv_at hl 2 rfl) ?_
      refine lv_aload_n hx hb dL_law_800 rfl (lv_at hl 3 rfl) ?_
      refine lv_iload_n hx hb dL_law_801 rfl (lv_at hl 0 rfl) ?_
      refine lv_iconst (v := (1 : Int32)) hx hb dL_law_802 (by decide) ?_
      refine lv_iadd hx hb dL_law_803 ?_
      refine va_sld hx hb hX hbl hbA hW.2.2 h_1 dL_law_804 ?_
      refine x_Vi (av := [.ref (q 0), .int (xs (nI i + (1 : Int32)).toNatClampNeg)]) (As := [.int (xs (nI i + (1 : Int32)).toNatClampNeg)]) F hW (c_X5_call l G q w (xs (nI i + (1 : Int32)).toNatClampNeg) _ ho) [0, 1, 2, 3, 4, 5, 6, 7, 8, 9, 10, 11, 12, 13, 14, 15, 16, 17, 18, 19, 20, 21, 22, 23, 24, 25, 26, 27, 28, 29, 30, 31, 32, 33, 34, 35, 36, 37, 38] rfl rfl (by intro q; cases q) cv_L_109 rfl ⟨_, rfl, rfl⟩ rfl rfl rfl hl (Nat.le_of_ble_eq_true rfl) ⟨Nat.le_of_ble_eq_true rfl, Nat.le_of_ble_eq_true rfl⟩ ⟨rfl, rfl⟩ ⟨Nat.le_of_ble_eq_true rfl, Nat.le_of_ble_eq_true rfl⟩ dL_law_805 rfl [some 0, some 1, some 2, some 3, some 4, some 5, some 6, some 7, some 8, some 9, some 10, some 11, some 12, some 13, some 14, some 15, some 16, some 17, some 18, some 19, some 20, some 21, some 22, some 23, some 24, some 25, some 26, some 27, some 28, some 29, some 30, some 31, some 32, some 33, some 34, some 35, some 36, some 37, some 38, none, none, none, none, none, none, none, none, none, none] rfl (ws' := cEW G q o.2 ++ cMW G q2 v) rfl (fun H locs hW => ?_)
      refine lv_aload_n hx hb dL_law_808 rfl (lv_at hl 1 rfl) ?_
      refine lv_aload_n hx hb dL_law_809 rfl (lv_at hl 3 rfl) ?_
      refine lv_iload_n hx hb dL_law_810 rfl (lv_at hl 0 rfl) ?_
      refine lv_iconst (v := (1 : Int32)) hx hb dL_law_811 (by decide) ?_
      refine lv_iadd hx hb dL_law_812 ?_
      refine va_sld hx hb hX hbl hbA hW.2.2 h_1 dL_law_813 ?_
      refine x_Vi (av := [.ref (q2 0), .int (xs (nI i + (1 : Int32)).toNatClampNeg)]) (As := [.int (xs (nI i + (1 : Int32)).toNatClampNeg)]) F hW (c_X6_call l G q2 v (xs (nI i + (1 : Int32)).toNatClampNeg) _ hp) [39, 40, 41, 42, 43, 44, 45, 46, 47, 48] rfl rfl (by intro q; cases q) cv_L_112 rfl ⟨_, rfl, rfl⟩ rfl rfl rfl hl (Nat.le_of_ble_eq_true rfl) ⟨Nat.le_of_ble_eq_true rfl, Nat.le_of_ble_eq_true rfl⟩ ⟨rfl, rfl⟩ ⟨Nat.le_of_ble_eq_true rfl, Nat.le_of_ble_eq_true rfl⟩ dL_law_814 rfl [none, none, none, none, none, none, none, none, none, none, none, none, none, none, none, none, none, none, none, none, none, none, none, none, none, none, none, none, none, none, none, none, none, none, none, none, none, none, none, some 0, some 1, some 2, some 3, some 4, some 5, some 6, some 7, some 8, some 9] rfl (ws' := cEW G q o.2 ++ cMW G q2 p9.2) rfl (fun H locs hW => ?_)
      refine lv_icmp_eq (tgt := 1261) hx hb dL_law_817 (by decide) (fun c9 => ?_) (fun c9 => ?_)
      · exact K (o.2) (p9.2) _ _ _ hI hW hl
      · exact absurd hans c9
    by_cases c_24 : sw = (24 : Int32)
    · refine x_tableIn c_24 hx hb dL_law_32 (by decide) (by decide) (off := (790)) rfl (tgt := 822) (by decide) ?_
      obtain ⟨o, p9, ho, hp, hans, hI⟩ := e_news w v I0 (xs (nI i + (1 : Int32)).toNatClampNeg) (xs (nI i + (2 : Int32)).toNatClampNeg)
      refine lv_aload_n hx hb dL_law_822 rfl (lv_at hl 2 rfl) ?_
      refine lv_aload_n hx hb dL_law_823 rfl (lv_at hl 3 rfl) ?_
      refine lv_iload_n hx hb dL_law_824 rfl (lv_at hl 0 rfl) ?_
      refine lv_iconst (v := (1 : Int32)) hx hb dL_law_825 (by decide) ?_
      refine lv_iadd hx hb dL_law_826 ?_
      refine va_sld hx hb hX hbl hbA hW.2.2 h_1 dL_law_827 ?_
      refine lv_aload_n hx hb dL_law_828 rfl (lv_at hl 3 rfl) ?_
      refine lv_iload_n hx hb dL_law_829 rfl (lv_at hl 0 rfl) ?_
      refine lv_iconst (v := (2 : Int32)) hx hb dL_law_830 (by decide) ?_
      refine lv_iadd hx hb dL_law_831 ?_
      refine va_sld hx hb hX hbl hbA hW.2.2 h_2 dL_law_832 ?_
      refine x_Vi (av := [.ref (q 0), .int (xs (nI i + (1 : Int32)).toNatClampNeg), .int (xs (nI i + (2 : Int32)).toNatClampNeg)]) (As := [.int (xs (nI i + (1 : Int32)).toNatClampNeg), .int (xs (nI i + (2 : Int32)).toNatClampNeg)]) F hW (c_X5_news l G q w (xs (nI i + (1 : Int32)).toNatClampNeg) (xs (nI i + (2 : Int32)).toNatClampNeg) _ ho) [0, 1, 2, 3, 4, 5, 6, 7, 8, 9, 10, 11, 12, 13, 14, 15, 16, 17, 18, 19, 20, 21, 22, 23, 24, 25, 26, 27, 28, 29, 30, 31, 32, 33, 34, 35, 36, 37, 38] rfl rfl (by intro q; cases q) cv_L_113 rfl ⟨_, rfl, rfl⟩ rfl rfl rfl hl (Nat.le_of_ble_eq_true rfl) ⟨Nat.le_of_ble_eq_true rfl, Nat.le_of_ble_eq_true rfl⟩ ⟨rfl, rfl⟩ ⟨Nat.le_of_ble_eq_true rfl, Nat.le_of_ble_eq_true rfl⟩ dL_law_833 rfl [some 0, some 1, some 2, some 3, some 4, some 5, some 6, some 7, some 8, some 9, some 10, some 11, some 12, some 13, some 14, some 15, some 16, some 17, some 18, some 19, some 20, some 21, some 22, some 23, some 24, some 25, some 26, some 27, some 28, some 29, some 30, some 31, some 32, some 33, some 34, some 35, some 36, some 37, some 38, none, none, none, none, none, none, none, none, none, none] rfl (ws' := cEW G q o.2 ++ cMW G q2 v) rfl (fun H locs hW => ?_)
      refine lv_aload_n hx hb dL_law_836 rfl (lv_at hl 1 rfl) ?_
      refine lv_aload_n hx hb dL_law_837 rfl (lv_at hl 3 rfl) ?_
      refine lv_iload_n hx hb dL_law_838 rfl (lv_at hl 0 rfl) ?_
      refine lv_iconst (v := (1 : Int32)) hx hb dL_law_839 (by decide) ?_
      refine lv_iadd hx hb dL_law_840 ?_
      refine va_sld hx hb hX hbl hbA hW.2.2 h_1 dL_law_841 ?_
      refine lv_aload_n hx hb dL_law_842 rfl (lv_at hl 3 rfl) ?_
      refine lv_iload_n hx hb dL_law_843 rfl (lv_at hl 0 rfl) ?_
      refine lv_iconst (v := (2 : Int32)) hx hb dL_law_844 (by decide) ?_
      refine lv_iadd hx hb dL_law_845 ?_
      refine va_sld hx hb hX hbl hbA hW.2.2 h_2 dL_law_846 ?_
      refine x_Vi (av := [.ref (q2 0), .int (xs (nI i + (1 : Int32)).toNatClampNeg), .int (xs (nI i + (2 : Int32)).toNatClampNeg)]) (As := [.int (xs (nI i + (1 : Int32)).toNatClampNeg), .int (xs (nI i + (2 : Int32)).toNatClampNeg)]) F hW (c_X6_news l G q2 v (xs (nI i + (1 : Int32)).toNatClampNeg) (xs (nI i + (2 : Int32)).toNatClampNeg) _ hp) [39, 40, 41, 42, 43, 44, 45, 46, 47, 48] rfl rfl (by intro q; cases q) cv_L_116 rfl ⟨_, rfl, rfl⟩ rfl rfl rfl hl (Nat.le_of_ble_eq_true rfl) ⟨Nat.le_of_ble_eq_true rfl, Nat.le_of_ble_eq_true rfl⟩ ⟨rfl, rfl⟩ ⟨Nat.le_of_ble_eq_true rfl, Nat.le_of_ble_eq_true rfl⟩ dL_law_847 rfl [none, none, none, none, none, none, none, none, none, none, none, none, none, none, none, none, none, none, none, none, none, none, none, none, none, none, none, none, none, none, none, none, none, none, none, none, none, none, none, some 0, some 1, some 2, some 3, some 4, some 5, some 6, some 7, some 8, some 9] rfl (ws' := cEW G q o.2 ++ cMW G q2 p9.2) rfl (fun H locs hW => ?_)
      refine lv_icmp_eq (tgt := 1261) hx hb dL_law_850 (by decide) (fun c9 => ?_) (fun c9 => ?_)
      · exact K (o.2) (p9.2) _ _ _ hI hW hl
      · exact absurd hans c9
    by_cases c_25 : sw = (25 : Int32)
    · refine x_tableIn c_25 hx hb dL_law_32 (by decide) (by decide) (off := (823)) rfl (tgt := 855) (by decide) ?_
      obtain ⟨o, p9, ho, hp, hans, hI⟩ := e_farthest w v I0 
      refine lv_aload_n hx hb dL_law_855 rfl (lv_at hl 2 rfl) ?_
      refine x_Vi (av := [.ref (q 0)]) (As := []) F hW (c_X5_farthest l G q w  _ ho) [0, 1, 2, 3, 4, 5, 6, 7, 8, 9, 10, 11, 12, 13, 14, 15, 16, 17, 18, 19, 20, 21, 22, 23, 24, 25, 26, 27, 28, 29, 30, 31, 32, 33, 34, 35, 36, 37, 38] rfl rfl (by intro q; cases q) cv_L_117 rfl ⟨_, rfl, rfl⟩ rfl rfl rfl hl (Nat.le_of_ble_eq_true rfl) ⟨Nat.le_of_ble_eq_true rfl, Nat.le_of_ble_eq_true rfl⟩ ⟨rfl, rfl⟩ ⟨Nat.le_of_ble_eq_true rfl, Nat.le_of_ble_eq_true rfl⟩ dL_law_856 rfl [some 0, some 1, some 2, some 3, some 4, some 5, some 6, some 7, some 8, some 9, some 10, some 11, some 12, some 13, some 14, some 15, some 16, some 17, some 18, some 19, some 20, some 21, some 22, some 23, some 24, some 25, some 26, some 27, some 28, some 29, some 30, some 31, some 32, some 33, some 34, some 35, some 36, some 37, some 38, none, none, none, none, none, none, none, none, none, none] rfl (ws' := cEW G q o.2 ++ cMW G q2 v) rfl (fun H locs hW => ?_)
      refine lv_aload_n hx hb dL_law_859 rfl (lv_at hl 1 rfl) ?_
      refine x_Vi (av := [.ref (q2 0)]) (As := []) F hW (c_X6_farthest l G q2 v  _ hp) [39, 40, 41, 42, 43, 44, 45, 46, 47, 48] rfl rfl (by intro q; cases q) cv_L_120 rfl ⟨_, rfl, rfl⟩ rfl rfl rfl hl (Nat.le_of_ble_eq_true rfl) ⟨Nat.le_of_ble_eq_true rfl, Nat.le_of_ble_eq_true rfl⟩ ⟨rfl, rfl⟩ ⟨Nat.le_of_ble_eq_true rfl, Nat.le_of_ble_eq_true rfl⟩ dL_law_860 rfl [none, none, none, none, none, none, none, none, none, none, none, none, none, none, none, none, none, none, none, none, none, none, none, none, none, none, none, none, none, none, none, none, none, none, none, none, none, none, none, some 0, some 1, some 2, some 3, some 4, some 5, some 6, some 7, some 8, some 9] rfl (ws' := cEW G q o.2 ++ cMW G q2 p9.2) rfl (fun H locs hW => ?_)
      refine lv_icmp_eq (tgt := 1261) hx hb dL_law_863 (by decide) (fun c9 => ?_) (fun c9 => ?_)
      · exact K (o.2) (p9.2) _ _ _ hI hW hl
      · exact absurd hans c9
    by_cases c_26 : sw = (26 : Int32)
    · refine x_tableIn c_26 hx hb dL_law_32 (by decide) (by decide) (off := (836)) rfl (tgt := 868) (by decide) ?_
      obtain ⟨o, p9, ho, hp, hans, hI⟩ := e_spend w v I0 (xs (nI i + (1 : Int32)).toNatClampNeg)
      refine lv_aload_n hx hb dL_law_868 rfl (lv_at hl 2 rfl) ?_
      refine lv_aload_n hx hb dL_law_869 rfl (lv_at hl 3 rfl) ?_
      refine lv_iload_n hx hb dL_law_870 rfl (lv_at hl 0 rfl) ?_
      refine lv_iconst (v := (1 : Int32)) hx hb dL_law_871 (by decide) ?_
      refine lv_iadd hx hb dL_law_872 ?_
      refine va_sld hx hb hX hbl hbA hW.2.2 h_1 dL_law_873 ?_
      refine x_Vi (av := [.ref (q 0), .int (xs (nI i + (1 : Int32)).toNatClampNeg)]) (As := [.int (xs (nI i + (1 : Int32)).toNatClampNeg)]) F hW (c_X5_spend l G q w (xs (nI i + (1 : Int32)).toNatClampNeg) _ ho) [0, 1, 2, 3, 4, 5, 6, 7, 8, 9, 10, 11, 12, 13, 14, 15, 16, 17, 18, 19, 20, 21, 22, 23, 24, 25, 26, 27, 28, 29, 30, 31, 32, 33, 34, 35, 36, 37, 38] rfl rfl (by intro q; cases q) cv_L_121 rfl ⟨_, rfl, rfl⟩ rfl rfl rfl hl (Nat.le_of_ble_eq_true rfl) ⟨Nat.le_of_ble_eq_true rfl, Nat.le_of_ble_eq_true rfl⟩ ⟨rfl, rfl⟩ ⟨Nat.le_of_ble_eq_true rfl, Nat.le_of_ble_eq_true rfl⟩ dL_law_874 rfl [some 0, some 1, some 2, some 3, some 4, some 5, some 6, some 7, some 8, some 9, some 10, some 11, some 12, some 13, some 14, some 15, some 16, some 17, some 18, some 19, some 20, some 21, some 22, some 23, some 24, some 25, some 26, some 27, some 28, some 29, some 30, some 31, some 32, some 33, some 34, some 35, some 36, some 37, some 38, none, none, none, none, none, none, none, none, none, none] rfl (ws' := cEW G q o.2 ++ cMW G q2 v) rfl (fun H locs hW => ?_)
      refine lv_aload_n hx hb dL_law_877 rfl (lv_at hl 1 rfl) ?_
      refine lv_aload_n hx hb dL_law_878 rfl (lv_at hl 3 rfl) ?_
      refine lv_iload_n hx hb dL_law_879 rfl (lv_at hl 0 rfl) ?_
      refine lv_iconst (v := (1 : Int32)) hx hb dL_law_880 (by decide) ?_
      refine lv_iadd hx hb dL_law_881 ?_
      refine va_sld hx hb hX hbl hbA hW.2.2 h_1 dL_law_882 ?_
      refine x_Vi (av := [.ref (q2 0), .int (xs (nI i + (1 : Int32)).toNatClampNeg)]) (As := [.int (xs (nI i + (1 : Int32)).toNatClampNeg)]) F hW (c_X6_spend l G q2 v (xs (nI i + (1 : Int32)).toNatClampNeg) _ hp) [39, 40, 41, 42, 43, 44, 45, 46, 47, 48] rfl rfl (by intro q; cases q) cv_L_124 rfl ⟨_, rfl, rfl⟩ rfl rfl rfl hl (Nat.le_of_ble_eq_true rfl) ⟨Nat.le_of_ble_eq_true rfl, Nat.le_of_ble_eq_true rfl⟩ ⟨rfl, rfl⟩ ⟨Nat.le_of_ble_eq_true rfl, Nat.le_of_ble_eq_true rfl⟩ dL_law_883 rfl [none, none, none, none, none, none, none, none, none, none, none, none, none, none, none, none, none, none, none, none, none, none, none, none, none, none, none, none, none, none, none, none, none, none, none, none, none, none, none, some 0, some 1, some 2, some 3, some 4, some 5, some 6, some 7, some 8, some 9] rfl (ws' := cEW G q o.2 ++ cMW G q2 p9.2) rfl (fun H locs hW => ?_)
      refine lv_icmp_eq (tgt := 1261) hx hb dL_law_886 (by decide) (fun c9 => ?_) (fun c9 => ?_)
      · exact K (o.2) (p9.2) _ _ _ hI hW hl
      · exact absurd hans c9
    by_cases c_27 : sw = (27 : Int32)
    · refine x_tableIn c_27 hx hb dL_law_32 (by decide) (by decide) (off := (859)) rfl (tgt := 891) (by decide) ?_
      obtain ⟨o, p9, ho, hp, hans, hI⟩ := e_share w v I0 (xs (nI i + (1 : Int32)).toNatClampNeg)
      refine lv_aload_n hx hb dL_law_891 rfl (lv_at hl 2 rfl) ?_
      refine lv_aload_n hx hb dL_law_892 rfl (lv_at hl 3 rfl) ?_
      refine lv_iload_n hx hb dL_law_893 rfl (lv_at hl 0 rfl) ?_
      refine lv_iconst (v := (1 : Int32)) hx hb dL_law_894 (by decide) ?_
      refine lv_iadd hx hb dL_law_895 ?_
      refine va_sld hx hb hX hbl hbA hW.2.2 h_1 dL_law_896 ?_
      refine x_Vi (av := [.ref (q 0), .int (xs (nI i + (1 : Int32)).toNatClampNeg)]) (As := [.int (xs (nI i + (1 : Int32)).toNatClampNeg)]) F hW (c_X5_share l G q w (xs (nI i + (1 : Int32)).toNatClampNeg) _ ho) [0, 1, 2, 3, 4, 5, 6, 7, 8, 9, 10, 11, 12, 13, 14, 15, 16, 17, 18, 19, 20, 21, 22, 23, 24, 25, 26, 27, 28, 29, 30, 31, 32, 33, 34, 35, 36, 37, 38] rfl rfl (by intro q; cases q) cv_L_125 rfl ⟨_, rfl, rfl⟩ rfl rfl rfl hl (Nat.le_of_ble_eq_true rfl) ⟨Nat.le_of_ble_eq_true rfl, Nat.le_of_ble_eq_true rfl⟩ ⟨rfl, rfl⟩ ⟨Nat.le_of_ble_eq_true rfl, Nat.le_of_ble_eq_true rfl⟩ dL_law_897 rfl [some 0, some 1, some 2, some 3, some 4, some 5, some 6, some 7, some 8, some 9, some 10, some 11, some 12, some 13, some 14, some 15, some 16, some 17, some 18, some 19, some 20, some 21, some 22, some 23, some 24, some 25, some 26, some 27, some 28, some 29, some 30, some 31, some 32, some 33, some 34, some 35, some 36, some 37, some 38, none, none, none, none, none, none, none, none, none, none] rfl (ws' := cEW G q o.2 ++ cMW G q2 v) rfl (fun H locs hW => ?_)
      refine lv_aload_n hx hb dL_law_900 rfl (lv_at hl 1 rfl) ?_
      refine lv_aload_n hx hb dL_law_901 rfl (lv_at hl 3 rfl) ?_
      refine lv_iload_n hx hb dL_law_902 rfl (lv_at hl 0 rfl) ?_
      refine lv_iconst (v := (1 : Int32)) hx hb dL_law_903 (by decide) ?_
      refine lv_iadd hx hb dL_law_904 ?_
      refine va_sld hx hb hX hbl hbA hW.2.2 h_1 dL_law_905 ?_
      refine x_Vi (av := [.ref (q2 0), .int (xs (nI i + (1 : Int32)).toNatClampNeg)]) (As := [.int (xs (nI i + (1 : Int32)).toNatClampNeg)]) F hW (c_X6_share l G q2 v (xs (nI i + (1 : Int32)).toNatClampNeg) _ hp) [39, 40, 41, 42, 43, 44, 45, 46, 47, 48] rfl rfl (by intro q; cases q) cv_L_128 rfl ⟨_, rfl, rfl⟩ rfl rfl rfl hl (Nat.le_of_ble_eq_true rfl) ⟨Nat.le_of_ble_eq_true rfl, Nat.le_of_ble_eq_true rfl⟩ ⟨rfl, rfl⟩ ⟨Nat.le_of_ble_eq_true rfl, Nat.le_of_ble_eq_true rfl⟩ dL_law_906 rfl [none, none, none, none, none, none, none, none, none, none, none, none, none, none, none, none, none, none, none, none, none, none, none, none, none, none, none, none, none, none, none, none, none, none, none, none, none, none, none, some 0, some 1, some 2, some 3, some 4, some 5, some 6, some 7, some 8, some 9] rfl (ws' := cEW G q o.2 ++ cMW G q2 p9.2) rfl (fun H locs hW => ?_)
      refine lv_icmp_eq (tgt := 1261) hx hb dL_law_909 (by decide) (fun c9 => ?_) (fun c9 => ?_)
      · exact K (o.2) (p9.2) _ _ _ hI hW hl
      · exact absurd hans c9
    by_cases c_28 : sw = (28 : Int32)
    · refine x_tableIn c_28 hx hb dL_law_32 (by decide) (by decide) (off := (882)) rfl (tgt := 914) (by decide) ?_
      obtain ⟨o, p9, ho, hp, hans, hI⟩ := e_longest w v I0 (xs (nI i + (1 : Int32)).toNatClampNeg)
      refine lv_aload_n hx hb dL_law_914 rfl (lv_at hl 2 rfl) ?_
      refine lv_aload_n hx hb dL_law_915 rfl (lv_at hl 3 rfl) ?_
      refine lv_iload_n hx hb dL_law_916 rfl (lv_at hl 0 rfl) ?_
      refine lv_iconst (v := (1 : Int32)) hx hb dL_law_917 (by decide) ?_
      refine lv_iadd hx hb dL_law_918 ?_
      refine va_sld hx hb hX hbl hbA hW.2.2 h_1 dL_law_919 ?_
      refine x_Vi (av := [.ref (q 0), .int (xs (nI i + (1 : Int32)).toNatClampNeg)]) (As := [.int (xs (nI i + (1 : Int32)).toNatClampNeg)]) F hW (c_X5_longest l G q w (xs (nI i + (1 : Int32)).toNatClampNeg) _ ho) [0, 1, 2, 3, 4, 5, 6, 7, 8, 9, 10, 11, 12, 13, 14, 15, 16, 17, 18, 19, 20, 21, 22, 23, 24, 25, 26, 27, 28, 29, 30, 31, 32, 33, 34, 35, 36, 37, 38] rfl rfl (by intro q; cases q) cv_L_129 rfl ⟨_, rfl, rfl⟩ rfl rfl rfl hl (Nat.le_of_ble_eq_true rfl) ⟨Nat.le_of_ble_eq_true rfl, Nat.le_of_ble_eq_true rfl⟩ ⟨rfl, rfl⟩ ⟨Nat.le_of_ble_eq_true rfl, Nat.le_of_ble_eq_true rfl⟩ dL_law_920 rfl [some 0, some 1, some 2, some 3, some 4, some 5, some 6, some 7, some 8, some 9, some 10, some 11, some 12, some 13, some 14, some 15, some 16, some 17, some 18, some 19, some 20, some 21, some 22, some 23, some 24, some 25, some 26, some 27, some 28, some 29, some 30, some 31, some 32, some 33, some 34, some 35, some 36, some 37, some 38, none, none, none, none, none, none, none, none, none, none] rfl (ws' := cEW G q o.2 ++ cMW G q2 v) rfl (fun H locs hW => ?_)
      refine lv_aload_n hx hb dL_law_923 rfl (lv_at hl 1 rfl) ?_
      refine lv_aload_n hx hb dL_law_924 rfl (lv_at hl 3 rfl) ?_
      refine lv_iload_n hx hb dL_law_925 rfl (lv_at hl 0 rfl) ?_
      refine lv_iconst (v := (1 : Int32)) hx hb dL_law_926 (by decide) ?_
      refine lv_iadd hx hb dL_law_927 ?_
      refine va_sld hx hb hX hbl hbA hW.2.2 h_1 dL_law_928 ?_
      refine x_Vi (av := [.ref (q2 0), .int (xs (nI i + (1 : Int32)).toNatClampNeg)]) (As := [.int (xs (nI i + (1 : Int32)).toNatClampNeg)]) F hW (c_X6_longest l G q2 v (xs (nI i + (1 : Int32)).toNatClampNeg) _ hp) [39, 40, 41, 42, 43, 44, 45, 46, 47, 48] rfl rfl (by intro q; cases q) cv_L_132 rfl ⟨_, rfl, rfl⟩ rfl rfl rfl hl (Nat.le_of_ble_eq_true rfl) ⟨Nat.le_of_ble_eq_true rfl, Nat.le_of_ble_eq_true rfl⟩ ⟨rfl, rfl⟩ ⟨Nat.le_of_ble_eq_true rfl, Nat.le_of_ble_eq_true rfl⟩ dL_law_929 rfl [none, none, none, none, none, none, none, none, none, none, none, none, none, none, none, none, none, none, none, none, none, none, none, none, none, none, none, none, none, none, none, none, none, none, none, none, none, none, none, some 0, some 1, some 2, some 3, some 4, some 5, some 6, some 7, some 8, some 9] rfl (ws' := cEW G q o.2 ++ cMW G q2 p9.2) rfl (fun H locs hW => ?_)
      refine lv_icmp_eq (tgt := 1261) hx hb dL_law_932 (by decide) (fun c9 => ?_) (fun c9 => ?_)
      · exact K (o.2) (p9.2) _ _ _ hI hW hl
      · exact absurd hans c9
    by_cases c_29 : sw = (29 : Int32)
    · refine x_tableIn c_29 hx hb dL_law_32 (by decide) (by decide) (off := (905)) rfl (tgt := 937) (by decide) ?_
      obtain ⟨o, p9, ho, hp, hans, hI⟩ := e_fogged w v I0 
      refine lv_aload_n hx hb dL_law_937 rfl (lv_at hl 2 rfl) ?_
      refine x_Vi (av := [.ref (q 0)]) (As := []) F hW (c_X5_fogged l G q w  _ ho) [0, 1, 2, 3, 4, 5, 6, 7, 8, 9, 10, 11, 12, 13, 14, 15, 16, 17, 18, 19, 20, 21, 22, 23, 24, 25, 26, 27, 28, 29, 30, 31, 32, 33, 34, 35, 36, 37, 38] rfl rfl (by intro q; cases q) cv_L_133 rfl ⟨_, rfl, rfl⟩ rfl rfl rfl hl (Nat.le_of_ble_eq_true rfl) ⟨Nat.le_of_ble_eq_true rfl, Nat.le_of_ble_eq_true rfl⟩ ⟨rfl, rfl⟩ ⟨Nat.le_of_ble_eq_true rfl, Nat.le_of_ble_eq_true rfl⟩ dL_law_938 rfl [some 0, some 1, some 2, some 3, some 4, some 5, some 6, some 7, some 8, some 9, some 10, some 11, some 12, some 13, some 14, some 15, some 16, some 17, some 18, some 19, some 20, some 21, some 22, some 23, some 24, some 25, some 26, some 27, some 28, some 29, some 30, some 31, some 32, some 33, some 34, some 35, some 36, some 37, some 38, none, none, none, none, none, none, none, none, none, none] rfl (ws' := cEW G q o.2 ++ cMW G q2 v) rfl (fun H locs hW => ?_)
      refine lv_aload_n hx hb dL_law_941 rfl (lv_at hl 1 rfl) ?_
      refine x_Vi (av := [.ref (q2 0)]) (As := []) F hW (c_X6_fogged l G q2 v  _ hp) [39, 40, 41, 42, 43, 44, 45, 46, 47, 48] rfl rfl (by intro q; cases q) cv_L_136 rfl ⟨_, rfl, rfl⟩ rfl rfl rfl hl (Nat.le_of_ble_eq_true rfl) ⟨Nat.le_of_ble_eq_true rfl, Nat.le_of_ble_eq_true rfl⟩ ⟨rfl, rfl⟩ ⟨Nat.le_of_ble_eq_true rfl, Nat.le_of_ble_eq_true rfl⟩ dL_law_942 rfl [none, none, none, none, none, none, none, none, none, none, none, none, none, none, none, none, none, none, none, none, none, none, none, none, none, none, none, none, none, none, none, none, none, none, none, none, none, none, none, some 0, some 1, some 2, some 3, some 4, some 5, some 6, some 7, some 8, some 9] rfl (ws' := cEW G q o.2 ++ cMW G q2 p9.2) rfl (fun H locs hW => ?_)
      refine lv_icmp_eq (tgt := 1261) hx hb dL_law_945 (by decide) (fun c9 => ?_) (fun c9 => ?_)
      · exact K (o.2) (p9.2) _ _ _ hI hW hl
      · exact absurd hans c9
    by_cases c_30 : sw = (30 : Int32)
    · refine x_tableIn c_30 hx hb dL_law_32 (by decide) (by decide) (off := (918)) rfl (tgt := 950) (by decide) ?_
      obtain ⟨o, p9, ho, hp, hans, hI⟩ := e_highest w v I0 
      refine lv_aload_n hx hb dL_law_950 rfl (lv_at hl 2 rfl) ?_
      refine x_Vi (av := [.ref (q 0)]) (As := []) F hW (c_X5_highest l G q w  _ ho) [0, 1, 2, 3, 4, 5, 6, 7, 8, 9, 10, 11, 12, 13, 14, 15, 16, 17, 18, 19, 20, 21, 22, 23, 24, 25, 26, 27, 28, 29, 30, 31, 32, 33, 34, 35, 36, 37, 38] rfl rfl (by intro q; cases q) cv_L_137 rfl ⟨_, rfl, rfl⟩ rfl rfl rfl hl (Nat.le_of_ble_eq_true rfl) ⟨Nat.le_of_ble_eq_true rfl, Nat.le_of_ble_eq_true rfl⟩ ⟨rfl, rfl⟩ ⟨Nat.le_of_ble_eq_true rfl, Nat.le_of_ble_eq_true rfl⟩ dL_law_951 rfl [some 0, some 1, some 2, some 3, some 4, some 5, some 6, some 7, some 8, some 9, some 10, some 11, some 12, some 13, some 14, some 15, some 16, some 17, some 18, some 19, some 20, some 21, some 22, some 23, some 24, some 25, some 26, some 27, some 28, some 29, some 30, some 31, some 32, some 33, some 34, some 35, some 36, some 37, some 38, none, none, none, none, none, none, none, none, none, none] rfl (ws' := cEW G q w ++ cMW G q2 v) rfl (fun H locs hW => ?_)
      refine lv_aload_n hx hb dL_law_954 rfl (lv_at hl 1 rfl) ?_
      refine x_Vi (av := [.ref (q2 0)]) (As := []) F hW (c_X6_highest l G q2 v  _ hp) [39, 40, 41, 42, 43, 44, 45, 46, 47, 48] rfl rfl (by intro q; cases q) cv_L_140 rfl ⟨_, rfl, rfl⟩ rfl rfl rfl hl (Nat.le_of_ble_eq_true rfl) ⟨Nat.le_of_ble_eq_true rfl, Nat.le_of_ble_eq_true rfl⟩ ⟨rfl, rfl⟩ ⟨Nat.le_of_ble_eq_true rfl, Nat.le_of_ble_eq_true rfl⟩ dL_law_955 rfl [none, none, none, none, none, none, none, none, none, none, none, none, none, none, none, none, none, none, none, none, none, none, none, none, none, none, none, none, none, none, none, none, none, none, none, none, none, none, none, some 0, some 1, some 2, some 3, some 4, some 5, some 6, some 7, some 8, some 9] rfl (ws' := cEW G q w ++ cMW G q2 v) rfl (fun H locs hW => ?_)
      refine lv_icmp_eq (tgt := 1261) hx hb dL_law_958 (by decide) (fun c9 => ?_) (fun c9 => ?_)
      · exact K (w) (v) _ _ _ hI hW hl
      · exact absurd hans c9
    by_cases c_31 : sw = (31 : Int32)
    · refine x_tableIn c_31 hx hb dL_law_32 (by decide) (by decide) (off := (931)) rfl (tgt := 963) (by decide) ?_
      obtain ⟨o, p9, ho, hp, hans, hI⟩ := e_two w v I0 (xs (nI i + (1 : Int32)).toNatClampNeg) (xs (nI i + (2 : Int32)).toNatClampNeg)
      refine lv_aload_n hx hb dL_law_963 rfl (lv_at hl 2 rfl) ?_
      refine lv_aload_n hx hb dL_law_964 rfl (lv_at hl 3 rfl) ?_
      refine lv_iload_n hx hb dL_law_965 rfl (lv_at hl 0 rfl) ?_
      refine lv_iconst (v := (1 : Int32)) hx hb dL_law_966 (by decide) ?_
      refine lv_iadd hx hb dL_law_967 ?_
      refine va_sld hx hb hX hbl hbA hW.2.2 h_1 dL_law_968 ?_
      refine lv_aload_n hx hb dL_law_969 rfl (lv_at hl 3 rfl) ?_
      refine lv_iload_n hx hb dL_law_970 rfl (lv_at hl 0 rfl) ?_
      refine lv_iconst (v := (2 : Int32)) hx hb dL_law_971 (by decide) ?_
      refine lv_iadd hx hb dL_law_972 ?_
      refine va_sld hx hb hX hbl hbA hW.2.2 h_2 dL_law_973 ?_
      refine x_Vi (av := [.ref (q 0), .int (xs (nI i + (1 : Int32)).toNatClampNeg), .int (xs (nI i + (2 : Int32)).toNatClampNeg)]) (As := [.int (xs (nI i + (1 : Int32)).toNatClampNeg), .int (xs (nI i + (2 : Int32)).toNatClampNeg)]) F hW (c_X5_two l G q w (xs (nI i + (1 : Int32)).toNatClampNeg) (xs (nI i + (2 : Int32)).toNatClampNeg) _ ho) [0, 1, 2, 3, 4, 5, 6, 7, 8, 9, 10, 11, 12, 13, 14, 15, 16, 17, 18, 19, 20, 21, 22, 23, 24, 25, 26, 27, 28, 29, 30, 31, 32, 33, 34, 35, 36, 37, 38] rfl rfl (by intro q; cases q) cv_L_141 rfl ⟨_, rfl, rfl⟩ rfl rfl rfl hl (Nat.le_of_ble_eq_true rfl) ⟨Nat.le_of_ble_eq_true rfl, Nat.le_of_ble_eq_true rfl⟩ ⟨rfl, rfl⟩ ⟨Nat.le_of_ble_eq_true rfl, Nat.le_of_ble_eq_true rfl⟩ dL_law_974 rfl [some 0, some 1, some 2, some 3, some 4, some 5, some 6, some 7, some 8, some 9, some 10, some 11, some 12, some 13, some 14, some 15, some 16, some 17, some 18, some 19, some 20, some 21, some 22, some 23, some 24, some 25, some 26, some 27, some 28, some 29, some 30, some 31, some 32, some 33, some 34, some 35, some 36, some 37, some 38, none, none, none, none, none, none, none, none, none, none] rfl (ws' := cEW G q o.2 ++ cMW G q2 v) rfl (fun H locs hW => ?_)
      refine lv_aload_n hx hb dL_law_977 rfl (lv_at hl 1 rfl) ?_
      refine lv_aload_n hx hb dL_law_978 rfl (lv_at hl 3 rfl) ?_
      refine lv_iload_n hx hb dL_law_979 rfl (lv_at hl 0 rfl) ?_
      refine lv_iconst (v := (1 : Int32)) hx hb dL_law_980 (by decide) ?_
      refine lv_iadd hx hb dL_law_981 ?_
      refine va_sld hx hb hX hbl hbA hW.2.2 h_1 dL_law_982 ?_
      refine lv_aload_n hx hb dL_law_983 rfl (lv_at hl 3 rfl) ?_
      refine lv_iload_n hx hb dL_law_984 rfl (lv_at hl 0 rfl) ?_
      refine lv_iconst (v := (2 : Int32)) hx hb dL_law_985 (by decide) ?_
      refine lv_iadd hx hb dL_law_986 ?_
      refine va_sld hx hb hX hbl hbA hW.2.2 h_2 dL_law_987 ?_
      refine x_Vi (av := [.ref (q2 0), .int (xs (nI i + (1 : Int32)).toNatClampNeg), .int (xs (nI i + (2 : Int32)).toNatClampNeg)]) (As := [.int (xs (nI i + (1 : Int32)).toNatClampNeg), .int (xs (nI i + (2 : Int32)).toNatClampNeg)]) F hW (c_X6_two l G q2 v (xs (nI i + (1 : Int32)).toNatClampNeg) (xs (nI i + (2 : Int32)).toNatClampNeg) _ hp) [39, 40, 41, 42, 43, 44, 45, 46, 47, 48] rfl rfl (by intro q; cases q) cv_L_144 rfl ⟨_, rfl, rfl⟩ rfl rfl rfl hl (Nat.le_of_ble_eq_true rfl) ⟨Nat.le_of_ble_eq_true rfl, Nat.le_of_ble_eq_true rfl⟩ ⟨rfl, rfl⟩ ⟨Nat.le_of_ble_eq_true rfl, Nat.le_of_ble_eq_true rfl⟩ dL_law_988 rfl [none, none, none, none, none, none, none, none, none, none, none, none, none, none, none, none, none, none, none, none, none, none, none, none, none, none, none, none, none, none, none, none, none, none, none, none, none, none, none, some 0, some 1, some 2, some 3, some 4, some 5, some 6, some 7, some 8, some 9] rfl (ws' := cEW G q o.2 ++ cMW G q2 p9.2) rfl (fun H locs hW => ?_)
      refine lv_icmp_eq (tgt := 1261) hx hb dL_law_991 (by decide) (fun c9 => ?_) (fun c9 => ?_)
      · exact K (o.2) (p9.2) _ _ _ hI hW hl
      · exact absurd hans c9
    by_cases c_32 : sw = (32 : Int32)
    · refine x_tableIn c_32 hx hb dL_law_32 (by decide) (by decide) (off := (964)) rfl (tgt := 996) (by decide) ?_
      obtain ⟨o, p9, ho, hp, hans, hI⟩ := e_mist w v I0 (xs (nI i + (1 : Int32)).toNatClampNeg) (xs (nI i + (2 : Int32)).toNatClampNeg) (xs (nI i + (3 : Int32)).toNatClampNeg) (xs (nI i + (4 : Int32)).toNatClampNeg)
      refine lv_aload_n hx hb dL_law_996 rfl (lv_at hl 2 rfl) ?_
      refine lv_aload_n hx hb dL_law_997 rfl (lv_at hl 3 rfl) ?_
      refine lv_iload_n hx hb dL_law_998 rfl (lv_at hl 0 rfl) ?_
      refine lv_iconst (v := (1 : Int32)) hx hb dL_law_999 (by decide) ?_
      refine lv_iadd hx hb dL_law_1000 ?_
      refine va_sld hx hb hX hbl hbA hW.2.2 h_1 dL_law_1001 ?_
      refine lv_aload_n hx hb dL_law_1002 rfl (lv_at hl 3 rfl) ?_
      refine lv_iload_n hx hb dL_law_1003 rfl (lv_at hl 0 rfl) ?_
      refine lv_iconst (v := (2 : Int32)) hx hb dL_law_1004 (by decide) ?_
      refine lv_iadd hx hb dL_law_1005 ?_
      refine va_sld hx hb hX hbl hbA hW.2.2 h_2 dL_law_1006 ?_
      refine lv_aload_n hx hb dL_law_1007 rfl (lv_at hl 3 rfl) ?_
      refine lv_iload_n hx hb dL_law_1008 rfl (lv_at hl 0 rfl) ?_
      refine lv_iconst (v := (3 : Int32)) hx hb dL_law_1009 (by decide) ?_
      refine lv_iadd hx hb dL_law_1010 ?_
      refine va_sld hx hb hX hbl hbA hW.2.2 h_3 dL_law_1011 ?_
      refine lv_aload_n hx hb dL_law_1012 rfl (lv_at hl 3 rfl) ?_
      refine lv_iload_n hx hb dL_law_1013 rfl (lv_at hl 0 rfl) ?_
      refine lv_iconst (v := (4 : Int32)) hx hb dL_law_1014 (by decide) ?_
      refine lv_iadd hx hb dL_law_1015 ?_
      refine va_sld hx hb hX hbl hbA hW.2.2 h_4 dL_law_1016 ?_
      refine x_Vl (av := [.ref (q 0), .int (xs (nI i + (1 : Int32)).toNatClampNeg), .int (xs (nI i + (2 : Int32)).toNatClampNeg), .int (xs (nI i + (3 : Int32)).toNatClampNeg), .int (xs (nI i + (4 : Int32)).toNatClampNeg)]) (As := [.int (xs (nI i + (1 : Int32)).toNatClampNeg), .int (xs (nI i + (2 : Int32)).toNatClampNeg), .int (xs (nI i + (3 : Int32)).toNatClampNeg), .int (xs (nI i + (4 : Int32)).toNatClampNeg)]) F hW (c_X5_mist l G q w (xs (nI i + (1 : Int32)).toNatClampNeg) (xs (nI i + (2 : Int32)).toNatClampNeg) (xs (nI i + (3 : Int32)).toNatClampNeg) (xs (nI i + (4 : Int32)).toNatClampNeg) _ ho) [0, 1, 2, 3, 4, 5, 6, 7, 8, 9, 10, 11, 12, 13, 14, 15, 16, 17, 18, 19, 20, 21, 22, 23, 24, 25, 26, 27, 28, 29, 30, 31, 32, 33, 34, 35, 36, 37, 38] rfl rfl (by intro q; cases q) cv_L_145 rfl ⟨_, rfl, rfl⟩ rfl rfl rfl hl (Nat.le_of_ble_eq_true rfl) ⟨Nat.le_of_ble_eq_true rfl, Nat.le_of_ble_eq_true rfl⟩ ⟨rfl, rfl⟩ ⟨Nat.le_of_ble_eq_true rfl, Nat.le_of_ble_eq_true rfl⟩ dL_law_1017 rfl [some 0, some 1, some 2, some 3, some 4, some 5, some 6, some 7, some 8, some 9, some 10, some 11, some 12, some 13, some 14, some 15, some 16, some 17, some 18, some 19, some 20, some 21, some 22, some 23, some 24, some 25, some 26, some 27, some 28, some 29, some 30, some 31, some 32, some 33, some 34, some 35, some 36, some 37, some 38, none, none, none, none, none, none, none, none, none, none] rfl (ws' := cEW G q o.2 ++ cMW G q2 v) rfl (fun H locs hW => ?_)
      refine lv_aload_n hx hb dL_law_1020 rfl (lv_at hl 1 rfl) ?_
      refine lv_aload_n hx hb dL_law_1021 rfl (lv_at hl 3 rfl) ?_
      refine lv_iload_n hx hb dL_law_1022 rfl (lv_at hl 0 rfl) ?_
      refine lv_iconst (v := (1 : Int32)) hx hb dL_law_1023 (by decide) ?_
      refine lv_iadd hx hb dL_law_1024 ?_
      refine va_sld hx hb hX hbl hbA hW.2.2 h_1 dL_law_1025 ?_
      refine lv_aload_n hx hb dL_law_1026 rfl (lv_at hl 3 rfl) ?_
      refine lv_iload_n hx hb dL_law_1027 rfl (lv_at hl 0 rfl) ?_
      refine lv_iconst (v := (2 : Int32)) hx hb dL_law_1028 (by decide) ?_
      refine lv_iadd hx hb dL_law_1029 ?_
      refine va_sld hx hb hX hbl hbA hW.2.2 h_2 dL_law_1030 ?_
      refine lv_aload_n hx hb dL_law_1031 rfl (lv_at hl 3 rfl) ?_
      refine lv_iload_n hx hb dL_law_1032 rfl (lv_at hl 0 rfl) ?_
      refine lv_iconst (v := (3 : Int32)) hx hb dL_law_1033 (by decide) ?_
      refine lv_iadd hx hb dL_law_1034 ?_
      refine va_sld hx hb hX hbl hbA hW.2.2 h_3 dL_law_1035 ?_
      refine lv_aload_n hx hb dL_law_1036 rfl (lv_at hl 3 rfl) ?_
      refine lv_iload_n hx hb dL_law_1037 rfl (lv_at hl 0 rfl) ?_
      refine lv_iconst (v := (4 : Int32)) hx hb dL_law_1038 (by decide) ?_
      refine lv_iadd hx hb dL_law_1039 ?_
      refine va_sld hx hb hX hbl hbA hW.2.2 h_4 dL_law_1040 ?_
      refine x_Vl (av := [.ref (q2 0), .int (xs (nI i + (1 : Int32)).toNatClampNeg), .int (xs (nI i + (2 : Int32)).toNatClampNeg), .int (xs (nI i + (3 : Int32)).toNatClampNeg), .int (xs (nI i + (4 : Int32)).toNatClampNeg)]) (As := [.int (xs (nI i + (1 : Int32)).toNatClampNeg), .int (xs (nI i + (2 : Int32)).toNatClampNeg), .int (xs (nI i + (3 : Int32)).toNatClampNeg), .int (xs (nI i + (4 : Int32)).toNatClampNeg)]) F hW (c_X6_mist l G q2 v (xs (nI i + (1 : Int32)).toNatClampNeg) (xs (nI i + (2 : Int32)).toNatClampNeg) (xs (nI i + (3 : Int32)).toNatClampNeg) (xs (nI i + (4 : Int32)).toNatClampNeg) _ hp) [39, 40, 41, 42, 43, 44, 45, 46, 47, 48] rfl rfl (by intro q; cases q) cv_L_149 rfl ⟨_, rfl, rfl⟩ rfl rfl rfl hl (Nat.le_of_ble_eq_true rfl) ⟨Nat.le_of_ble_eq_true rfl, Nat.le_of_ble_eq_true rfl⟩ ⟨rfl, rfl⟩ ⟨Nat.le_of_ble_eq_true rfl, Nat.le_of_ble_eq_true rfl⟩ dL_law_1041 rfl [none, none, none, none, none, none, none, none, none, none, none, none, none, none, none, none, none, none, none, none, none, none, none, none, none, none, none, none, none, none, none, none, none, none, none, none, none, none, none, some 0, some 1, some 2, some 3, some 4, some 5, some 6, some 7, some 8, some 9] rfl (ws' := cEW G q o.2 ++ cMW G q2 p9.2) rfl (fun H locs hW => ?_)
      refine W.lcmp hx hb dL_law_1044 ?_
      refine lv_if_eq (tgt := 1261) hx hb dL_law_1045 (by decide) (fun c9 => ?_) (fun c9 => ?_)
      · exact K (o.2) (p9.2) _ _ _ hI hW hl
      · exact absurd (lw_cmp hans) c9
    by_cases c_33 : sw = (33 : Int32)
    · refine x_tableIn c_33 hx hb dL_law_32 (by decide) (by decide) (off := (1018)) rfl (tgt := 1050) (by decide) ?_
      obtain ⟨o, p9, ho, hp, hans, hI⟩ := e_mean w v I0 (xs (nI i + (1 : Int32)).toNatClampNeg)
      refine lv_aload_n hx hb dL_law_1050 rfl (lv_at hl 2 rfl) ?_
      refine lv_aload_n hx hb dL_law_1051 rfl (lv_at hl 3 rfl) ?_
      refine lv_iload_n hx hb dL_law_1052 rfl (lv_at hl 0 rfl) ?_
      refine lv_iconst (v := (1 : Int32)) hx hb dL_law_1053 (by decide) ?_
      refine lv_iadd hx hb dL_law_1054 ?_
      refine va_sld hx hb hX hbl hbA hW.2.2 h_1 dL_law_1055 ?_
      refine x_Vl (av := [.ref (q 0), .int (xs (nI i + (1 : Int32)).toNatClampNeg)]) (As := [.int (xs (nI i + (1 : Int32)).toNatClampNeg)]) F hW (c_X5_mean l G q w (xs (nI i + (1 : Int32)).toNatClampNeg) _ ho) [0, 1, 2, 3, 4, 5, 6, 7, 8, 9, 10, 11, 12, 13, 14, 15, 16, 17, 18, 19, 20, 21, 22, 23, 24, 25, 26, 27, 28, 29, 30, 31, 32, 33, 34, 35, 36, 37, 38] rfl rfl (by intro q; cases q) cv_L_150 rfl ⟨_, rfl, rfl⟩ rfl rfl rfl hl (Nat.le_of_ble_eq_true rfl) ⟨Nat.le_of_ble_eq_true rfl, Nat.le_of_ble_eq_true rfl⟩ ⟨rfl, rfl⟩ ⟨Nat.le_of_ble_eq_true rfl, Nat.le_of_ble_eq_true rfl⟩ dL_law_1056 rfl [some 0, some 1, some 2, some 3, some 4, some 5, some 6, some 7, some 8, some 9, some 10, some 11, some 12, some 13, some 14, some 15, some 16, some 17, some 18, some 19, some 20, some 21, some 22, some 23, some 24, some 25, some 26, some 27, some 28, some 29, some 30, some 31, some 32, some 33, some 34, some 35, some 36, some 37, some 38, none, none, none, none, none, none, none, none, none, none] rfl (ws' := cEW G q o.2 ++ cMW G q2 v) rfl (fun H locs hW => ?_)
      refine lv_aload_n hx hb dL_law_1059 rfl (lv_at hl 1 rfl) ?_
      refine lv_aload_n hx hb dL_law_1060 rfl (lv_at hl 3 rfl) ?_
      refine lv_iload_n hx hb dL_law_1061 rfl (lv_at hl 0 rfl) ?_
      refine lv_iconst (v := (1 : Int32)) hx hb dL_law_1062 (by decide) ?_
      refine lv_iadd hx hb dL_law_1063 ?_
      refine va_sld hx hb hX hbl hbA hW.2.2 h_1 dL_law_1064 ?_
      refine x_Vl (av := [.ref (q2 0), .int (xs (nI i + (1 : Int32)).toNatClampNeg)]) (As := [.int (xs (nI i + (1 : Int32)).toNatClampNeg)]) F hW (c_X6_mean l G q2 v (xs (nI i + (1 : Int32)).toNatClampNeg) _ hp) [39, 40, 41, 42, 43, 44, 45, 46, 47, 48] rfl rfl (by intro q; cases q) cv_L_154 rfl ⟨_, rfl, rfl⟩ rfl rfl rfl hl (Nat.le_of_ble_eq_true rfl) ⟨Nat.le_of_ble_eq_true rfl, Nat.le_of_ble_eq_true rfl⟩ ⟨rfl, rfl⟩ ⟨Nat.le_of_ble_eq_true rfl, Nat.le_of_ble_eq_true rfl⟩ dL_law_1065 rfl [none, none, none, none, none, none, none, none, none, none, none, none, none, none, none, none, none, none, none, none, none, none, none, none, none, none, none, none, none, none, none, none, none, none, none, none, none, none, none, some 0, some 1, some 2, some 3, some 4, some 5, some 6, some 7, some 8, some 9] rfl (ws' := cEW G q o.2 ++ cMW G q2 p9.2) rfl (fun H locs hW => ?_)
      refine W.lcmp hx hb dL_law_1068 ?_
      refine lv_if_eq (tgt := 1261) hx hb dL_law_1069 (by decide) (fun c9 => ?_) (fun c9 => ?_)
      · exact K (o.2) (p9.2) _ _ _ hI hW hl
      · exact absurd (lw_cmp hans) c9
    by_cases c_34 : sw = (34 : Int32)
    · refine x_tableIn c_34 hx hb dL_law_32 (by decide) (by decide) (off := (1042)) rfl (tgt := 1074) (by decide) ?_
      obtain ⟨o, p9, ho, hp, hans, hI⟩ := e_whoSlept w v I0 
      refine lv_aload_n hx hb dL_law_1074 rfl (lv_at hl 2 rfl) ?_
      refine x_Vi (av := [.ref (q 0)]) (As := []) F hW (c_X5_whoSlept l G q w  _ ho) [0, 1, 2, 3, 4, 5, 6, 7, 8, 9, 10, 11, 12, 13, 14, 15, 16, 17, 18, 19, 20, 21, 22, 23, 24, 25, 26, 27, 28, 29, 30, 31, 32, 33, 34, 35, 36, 37, 38] rfl rfl (by intro q; cases q) cv_L_155 rfl ⟨_, rfl, rfl⟩ rfl rfl rfl hl (Nat.le_of_ble_eq_true rfl) ⟨Nat.le_of_ble_eq_true rfl, Nat.le_of_ble_eq_true rfl⟩ ⟨rfl, rfl⟩ ⟨Nat.le_of_ble_eq_true rfl, Nat.le_of_ble_eq_true rfl⟩ dL_law_1075 rfl [some 0, some 1, some 2, some 3, some 4, some 5, some 6, some 7, some 8, some 9, some 10, some 11, some 12, some 13, some 14, some 15, some 16, some 17, some 18, some 19, some 20, some 21, some 22, some 23, some 24, some 25, some 26, some 27, some 28, some 29, some 30, some 31, some 32, some 33, some 34, some 35, some 36, some 37, some 38, none, none, none, none, none, none, none, none, none, none] rfl (ws' := cEW G q o.2 ++ cMW G q2 v) rfl (fun H locs hW => ?_)
      refine lv_aload_n hx hb dL_law_1078 rfl (lv_at hl 1 rfl) ?_
      refine x_Vi (av := [.ref (q2 0)]) (As := []) F hW (c_X6_whoSlept l G q2 v  _ hp) [39, 40, 41, 42, 43, 44, 45, 46, 47, 48] rfl rfl (by intro q; cases q) cv_L_158 rfl ⟨_, rfl, rfl⟩ rfl rfl rfl hl (Nat.le_of_ble_eq_true rfl) ⟨Nat.le_of_ble_eq_true rfl, Nat.le_of_ble_eq_true rfl⟩ ⟨rfl, rfl⟩ ⟨Nat.le_of_ble_eq_true rfl, Nat.le_of_ble_eq_true rfl⟩ dL_law_1079 rfl [none, none, none, none, none, none, none, none, none, none, none, none, none, none, none, none, none, none, none, none, none, none, none, none, none, none, none, none, none, none, none, none, none, none, none, none, none, none, none, some 0, some 1, some 2, some 3, some 4, some 5, some 6, some 7, some 8, some 9] rfl (ws' := cEW G q o.2 ++ cMW G q2 p9.2) rfl (fun H locs hW => ?_)
      refine lv_icmp_eq (tgt := 1261) hx hb dL_law_1082 (by decide) (fun c9 => ?_) (fun c9 => ?_)
      · exact K (o.2) (p9.2) _ _ _ hI hW hl
      · exact absurd hans c9
    by_cases c_35 : sw = (35 : Int32)
    · refine x_tableIn c_35 hx hb dL_law_32 (by decide) (by decide) (off := (1055)) rfl (tgt := 1087) (by decide) ?_
      obtain ⟨o, p9, ho, hp, hans, hI⟩ := e_whatIs w v I0 (xs (nI i + (1 : Int32)).toNatClampNeg) (xs (nI i + (2 : Int32)).toNatClampNeg)
      refine lv_aload_n hx hb dL_law_1087 rfl (lv_at hl 2 rfl) ?_
      refine lv_aload_n hx hb dL_law_1088 rfl (lv_at hl 3 rfl) ?_
      refine lv_iload_n hx hb dL_law_1089 rfl (lv_at hl 0 rfl) ?_
      refine lv_iconst (v := (1 : Int32)) hx hb dL_law_1090 (by decide) ?_
      refine lv_iadd hx hb dL_law_1091 ?_
      refine va_sld hx hb hX hbl hbA hW.2.2 h_1 dL_law_1092 ?_
      refine lv_aload_n hx hb dL_law_1093 rfl (lv_at hl 3 rfl) ?_
      refine lv_iload_n hx hb dL_law_1094 rfl (lv_at hl 0 rfl) ?_
      refine lv_iconst (v := (2 : Int32)) hx hb dL_law_1095 (by decide) ?_
      refine lv_iadd hx hb dL_law_1096 ?_
      refine va_sld hx hb hX hbl hbA hW.2.2 h_2 dL_law_1097 ?_
      refine x_Vi (av := [.ref (q 0), .int (xs (nI i + (1 : Int32)).toNatClampNeg), .int (xs (nI i + (2 : Int32)).toNatClampNeg)]) (As := [.int (xs (nI i + (1 : Int32)).toNatClampNeg), .int (xs (nI i + (2 : Int32)).toNatClampNeg)]) F hW (c_X5_whatIs l G q w (xs (nI i + (1 : Int32)).toNatClampNeg) (xs (nI i + (2 : Int32)).toNatClampNeg) _ ho) [0, 1, 2, 3, 4, 5, 6, 7, 8, 9, 10, 11, 12, 13, 14, 15, 16, 17, 18, 19, 20, 21, 22, 23, 24, 25, 26, 27, 28, 29, 30, 31, 32, 33, 34, 35, 36, 37, 38] rfl rfl (by intro q; cases q) cv_L_159 rfl ⟨_, rfl, rfl⟩ rfl rfl rfl hl (Nat.le_of_ble_eq_true rfl) ⟨Nat.le_of_ble_eq_true rfl, Nat.le_of_ble_eq_true rfl⟩ ⟨rfl, rfl⟩ ⟨Nat.le_of_ble_eq_true rfl, Nat.le_of_ble_eq_true rfl⟩ dL_law_1098 rfl [some 0, some 1, some 2, some 3, some 4, some 5, some 6, some 7, some 8, some 9, some 10, some 11, some 12, some 13, some 14, some 15, some 16, some 17, some 18, some 19, some 20, some 21, some 22, some 23, some 24, some 25, some 26, some 27, some 28, some 29, some 30, some 31, some 32, some 33, some 34, some 35, some 36, some 37, some 38, none, none, none, none, none, none, none, none, none, none] rfl (ws' := cEW G q o.2 ++ cMW G q2 v) rfl (fun H locs hW => ?_)
      refine lv_aload_n hx hb dL_law_1101 rfl (lv_at hl 1 rfl) ?_
      refine lv_aload_n hx hb dL_law_1102 rfl (lv_at hl 3 rfl) ?_
      refine lv_iload_n hx hb dL_law_1103 rfl (lv_at hl 0 rfl) ?_
      refine lv_iconst (v := (1 : Int32)) hx hb dL_law_1104 (by decide) ?_
      refine lv_iadd hx hb dL_law_1105 ?_
      refine va_sld hx hb hX hbl hbA hW.2.2 h_1 dL_law_1106 ?_
      refine lv_aload_n hx hb dL_law_1107 rfl (lv_at hl 3 rfl) ?_
      refine lv_iload_n hx hb dL_law_1108 rfl (lv_at hl 0 rfl) ?_
      refine lv_iconst (v := (2 : Int32)) hx hb dL_law_1109 (by decide) ?_
      refine lv_iadd hx hb dL_law_1110 ?_
      refine va_sld hx hb hX hbl hbA hW.2.2 h_2 dL_law_1111 ?_
      refine x_Vi (av := [.ref (q2 0), .int (xs (nI i + (1 : Int32)).toNatClampNeg), .int (xs (nI i + (2 : Int32)).toNatClampNeg)]) (As := [.int (xs (nI i + (1 : Int32)).toNatClampNeg), .int (xs (nI i + (2 : Int32)).toNatClampNeg)]) F hW (c_X6_whatIs l G q2 v (xs (nI i + (1 : Int32)).toNatClampNeg) (xs (nI i + (2 : Int32)).toNatClampNeg) _ hp) [39, 40, 41, 42, 43, 44, 45, 46, 47, 48] rfl rfl (by intro q; cases q) cv_L_162 rfl ⟨_, rfl, rfl⟩ rfl rfl rfl hl (Nat.le_of_ble_eq_true rfl) ⟨Nat.le_of_ble_eq_true rfl, Nat.le_of_ble_eq_true rfl⟩ ⟨rfl, rfl⟩ ⟨Nat.le_of_ble_eq_true rfl, Nat.le_of_ble_eq_true rfl⟩ dL_law_1112 rfl [none, none, none, none, none, none, none, none, none, none, none, none, none, none, none, none, none, none, none, none, none, none, none, none, none, none, none, none, none, none, none, none, none, none, none, none, none, none, none, some 0, some 1, some 2, some 3, some 4, some 5, some 6, some 7, some 8, some 9] rfl (ws' := cEW G q o.2 ++ cMW G q2 p9.2) rfl (fun H locs hW => ?_)
      refine lv_icmp_eq (tgt := 1261) hx hb dL_law_1115 (by decide) (fun c9 => ?_) (fun c9 => ?_)
      · exact K (o.2) (p9.2) _ _ _ hI hW hl
      · exact absurd hans c9
    by_cases c_36 : sw = (36 : Int32)
    · refine x_tableIn c_36 hx hb dL_law_32 (by decide) (by decide) (off := (1088)) rfl (tgt := 1120) (by decide) ?_
      obtain ⟨o, p9, ho, hp, hans, hI⟩ := e_row w v I0 (xs (nI i + (1 : Int32)).toNatClampNeg)
      refine lv_aload_n hx hb dL_law_1120 rfl (lv_at hl 2 rfl) ?_
      refine lv_aload_n hx hb dL_law_1121 rfl (lv_at hl 3 rfl) ?_
      refine lv_iload_n hx hb dL_law_1122 rfl (lv_at hl 0 rfl) ?_
      refine lv_iconst (v := (1 : Int32)) hx hb dL_law_1123 (by decide) ?_
      refine lv_iadd hx hb dL_law_1124 ?_
      refine va_sld hx hb hX hbl hbA hW.2.2 h_1 dL_law_1125 ?_
      refine x_Vi (av := [.ref (q 0), .int (xs (nI i + (1 : Int32)).toNatClampNeg)]) (As := [.int (xs (nI i + (1 : Int32)).toNatClampNeg)]) F hW (c_X5_row l G q w (xs (nI i + (1 : Int32)).toNatClampNeg) _ ho) [0, 1, 2, 3, 4, 5, 6, 7, 8, 9, 10, 11, 12, 13, 14, 15, 16, 17, 18, 19, 20, 21, 22, 23, 24, 25, 26, 27, 28, 29, 30, 31, 32, 33, 34, 35, 36, 37, 38] rfl rfl (by intro q; cases q) cv_L_163 rfl ⟨_, rfl, rfl⟩ rfl rfl rfl hl (Nat.le_of_ble_eq_true rfl) ⟨Nat.le_of_ble_eq_true rfl, Nat.le_of_ble_eq_true rfl⟩ ⟨rfl, rfl⟩ ⟨Nat.le_of_ble_eq_true rfl, Nat.le_of_ble_eq_true rfl⟩ dL_law_1126 rfl [some 0, some 1, some 2, some 3, some 4, some 5, some 6, some 7, some 8, some 9, some 10, some 11, some 12, some 13, some 14, some 15, some 16, some 17, some 18, some 19, some 20, some 21, some 22, some 23, some 24, some 25, some 26, some 27, some 28, some 29, some 30, some 31, some 32, some 33, some 34, some 35, some 36, some 37, some 38, none, none, none, none, none, none, none, none, none, none] rfl (ws' := cEW G q o.2 ++ cMW G q2 v) rfl (fun H locs hW => ?_)
      refine lv_aload_n hx hb dL_law_1129 rfl (lv_at hl 1 rfl) ?_
      refine lv_aload_n hx hb dL_law_1130 rfl (lv_at hl 3 rfl) ?_
      refine lv_iload_n hx hb dL_law_1131 rfl (lv_at hl 0 rfl) ?_
      refine lv_iconst (v := (1 : Int32)) hx hb dL_law_1132 (by decide) ?_
      refine lv_iadd hx hb dL_law_1133 ?_
      refine va_sld hx hb hX hbl hbA hW.2.2 h_1 dL_law_1134 ?_
      refine x_Vi (av := [.ref (q2 0), .int (xs (nI i + (1 : Int32)).toNatClampNeg)]) (As := [.int (xs (nI i + (1 : Int32)).toNatClampNeg)]) F hW (c_X6_row l G q2 v (xs (nI i + (1 : Int32)).toNatClampNeg) _ hp) [39, 40, 41, 42, 43, 44, 45, 46, 47, 48] rfl rfl (by intro q; cases q) cv_L_166 rfl ⟨_, rfl, rfl⟩ rfl rfl rfl hl (Nat.le_of_ble_eq_true rfl) ⟨Nat.le_of_ble_eq_true rfl, Nat.le_of_ble_eq_true rfl⟩ ⟨rfl, rfl⟩ ⟨Nat.le_of_ble_eq_true rfl, Nat.le_of_ble_eq_true rfl⟩ dL_law_1135 rfl [none, none, none, none, none, none, none, none, none, none, none, none, none, none, none, none, none, none, none, none, none, none, none, none, none, none, none, none, none, none, none, none, none, none, none, none, none, none, none, some 0, some 1, some 2, some 3, some 4, some 5, some 6, some 7, some 8, some 9] rfl (ws' := cEW G q o.2 ++ cMW G q2 p9.2) rfl (fun H locs hW => ?_)
      refine lv_icmp_eq (tgt := 1261) hx hb dL_law_1138 (by decide) (fun c9 => ?_) (fun c9 => ?_)
      · exact K (o.2) (p9.2) _ _ _ hI hW hl
      · exact absurd hans c9
    by_cases c_37 : sw = (37 : Int32)
    · refine x_tableIn c_37 hx hb dL_law_32 (by decide) (by decide) (off := (1111)) rfl (tgt := 1143) (by decide) ?_
      obtain ⟨o, p9, ho, hp, hans, hI⟩ := e_judge w v I0 
      refine lv_aload_n hx hb dL_law_1143 rfl (lv_at hl 2 rfl) ?_
      refine x_Vi (av := [.ref (q 0)]) (As := []) F hW (c_X5_judge l G q w  _ ho) [0, 1, 2, 3, 4, 5, 6, 7, 8, 9, 10, 11, 12, 13, 14, 15, 16, 17, 18, 19, 20, 21, 22, 23, 24, 25, 26, 27, 28, 29, 30, 31, 32, 33, 34, 35, 36, 37, 38] rfl rfl (by intro q; cases q) cv_L_167 rfl ⟨_, rfl, rfl⟩ rfl rfl rfl hl (Nat.le_of_ble_eq_true rfl) ⟨Nat.le_of_ble_eq_true rfl, Nat.le_of_ble_eq_true rfl⟩ ⟨rfl, rfl⟩ ⟨Nat.le_of_ble_eq_true rfl, Nat.le_of_ble_eq_true rfl⟩ dL_law_1144 rfl [some 0, some 1, some 2, some 3, some 4, some 5, some 6, some 7, some 8, some 9, some 10, some 11, some 12, some 13, some 14, some 15, some 16, some 17, some 18, some 19, some 20, some 21, some 22, some 23, some 24, some 25, some 26, some 27, some 28, some 29, some 30, some 31, some 32, some 33, some 34, some 35, some 36, some 37, some 38, none, none, none, none, none, none, none, none, none, none] rfl (ws' := cEW G q o.2 ++ cMW G q2 v) rfl (fun H locs hW => ?_)
      refine lv_aload_n hx hb dL_law_1147 rfl (lv_at hl 1 rfl) ?_
      refine x_Vi (av := [.ref (q2 0)]) (As := []) F hW (c_X6_judge l G q2 v  _ hp) [39, 40, 41, 42, 43, 44, 45, 46, 47, 48] rfl rfl (by intro q; cases q) cv_L_170 rfl ⟨_, rfl, rfl⟩ rfl rfl rfl hl (Nat.le_of_ble_eq_true rfl) ⟨Nat.le_of_ble_eq_true rfl, Nat.le_of_ble_eq_true rfl⟩ ⟨rfl, rfl⟩ ⟨Nat.le_of_ble_eq_true rfl, Nat.le_of_ble_eq_true rfl⟩ dL_law_1148 rfl [none, none, none, none, none, none, none, none, none, none, none, none, none, none, none, none, none, none, none, none, none, none, none, none, none, none, none, none, none, none, none, none, none, none, none, none, none, none, none, some 0, some 1, some 2, some 3, some 4, some 5, some 6, some 7, some 8, some 9] rfl (ws' := cEW G q o.2 ++ cMW G q2 p9.2) rfl (fun H locs hW => ?_)
      refine lv_icmp_eq (tgt := 1261) hx hb dL_law_1151 (by decide) (fun c9 => ?_) (fun c9 => ?_)
      · exact K (o.2) (p9.2) _ _ _ hI hW hl
      · exact absurd hans c9
    by_cases c_38 : sw = (38 : Int32)
    · refine x_tableIn c_38 hx hb dL_law_32 (by decide) (by decide) (off := (1124)) rfl (tgt := 1156) (by decide) ?_
      obtain ⟨o, p9, ho, hp, hans, hI⟩ := e_clear w v I0 
      refine lv_aload_n hx hb dL_law_1156 rfl (lv_at hl 2 rfl) ?_
      refine x_Vi (av := [.ref (q 0)]) (As := []) F hW (c_X5_clear l G q w  _ ho) [0, 1, 2, 3, 4, 5, 6, 7, 8, 9, 10, 11, 12, 13, 14, 15, 16, 17, 18, 19, 20, 21, 22, 23, 24, 25, 26, 27, 28, 29, 30, 31, 32, 33, 34, 35, 36, 37, 38] rfl rfl (by intro q; cases q) cv_L_171 rfl ⟨_, rfl, rfl⟩ rfl rfl rfl hl (Nat.le_of_ble_eq_true rfl) ⟨Nat.le_of_ble_eq_true rfl, Nat.le_of_ble_eq_true rfl⟩ ⟨rfl, rfl⟩ ⟨Nat.le_of_ble_eq_true rfl, Nat.le_of_ble_eq_true rfl⟩ dL_law_1157 rfl [some 0, some 1, some 2, some 3, some 4, some 5, some 6, some 7, some 8, some 9, some 10, some 11, some 12, some 13, some 14, some 15, some 16, some 17, some 18, some 19, some 20, some 21, some 22, some 23, some 24, some 25, some 26, some 27, some 28, some 29, some 30, some 31, some 32, some 33, some 34, some 35, some 36, some 37, some 38, none, none, none, none, none, none, none, none, none, none] rfl (ws' := cEW G q o.2 ++ cMW G q2 v) rfl (fun H locs hW => ?_)
      refine lv_aload_n hx hb dL_law_1160 rfl (lv_at hl 1 rfl) ?_
      refine x_Vi (av := [.ref (q2 0)]) (As := []) F hW (c_X6_clear l G q2 v  _ hp) [39, 40, 41, 42, 43, 44, 45, 46, 47, 48] rfl rfl (by intro q; cases q) cv_L_174 rfl ⟨_, rfl, rfl⟩ rfl rfl rfl hl (Nat.le_of_ble_eq_true rfl) ⟨Nat.le_of_ble_eq_true rfl, Nat.le_of_ble_eq_true rfl⟩ ⟨rfl, rfl⟩ ⟨Nat.le_of_ble_eq_true rfl, Nat.le_of_ble_eq_true rfl⟩ dL_law_1161 rfl [none, none, none, none, none, none, none, none, none, none, none, none, none, none, none, none, none, none, none, none, none, none, none, none, none, none, none, none, none, none, none, none, none, none, none, none, none, none, none, some 0, some 1, some 2, some 3, some 4, some 5, some 6, some 7, some 8, some 9] rfl (ws' := cEW G q o.2 ++ cMW G q2 p9.2) rfl (fun H locs hW => ?_)
      refine lv_icmp_eq (tgt := 1261) hx hb dL_law_1164 (by decide) (fun c9 => ?_) (fun c9 => ?_)
      · exact K (o.2) (p9.2) _ _ _ hI hW hl
      · exact absurd hans c9
    by_cases c_39 : sw = (39 : Int32)
    · refine x_tableIn c_39 hx hb dL_law_32 (by decide) (by decide) (off := (1137)) rfl (tgt := 1169) (by decide) ?_
      obtain ⟨o, p9, ho, hp, hans, hI⟩ := e_lots w v I0 (xs (nI i + (1 : Int32)).toNatClampNeg) (xs (nI i + (2 : Int32)).toNatClampNeg) (xs (nI i + (3 : Int32)).toNatClampNeg)
      refine lv_aload_n hx hb dL_law_1169 rfl (lv_at hl 2 rfl) ?_
      refine lv_aload_n hx hb dL_law_1170 rfl (lv_at hl 3 rfl) ?_
      refine lv_iload_n hx hb dL_law_1171 rfl (lv_at hl 0 rfl) ?_
      refine lv_iconst (v := (1 : Int32)) hx hb dL_law_1172 (by decide) ?_
      refine lv_iadd hx hb dL_law_1173 ?_
      refine va_sld hx hb hX hbl hbA hW.2.2 h_1 dL_law_1174 ?_
      refine lv_aload_n hx hb dL_law_1175 rfl (lv_at hl 3 rfl) ?_
      refine lv_iload_n hx hb dL_law_1176 rfl (lv_at hl 0 rfl) ?_
      refine lv_iconst (v := (2 : Int32)) hx hb dL_law_1177 (by decide) ?_
      refine lv_iadd hx hb dL_law_1178 ?_
      refine va_sld hx hb hX hbl hbA hW.2.2 h_2 dL_law_1179 ?_
      refine lv_aload_n hx hb dL_law_1180 rfl (lv_at hl 3 rfl) ?_
      refine lv_iload_n hx hb dL_law_1181 rfl (lv_at hl 0 rfl) ?_
      refine lv_iconst (v := (3 : Int32)) hx hb dL_law_1182 (by decide) ?_
      refine lv_iadd hx hb dL_law_1183 ?_
      refine va_sld hx hb hX hbl hbA hW.2.2 h_3 dL_law_1184 ?_
      refine x_Vi (av := [.ref (q 0), .int (xs (nI i + (1 : Int32)).toNatClampNeg), .int (xs (nI i + (2 : Int32)).toNatClampNeg), .int (xs (nI i + (3 : Int32)).toNatClampNeg)]) (As := [.int (xs (nI i + (1 : Int32)).toNatClampNeg), .int (xs (nI i + (2 : Int32)).toNatClampNeg), .int (xs (nI i + (3 : Int32)).toNatClampNeg)]) F hW (c_X5_lots l G q w (xs (nI i + (1 : Int32)).toNatClampNeg) (xs (nI i + (2 : Int32)).toNatClampNeg) (xs (nI i + (3 : Int32)).toNatClampNeg) _ ho) [0, 1, 2, 3, 4, 5, 6, 7, 8, 9, 10, 11, 12, 13, 14, 15, 16, 17, 18, 19, 20, 21, 22, 23, 24, 25, 26, 27, 28, 29, 30, 31, 32, 33, 34, 35, 36, 37, 38] rfl rfl (by intro q; cases q) cv_L_175 rfl ⟨_, rfl, rfl⟩ rfl rfl rfl hl (Nat.le_of_ble_eq_true rfl) ⟨Nat.le_of_ble_eq_true rfl, Nat.le_of_ble_eq_true rfl⟩ ⟨rfl, rfl⟩ ⟨Nat.le_of_ble_eq_true rfl, Nat.le_of_ble_eq_true rfl⟩ dL_law_1185 rfl [some 0, some 1, some 2, some 3, some 4, some 5, some 6, some 7, some 8, some 9, some 10, some 11, some 12, some 13, some 14, some 15, some 16, some 17, some 18, some 19, some 20, some 21, some 22, some 23, some 24, some 25, some 26, some 27, some 28, some 29, some 30, some 31, some 32, some 33, some 34, some 35, some 36, some 37, some 38, none, none, none, none, none, none, none, none, none, none] rfl (ws' := cEW G q o.2 ++ cMW G q2 v) rfl (fun H locs hW => ?_)
      refine lv_aload_n hx hb dL_law_1188 rfl (lv_at hl 1 rfl) ?_
      refine lv_aload_n hx hb dL_law_1189 rfl (lv_at hl 3 rfl) ?_
      refine lv_iload_n hx hb dL_law_1190 rfl (lv_at hl 0 rfl) ?_
      refine lv_iconst (v := (1 : Int32)) hx hb dL_law_1191 (by decide) ?_
      refine lv_iadd hx hb dL_law_1192 ?_
      refine va_sld hx hb hX hbl hbA hW.2.2 h_1 dL_law_1193 ?_
      refine lv_aload_n hx hb dL_law_1194 rfl (lv_at hl 3 rfl) ?_
      refine lv_iload_n hx hb dL_law_1195 rfl (lv_at hl 0 rfl) ?_
      refine lv_iconst (v := (2 : Int32)) hx hb dL_law_1196 (by decide) ?_
      refine lv_iadd hx hb dL_law_1197 ?_
      refine va_sld hx hb hX hbl hbA hW.2.2 h_2 dL_law_1198 ?_
      refine lv_aload_n hx hb dL_law_1199 rfl (lv_at hl 3 rfl) ?_
      refine lv_iload_n hx hb dL_law_1200 rfl (lv_at hl 0 rfl) ?_
      refine lv_iconst (v := (3 : Int32)) hx hb dL_law_1201 (by decide) ?_
      refine lv_iadd hx hb dL_law_1202 ?_
      refine va_sld hx hb hX hbl hbA hW.2.2 h_3 dL_law_1203 ?_
      refine x_Vi (av := [.ref (q2 0), .int (xs (nI i + (1 : Int32)).toNatClampNeg), .int (xs (nI i + (2 : Int32)).toNatClampNeg), .int (xs (nI i + (3 : Int32)).toNatClampNeg)]) (As := [.int (xs (nI i + (1 : Int32)).toNatClampNeg), .int (xs (nI i + (2 : Int32)).toNatClampNeg), .int (xs (nI i + (3 : Int32)).toNatClampNeg)]) F hW (c_X6_lots l G q2 v (xs (nI i + (1 : Int32)).toNatClampNeg) (xs (nI i + (2 : Int32)).toNatClampNeg) (xs (nI i + (3 : Int32)).toNatClampNeg) _ hp) [39, 40, 41, 42, 43, 44, 45, 46, 47, 48] rfl rfl (by intro q; cases q) cv_L_178 rfl ⟨_, rfl, rfl⟩ rfl rfl rfl hl (Nat.le_of_ble_eq_true rfl) ⟨Nat.le_of_ble_eq_true rfl, Nat.le_of_ble_eq_true rfl⟩ ⟨rfl, rfl⟩ ⟨Nat.le_of_ble_eq_true rfl, Nat.le_of_ble_eq_true rfl⟩ dL_law_1204 rfl [none, none, none, none, none, none, none, none, none, none, none, none, none, none, none, none, none, none, none, none, none, none, none, none, none, none, none, none, none, none, none, none, none, none, none, none, none, none, none, some 0, some 1, some 2, some 3, some 4, some 5, some 6, some 7, some 8, some 9] rfl (ws' := cEW G q o.2 ++ cMW G q2 p9.2) rfl (fun H locs hW => ?_)
      refine lv_icmp_eq (tgt := 1261) hx hb dL_law_1207 (by decide) (fun c9 => ?_) (fun c9 => ?_)
      · exact K (o.2) (p9.2) _ _ _ hI hW hl
      · exact absurd hans c9
    by_cases c_40 : sw = (40 : Int32)
    · refine x_tableIn c_40 hx hb dL_law_32 (by decide) (by decide) (off := (1180)) rfl (tgt := 1212) (by decide) ?_
      obtain ⟨o, p9, ho, hp, hans, hI⟩ := e_image w v I0 
      refine lv_aload_n hx hb dL_law_1212 rfl (lv_at hl 2 rfl) ?_
      refine x_Vi (av := [.ref (q 0)]) (As := []) F hW (c_X5_image l G q w  _ ho) [0, 1, 2, 3, 4, 5, 6, 7, 8, 9, 10, 11, 12, 13, 14, 15, 16, 17, 18, 19, 20, 21, 22, 23, 24, 25, 26, 27, 28, 29, 30, 31, 32, 33, 34, 35, 36, 37, 38] rfl rfl (by intro q; cases q) cv_L_179 rfl ⟨_, rfl, rfl⟩ rfl rfl rfl hl (Nat.le_of_ble_eq_true rfl) ⟨Nat.le_of_ble_eq_true rfl, Nat.le_of_ble_eq_true rfl⟩ ⟨rfl, rfl⟩ ⟨Nat.le_of_ble_eq_true rfl, Nat.le_of_ble_eq_true rfl⟩ dL_law_1213 rfl [some 0, some 1, some 2, some 3, some 4, some 5, some 6, some 7, some 8, some 9, some 10, some 11, some 12, some 13, some 14, some 15, some 16, some 17, some 18, some 19, some 20, some 21, some 22, some 23, some 24, some 25, some 26, some 27, some 28, some 29, some 30, some 31, some 32, some 33, some 34, some 35, some 36, some 37, some 38, none, none, none, none, none, none, none, none, none, none] rfl (ws' := cEW G q o.2 ++ cMW G q2 v) rfl (fun H locs hW => ?_)
      refine lv_aload_n hx hb dL_law_1216 rfl (lv_at hl 1 rfl) ?_
      refine x_Vi (av := [.ref (q2 0)]) (As := []) F hW (c_X6_image l G q2 v  _ hp) [39, 40, 41, 42, 43, 44, 45, 46, 47, 48] rfl rfl (by intro q; cases q) cv_L_182 rfl ⟨_, rfl, rfl⟩ rfl rfl rfl hl (Nat.le_of_ble_eq_true rfl) ⟨Nat.le_of_ble_eq_true rfl, Nat.le_of_ble_eq_true rfl⟩ ⟨rfl, rfl⟩ ⟨Nat.le_of_ble_eq_true rfl, Nat.le_of_ble_eq_true rfl⟩ dL_law_1217 rfl [none, none, none, none, none, none, none, none, none, none, none, none, none, none, none, none, none, none, none, none, none, none, none, none, none, none, none, none, none, none, none, none, none, none, none, none, none, none, none, some 0, some 1, some 2, some 3, some 4, some 5, some 6, some 7, some 8, some 9] rfl (ws' := cEW G q o.2 ++ cMW G q2 p9.2) rfl (fun H locs hW => ?_)
      refine lv_icmp_eq (tgt := 1261) hx hb dL_law_1220 (by decide) (fun c9 => ?_) (fun c9 => ?_)
      · exact K (o.2) (p9.2) _ _ _ hI hW hl
      · exact absurd hans c9
    by_cases c_41 : sw = (41 : Int32)
    · refine x_tableIn c_41 hx hb dL_law_32 (by decide) (by decide) (off := (1193)) rfl (tgt := 1225) (by decide) ?_
      obtain ⟨o, p9, ho, hp, hans, hI⟩ := e_on w v I0 
      refine lv_aload_n hx hb dL_law_1225 rfl (lv_at hl 2 rfl) ?_
      refine x_Vi (av := [.ref (q 0)]) (As := []) F hW (c_X5_on l G q w  _ ho) [0, 1, 2, 3, 4, 5, 6, 7, 8, 9, 10, 11, 12, 13, 14, 15, 16, 17, 18, 19, 20, 21, 22, 23, 24, 25, 26, 27, 28, 29, 30, 31, 32, 33, 34, 35, 36, 37, 38] rfl rfl (by intro q; cases q) cv_L_183 rfl ⟨_, rfl, rfl⟩ rfl rfl rfl hl (Nat.le_of_ble_eq_true rfl) ⟨Nat.le_of_ble_eq_true rfl, Nat.le_of_ble_eq_true rfl⟩ ⟨rfl, rfl⟩ ⟨Nat.le_of_ble_eq_true rfl, Nat.le_of_ble_eq_true rfl⟩ dL_law_1226 rfl [some 0, some 1, some 2, some 3, some 4, some 5, some 6, some 7, some 8, some 9, some 10, some 11, some 12, some 13, some 14, some 15, some 16, some 17, some 18, some 19, some 20, some 21, some 22, some 23, some 24, some 25, some 26, some 27, some 28, some 29, some 30, some 31, some 32, some 33, some 34, some 35, some 36, some 37, some 38, none, none, none, none, none, none, none, none, none, none] rfl (ws' := cEW G q o.2 ++ cMW G q2 v) rfl (fun H locs hW => ?_)
      refine lv_aload_n hx hb dL_law_1229 rfl (lv_at hl 1 rfl) ?_
      refine x_Vi (av := [.ref (q2 0)]) (As := []) F hW (c_X6_on l G q2 v  _ hp) [39, 40, 41, 42, 43, 44, 45, 46, 47, 48] rfl rfl (by intro q; cases q) cv_L_186 rfl ⟨_, rfl, rfl⟩ rfl rfl rfl hl (Nat.le_of_ble_eq_true rfl) ⟨Nat.le_of_ble_eq_true rfl, Nat.le_of_ble_eq_true rfl⟩ ⟨rfl, rfl⟩ ⟨Nat.le_of_ble_eq_true rfl, Nat.le_of_ble_eq_true rfl⟩ dL_law_1230 rfl [none, none, none, none, none, none, none, none, none, none, none, none, none, none, none, none, none, none, none, none, none, none, none, none, none, none, none, none, none, none, none, none, none, none, none, none, none, none, none, some 0, some 1, some 2, some 3, some 4, some 5, some 6, some 7, some 8, some 9] rfl (ws' := cEW G q o.2 ++ cMW G q2 p9.2) rfl (fun H locs hW => ?_)
      refine lv_icmp_eq (tgt := 1261) hx hb dL_law_1233 (by decide) (fun c9 => ?_) (fun c9 => ?_)
      · exact K (o.2) (p9.2) _ _ _ hI hW hl
      · exact absurd hans c9
    by_cases c_42 : sw = (42 : Int32)
    · refine x_tableIn c_42 hx hb dL_law_32 (by decide) (by decide) (off := (1206)) rfl (tgt := 1238) (by decide) ?_
      obtain ⟨o, p9, ho, hp, hans, hI⟩ := e_count w v I0 (xs (nI i + (1 : Int32)).toNatClampNeg)
      refine lv_aload_n hx hb dL_law_1238 rfl (lv_at hl 2 rfl) ?_
      refine lv_aload_n hx hb dL_law_1239 rfl (lv_at hl 3 rfl) ?_
      refine lv_iload_n hx hb dL_law_1240 rfl (lv_at hl 0 rfl) ?_
      refine lv_iconst (v := (1 : Int32)) hx hb dL_law_1241 (by decide) ?_
      refine lv_iadd hx hb dL_law_1242 ?_
      refine va_sld hx hb hX hbl hbA hW.2.2 h_1 dL_law_1243 ?_
      refine x_Vi (av := [.ref (q 0), .int (xs (nI i + (1 : Int32)).toNatClampNeg)]) (As := [.int (xs (nI i + (1 : Int32)).toNatClampNeg)]) F hW (c_X5_count l G q w (xs (nI i + (1 : Int32)).toNatClampNeg) _ ho) [0, 1, 2, 3, 4, 5, 6, 7, 8, 9, 10, 11, 12, 13, 14, 15, 16, 17, 18, 19, 20, 21, 22, 23, 24, 25, 26, 27, 28, 29, 30, 31, 32, 33, 34, 35, 36, 37, 38] rfl rfl (by intro q; cases q) cv_L_187 rfl ⟨_, rfl, rfl⟩ rfl rfl rfl hl (Nat.le_of_ble_eq_true rfl) ⟨Nat.le_of_ble_eq_true rfl, Nat.le_of_ble_eq_true rfl⟩ ⟨rfl, rfl⟩ ⟨Nat.le_of_ble_eq_true rfl, Nat.le_of_ble_eq_true rfl⟩ dL_law_1244 rfl [some 0, some 1, some 2, some 3, some 4, some 5, some 6, some 7, some 8, some 9, some 10, some 11, some 12, some 13, some 14, some 15, some 16, some 17, some 18, some 19, some 20, some 21, some 22, some 23, some 24, some 25, some 26, some 27, some 28, some 29, some 30, some 31, some 32, some 33, some 34, some 35, some 36, some 37, some 38, none, none, none, none, none, none, none, none, none, none] rfl (ws' := cEW G q o.2 ++ cMW G q2 v) rfl (fun H locs hW => ?_)
      refine lv_aload_n hx hb dL_law_1247 rfl (lv_at hl 1 rfl) ?_
      refine lv_aload_n hx hb dL_law_1248 rfl (lv_at hl 3 rfl) ?_
      refine lv_iload_n hx hb dL_law_1249 rfl (lv_at hl 0 rfl) ?_
      refine lv_iconst (v := (1 : Int32)) hx hb dL_law_1250 (by decide) ?_
      refine lv_iadd hx hb dL_law_1251 ?_
      refine va_sld hx hb hX hbl hbA hW.2.2 h_1 dL_law_1252 ?_
      refine x_Vi (av := [.ref (q2 0), .int (xs (nI i + (1 : Int32)).toNatClampNeg)]) (As := [.int (xs (nI i + (1 : Int32)).toNatClampNeg)]) F hW (c_X6_count l G q2 v (xs (nI i + (1 : Int32)).toNatClampNeg) _ hp) [39, 40, 41, 42, 43, 44, 45, 46, 47, 48] rfl rfl (by intro q; cases q) cv_L_190 rfl ⟨_, rfl, rfl⟩ rfl rfl rfl hl (Nat.le_of_ble_eq_true rfl) ⟨Nat.le_of_ble_eq_true rfl, Nat.le_of_ble_eq_true rfl⟩ ⟨rfl, rfl⟩ ⟨Nat.le_of_ble_eq_true rfl, Nat.le_of_ble_eq_true rfl⟩ dL_law_1253 rfl [none, none, none, none, none, none, none, none, none, none, none, none, none, none, none, none, none, none, none, none, none, none, none, none, none, none, none, none, none, none, none, none, none, none, none, none, none, none, none, some 0, some 1, some 2, some 3, some 4, some 5, some 6, some 7, some 8, some 9] rfl (ws' := cEW G q o.2 ++ cMW G q2 v) rfl (fun H locs hW => ?_)
      refine lv_icmp_eq (tgt := 1261) hx hb dL_law_1256 (by decide) (fun c9 => ?_) (fun c9 => ?_)
      · exact K (o.2) (v) _ _ _ hI hW hl
      · exact absurd hans c9
    refine lv_tableOut hx hb dL_law_32 (by have z0 := x_ne c_0 (z := 0) (by decide); have z1 := x_ne c_1 (z := 1) (by decide); have z2 := x_ne c_2 (z := 2) (by decide); have z3 := x_ne c_3 (z := 3) (by decide); have z4 := x_ne c_4 (z := 4) (by decide); have z5 := x_ne c_5 (z := 5) (by decide); have z6 := x_ne c_6 (z := 6) (by decide); have z7 := x_ne c_7 (z := 7) (by decide); have z8 := x_ne c_8 (z := 8) (by decide); have z9 := x_ne c_9 (z := 9) (by decide); have z10 := x_ne c_10 (z := 10) (by decide); have z11 := x_ne c_11 (z := 11) (by decide); have z12 := x_ne c_12 (z := 12) (by decide); have z13 := x_ne c_13 (z := 13) (by decide); have z14 := x_ne c_14 (z := 14) (by decide); have z15 := x_ne c_15 (z := 15) (by decide); have z16 := x_ne c_16 (z := 16) (by decide); have z17 := x_ne c_17 (z := 17) (by decide); have z18 := x_ne c_18 (z := 18) (by decide); have z19 := x_ne c_19 (z := 19) (by decide); have z20 := x_ne c_20 (z := 20) (by decide); have z21 := x_ne c_21 (z := 21) (by decide); have z22 := x_ne c_22 (z := 22) (by decide); have z23 := x_ne c_23 (z := 23) (by decide); have z24 := x_ne c_24 (z := 24) (by decide); have z25 := x_ne c_25 (z := 25) (by decide); have z26 := x_ne c_26 (z := 26) (by decide); have z27 := x_ne c_27 (z := 27) (by decide); have z28 := x_ne c_28 (z := 28) (by decide); have z29 := x_ne c_29 (z := 29) (by decide); have z30 := x_ne c_30 (z := 30) (by decide); have z31 := x_ne c_31 (z := 31) (by decide); have z32 := x_ne c_32 (z := 32) (by decide); have z33 := x_ne c_33 (z := 33) (by decide); have z34 := x_ne c_34 (z := 34) (by decide); have z35 := x_ne c_35 (z := 35) (by decide); have z36 := x_ne c_36 (z := 36) (by decide); have z37 := x_ne c_37 (z := 37) (by decide); have z38 := x_ne c_38 (z := 38) (by decide); have z39 := x_ne c_39 (z := 39) (by decide); have z40 := x_ne c_40 (z := 40) (by decide); have z41 := x_ne c_41 (z := 41) (by decide); have z42 := x_ne c_42 (z := 42) (by decide); omega) (tgt := 1261) (by decide) ?_
    exact K w v _ _ _ I0 hW hl
