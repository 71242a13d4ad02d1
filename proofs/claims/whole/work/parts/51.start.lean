theorem ls_C : Cond.laysStatic "java/lang/String" "COMPACT_STRINGS" "Z" ∈ lw_tbl := tb_1 _ (List.mem_of_getElem? (i := 227) (by decide +kernel))
theorem ls_F : Cond.laysStatic "jdk/internal/util/Preconditions" "SIOOBE_FORMATTER" "Ljava/util/function/BiFunction;" ∈ lw_tbl := tb_2 _ (List.mem_of_getElem? (i := 3) (by decide +kernel))
abbrev fl9 : Cond := Jvm.Cond.and given_1 narrow_1
theorem tx_ex {s : State} {b : Addr} (hf : ∀ c ∈ flatC fl9, c.before #[Value.ref b] s = true) : ∀ i : Nat, i < 6 → (Cond.exactly (Term.string RX2 (sIdx i)) "java/lang/String").before #[Value.ref b] s = true := by
  intro i hi
  match i, hi with
  | 0, _ => exact hf _ (by decide +kernel)
  | 1, _ => exact hf _ (by decide +kernel)
  | 2, _ => exact hf _ (by decide +kernel)
  | 3, _ => exact hf _ (by decide +kernel)
  | 4, _ => exact hf _ (by decide +kernel)
  | 5, _ => exact hf _ (by decide +kernel)
  | k + 6, h => exact absurd h (by omega)
theorem tx_co {s : State} {b : Addr} (hf : ∀ c ∈ flatC fl9, c.before #[Value.ref b] s = true) : ∀ i : Nat, i < 6 → (Cond.eq (.field (Term.string RX2 (sIdx i)) "java/lang/String" "coder" "B") (.int 0)).before #[Value.ref b] s = true := by
  intro i hi
  match i, hi with
  | 0, _ => exact hf _ (by decide +kernel)
  | 1, _ => exact hf _ (by decide +kernel)
  | 2, _ => exact hf _ (by decide +kernel)
  | 3, _ => exact hf _ (by decide +kernel)
  | 4, _ => exact hf _ (by decide +kernel)
  | 5, _ => exact hf _ (by decide +kernel)
  | k + 6, h => exact absurd h (by omega)
theorem tx_ar {s : State} {b : Addr} (hf : ∀ c ∈ flatC fl9, c.before #[Value.ref b] s = true) : ∀ i : Nat, i < 6 → (Cond.arrayOf (.field (Term.string RX2 (sIdx i)) "java/lang/String" "value" "[B") .byte).before #[Value.ref b] s = true := by
  intro i hi
  match i, hi with
  | 0, _ => exact hf _ (by decide +kernel)
  | 1, _ => exact hf _ (by decide +kernel)
  | 2, _ => exact hf _ (by decide +kernel)
  | 3, _ => exact hf _ (by decide +kernel)
  | 4, _ => exact hf _ (by decide +kernel)
  | 5, _ => exact hf _ (by decide +kernel)
  | k + 6, h => exact absurd h (by omega)
theorem tx_le {s : State} {b : Addr} (hf : ∀ c ∈ flatC fl9, c.before #[Value.ref b] s = true) : ∀ i : Nat, i < 6 → (Cond.eq (.length (.field (Term.string RX2 (sIdx i)) "java/lang/String" "value" "[B")) (.int (Int32.ofNat (sLen.getD i 0)))).before #[Value.ref b] s = true := by
  intro i hi
  match i, hi with
  | 0, _ => exact hf _ (by decide +kernel)
  | 1, _ => exact hf _ (by decide +kernel)
  | 2, _ => exact hf _ (by decide +kernel)
  | 3, _ => exact hf _ (by decide +kernel)
  | 4, _ => exact hf _ (by decide +kernel)
  | 5, _ => exact hf _ (by decide +kernel)
  | k + 6, h => exact absurd h (by omega)
theorem tx_el {s : State} {b : Addr} (hf : ∀ c ∈ flatC fl9, c.before #[Value.ref b] s = true) : ∀ i : Nat, i < 6 → ∀ j : Nat, j < sLen.getD i 0 → (Cond.eq (.elem (.field (Term.string RX2 (sIdx i)) "java/lang/String" "value" "[B") (.int (Int32.ofNat j))) (.int ((sByt.getD i []).getD j 0))).before #[Value.ref b] s = true := by
  intro i hi j hj
  match i, hi with
  | 0, _ =>
    have hj : j < 4 := hj
    match j, hj with
    | 0, _ => exact hf _ (by decide +kernel)
    | 1, _ => exact hf _ (by decide +kernel)
    | 2, _ => exact hf _ (by decide +kernel)
    | 3, _ => exact hf _ (by decide +kernel)
    | k + 4, h => exact absurd h (by omega)
  | 1, _ =>
    have hj : j < 5 := hj
    match j, hj with
    | 0, _ => exact hf _ (by decide +kernel)
    | 1, _ => exact hf _ (by decide +kernel)
    | 2, _ => exact hf _ (by decide +kernel)
    | 3, _ => exact hf _ (by decide +kernel)
    | 4, _ => exact hf _ (by decide +kernel)
    | k + 5, h => exact absurd h (by omega)
  | 2, _ =>
    have hj : j < 2 := hj
    match j, hj with
    | 0, _ => exact hf _ (by decide +kernel)
    | 1, _ => exact hf _ (by decide +kernel)
    | k + 2, h => exact absurd h (by omega)
  | 3, _ =>
    have hj : j < 3 := hj
    match j, hj with
    | 0, _ => exact hf _ (by decide +kernel)
    | 1, _ => exact hf _ (by decide +kernel)
    | 2, _ => exact hf _ (by decide +kernel)
    | k + 3, h => exact absurd h (by omega)
  | 4, _ =>
    have hj : j < 0 := hj
    match j, hj with
    | k + 0, h => exact absurd h (by omega)
  | 5, _ =>
    have hj : j < 6 := hj
    match j, hj with
    | 0, _ => exact hf _ (by decide +kernel)
    | 1, _ => exact hf _ (by decide +kernel)
    | 2, _ => exact hf _ (by decide +kernel)
    | 3, _ => exact hf _ (by decide +kernel)
    | 4, _ => exact hf _ (by decide +kernel)
    | 5, _ => exact hf _ (by decide +kernel)
    | k + 6, h => exact absurd h (by omega)
  | k + 6, h => exact absurd h (by omega)
theorem tx_ne {s : State} {b : Addr} (hf : ∀ c ∈ flatC fl9, c.before #[Value.ref b] s = true) : ∀ i j : Nat, i < 6 → j < 6 → i ≠ j → (Cond.not (Cond.eq (Term.string RX2 (sIdx i)) (Term.string RX2 (sIdx j)))).before #[Value.ref b] s = true ∨ (Cond.not (Cond.eq (Term.string RX2 (sIdx j)) (Term.string RX2 (sIdx i)))).before #[Value.ref b] s = true := by
  intro i j hi hj hne
  match i, hi with
  | 0, _ =>
    match j, hj with
    | 0, _ => exact absurd rfl hne
    | 1, _ => exact Or.inl (hf _ (by decide +kernel))
    | 2, _ => exact Or.inl (hf _ (by decide +kernel))
    | 3, _ => exact Or.inl (hf _ (by decide +kernel))
    | 4, _ => exact Or.inl (hf _ (by decide +kernel))
    | 5, _ => exact Or.inl (hf _ (by decide +kernel))
    | k + 6, h => exact absurd h (by omega)
  | 1, _ =>
    match j, hj with
    | 0, _ => exact Or.inr (hf _ (by decide +kernel))
    | 1, _ => exact absurd rfl hne
    | 2, _ => exact Or.inl (hf _ (by decide +kernel))
    | 3, _ => exact Or.inl (hf _ (by decide +kernel))
    | 4, _ => exact Or.inl (hf _ (by decide +kernel))
    | 5, _ => exact Or.inl (hf _ (by decide +kernel))
    | k + 6, h => exact absurd h (by omega)
  | 2, _ =>
    match j, hj with
    | 0, _ => exact Or.inr (hf _ (by decide +kernel))
    | 1, _ => exact Or.inr (hf _ (by decide +kernel))
    | 2, _ => exact absurd rfl hne
    | 3, _ => exact Or.inl (hf _ (by decide +kernel))
    | 4, _ => exact Or.inl (hf _ (by decide +kernel))
    | 5, _ => exact Or.inl (hf _ (by decide +kernel))
    | k + 6, h => exact absurd h (by omega)
  | 3, _ =>
    match j, hj with
    | 0, _ => exact Or.inr (hf _ (by decide +kernel))
    | 1, _ => exact Or.inr (hf _ (by decide +kernel))
    | 2, _ => exact Or.inr (hf _ (by decide +kernel))
    | 3, _ => exact absurd rfl hne
    | 4, _ => exact Or.inl (hf _ (by decide +kernel))
    | 5, _ => exact Or.inl (hf _ (by decide +kernel))
    | k + 6, h => exact absurd h (by omega)
  | 4, _ =>
    match j, hj with
    | 0, _ => exact Or.inr (hf _ (by decide +kernel))
    | 1, _ => exact Or.inr (hf _ (by decide +kernel))
    | 2, _ => exact Or.inr (hf _ (by decide +kernel))
    | 3, _ => exact Or.inr (hf _ (by decide +kernel))
    | 4, _ => exact absurd rfl hne
    | 5, _ => exact Or.inl (hf _ (by decide +kernel))
    | k + 6, h => exact absurd h (by omega)
  | 5, _ =>
    match j, hj with
    | 0, _ => exact Or.inr (hf _ (by decide +kernel))
    | 1, _ => exact Or.inr (hf _ (by decide +kernel))
    | 2, _ => exact Or.inr (hf _ (by decide +kernel))
    | 3, _ => exact Or.inr (hf _ (by decide +kernel))
    | 4, _ => exact Or.inr (hf _ (by decide +kernel))
    | 5, _ => exact absurd rfl hne
    | k + 6, h => exact absurd h (by omega)
  | k + 6, h => exact absurd h (by omega)
set_option maxRecDepth 100000 in
set_option maxHeartbeats 4000000 in
theorem whole_open {I : EW → MW → Prop} (hall : AllEq I) (hI0 : I iEW iMW) {p : Program} {e : Env} {s : State} {m : MethodId} {below : List Frame} {meth : Method} {c : Code} (l : Launch) {b L : Nat} {xs : Nat → Int32} (hL : L ≤ 2560) (C0 : lw_At p s m meth c b L xs) : W p l e room_1 s m #[Value.ref b] below meth c s.heap [] 0 0 (lw_Z below #[Value.ref b] s) (entryFrame m ([Value.ref b] : List Value).toArray 4) := by
  obtain ⟨hx, hb, hr, hml, hown, hts0, hX, hbl, hlocks, hgv⟩ := id C0
  have hts : ∀ w ∈ GT, w.before #[Value.ref b] s = true := fun w h => hts0 w (GT_lw w h)
  have hf := flat_of_before _ hgv
  have hAn : ∀ a : Nat, a < s.heap.size → ¬ (fun q : Nat => s.heap.size ≤ q) a := fun a h => Nat.not_le.mpr h
  obtain ⟨c0, iS0, hKn0⟩ := u_known (C := RX1) (T := TX1) (N := 9) (n := 9) hts uw_X1 (hts _ wd_32)
  obtain ⟨c1, iS1, hKn1⟩ := u_known (C := RX2) (T := TX2) (N := 3) (n := 3) hts uw_X2 (hts _ wd_136)
  obtain ⟨c2, iS2, hKn2⟩ := u_known (C := RX3) (T := TX3) (N := 4) (n := 4) hts uw_X3 (hts _ wd_89)
  obtain ⟨c3, iS3, hKn3⟩ := u_known (C := RX4) (T := TX4) (N := 7) (n := 7) hts uw_X4 (hts _ wd_26)
  obtain ⟨c4, iS4, hKn4⟩ := u_known (C := RX5) (T := TX5) (N := 9) (n := 9) hts uw_X5 (hts _ wd_18)
  obtain ⟨c5, iS5, hKn5⟩ := u_known (C := RX6) (T := TX6) (N := 14) (n := 14) hts uw_X6 (hts _ wd_865)
  obtain ⟨dC, dI, hKc⟩ : ∃ (dC : Nat → ClassId) (dI : Nat → Nat → Nat), ∀ (k : Nat) (q : vw_C), vwCl[k]? = some q → u_Kn s q.1 q.2.1 q.2.2 (dC k) (dI k) := by
    refine ⟨fun k => [c0, c1, c2, c3, c4, c5].getD k c0, fun k => [iS0, iS1, iS2, iS3, iS4, iS5].getD k iS0, ?_⟩
    intro k q hq
    match k, hq with
    | 0, hq => cases hq; exact hKn0
    | 1, hq => cases hq; exact hKn1
    | 2, hq => cases hq; exact hKn2
    | 3, hq => cases hq; exact hKn3
    | 4, hq => cases hq; exact hKn4
    | 5, hq => cases hq; exact hKn5
    | k + 6, hq => simp [vwCl] at hq
  obtain ⟨cI, kA, comp, hfind, hk, hkind⟩ := Cond.arrayClass_spec (hts _ wd_87)
  obtain ⟨ad, av, hvS, hev⟩ := vk_Sof (N := 6) (tm := fun i => Term.string RX2 (sIdx i)) (len := sLen) (byt := sByt) (A := fun q : Nat => s.heap.size ≤ q) (by decide) (tx_ex hf) (tx_co hf) (tx_ar hf) (tx_le hf) (tx_el hf) (tx_ne hf) hAn
  have hK : va_K (dC, dI) vwCl [(cI, .int)] s := by
    refine ⟨hKc, fun k q hk9 => ?_⟩
    match k, hk9 with
    | 0, hk9 => cases hk9; exact ⟨fun n z => ⟨fun k h => (by cases h), kA, hk, comp, hkind⟩, hfind⟩
    | k + 1, hk9 => simp at hk9
  have hNW : NW s := by
    intro w hw
    refine va_Nw.of (NW_tab w hw) (A := #[Value.ref b]) (hts0 w ?_)
    simp only [NWl, List.mem_cons, List.not_mem_nil, or_false] at hw
    rcases hw with rfl | rfl | rfl | rfl | rfl | rfl | rfl | rfl
    · exact wn_27
    · exact wn_33
    · exact wn_90
    · exact wn_134
    · exact wn_137
    · exact wn_399
    · exact wn_518
    · exact wn_553
  have hSX : SX true ad av (fun q : Nat => s.heap.size ≤ q) s s.heap := by
    intro _
    refine ⟨hvS, va_Zof (hts0 _ ls_C) (hts _ wd_7) (va_eqi (hf _ (by decide +kernel))) hAn, va_Zqof (hts0 _ ls_F) (hts _ wd_9) (hf _ (by decide +kernel)) hAn, fun i hi => ?_⟩
    match i, hi with
    | 0, h => exact vk_R.of (hts0 _ wn_209) (hev 0 h)
    | 1, h => exact vk_R.of (hts0 _ wn_210) (hev 1 h)
    | 2, h => exact vk_R.of (hts0 _ wn_211) (hev 2 h)
    | 3, h => exact vk_R.of (hts0 _ wn_212) (hev 3 h)
    | 4, h => exact vk_R.of (hts0 _ wn_213) (hev 4 h)
    | 5, h => exact vk_R.of (hts0 _ wn_269) (hev 5 h)
    | k + 6, h => exact absurd h (by omega)
  have F : Fx p s m #[Value.ref b] meth c code 4 RL ((dC, dI), cI, ad, av) true (fun q : Nat => s.heap.size ≤ q) := ⟨hx, hb, hml, hown, hts, hK, hNW, hlocks, fun _ h => h, hSX⟩
  generalize hG : (((dC, dI), cI, ad, av) : EnT) = G at F
  have hW : Wd G (fun q : Nat => s.heap.size ≤ q) s [] s.heap [] := ⟨fun k q h => by simp at h, ⟨fun i j p q h => by simp at h, fun k q h => by simp at h⟩, va_S.rf⟩
  have hl := lv_entry ([.ref b]) (n := 4) (Nat.le_of_ble_eq_true rfl)
  rw [lg_entry_eq]
  generalize (lg_sl ([.ref b]) ++ List.replicate (4 - (lg_sl ([.ref b])).length) Slot.unset).toArray = ls at hl ⊢
  have hl : lv_has ls 4 [(0, .ref b)] := hl
  refine x_newo (ci := 4) (C := RX5) (T := TX5) (N := 9) F hW rfl uw_X5 tyX5_ok df_X5 wd_17 wd_18 wd_1 (Nat.le_of_ble_eq_true rfl) (Nat.le_of_ble_eq_true rfl) dL_law_0 (fun n0 H hW => ?_)
  refine lv_dup hx hb dL_law_3 rfl ?_
  refine x_ctorI F hW (c_X5_init l G _) ci_L_9 hl (Nat.le_of_ble_eq_true rfl) ⟨Nat.le_of_ble_eq_true rfl, Nat.le_of_ble_eq_true rfl⟩ ⟨Nat.le_of_ble_eq_true rfl, Nat.le_of_ble_eq_true rfl⟩ dL_law_4 (fun q H locs h0 hV => ?_)
  clear hW; subst h0
  have hW : Wd G (fun q : Nat => s.heap.size ≤ q) s (cEW G q iEW) H _ := hV
  refine lv_astore_n (lv' := [(1, .ref (q 0)), (0, .ref b)]) hx hb dL_law_7 rfl hl (by decide) rfl (fun ls hl => ?_)
  refine x_newo (ci := 5) (C := RX6) (T := TX6) (N := 14) F hW rfl uw_X6 tyX6_ok df_X6 wd_864 wd_865 wd_6 (Nat.le_of_ble_eq_true rfl) (Nat.le_of_ble_eq_true rfl) dL_law_8 (fun n0 H hW => ?_)
  refine lv_dup hx hb dL_law_11 rfl ?_
  refine x_ctorI F hW (c_X6_init l G _) ci_L_12 hl (Nat.le_of_ble_eq_true rfl) ⟨Nat.le_of_ble_eq_true rfl, Nat.le_of_ble_eq_true rfl⟩ ⟨Nat.le_of_ble_eq_true rfl, Nat.le_of_ble_eq_true rfl⟩ dL_law_12 (fun q2 H locs h0 hV => ?_)
  clear hW; subst h0
  have hW : Wd G (fun q : Nat => s.heap.size ≤ q) s (cEW G q iEW ++ cMW G q2 iMW) H _ := hV
  refine lv_astore_n (lv' := [(2, .ref (q2 0)), (1, .ref (q 0)), (0, .ref b)]) hx hb dL_law_15 rfl hl (by decide) rfl (fun ls hl => ?_)
  refine lv_iconst (v := nI 0) hx hb dL_law_16 (by decide) ?_
  refine lv_istore_n (lv' := [(3, .int (nI 0)), (2, .ref (q2 0)), (1, .ref (q 0)), (0, .ref b)]) hx hb dL_law_17 rfl hl (by decide) rfl (fun ls hl => ?_)
  refine W.widen (k := 49) (n := 865) (Nat.le_of_ble_eq_true rfl) (Nat.le_of_ble_eq_true rfl) ?_
  exact law_loop hL C0 F hall (L + 1) 0 (Nat.zero_le L) (by omega) iEW iMW hI0 q q2 _ _ hW ls hl
