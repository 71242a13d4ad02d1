def f_X6_brings_82 (k2 : Int32 → MW → Option (MW)) (v3_69 : Int32) (p_4 : Int32) : Nat → Int32 → MW → Option (MW)
  | 0, _, _ => none
  | n3 + 1, v4_82, w_82 =>
    if inR (0 : Int32) 71 then
    if (w_82.1 (0 : Int32).toNatClampNeg) ≤ v4_82 then
    k2 (v3_69 + (1 : Int32)) w_82
    else
    Option.bind (f_X6_has p_4 v3_69) fun p_95 =>
    if p_95 = 0 then
    f_X6_brings_82 k2 v3_69 p_4 n3 (v4_82 + (1 : Int32)) w_82
    else
    Option.bind (f_X6_has p_4 v4_82) fun p_104 =>
    if p_104 = 0 then
    f_X6_brings_82 k2 v3_69 p_4 n3 (v4_82 + (1 : Int32)) w_82
    else
    if v3_69 = v4_82 then
    f_X6_brings_82 k2 v3_69 p_4 n3 (v4_82 + (1 : Int32)) w_82
    else
    Option.bind (f_X6_doesSee w_82.1 v3_69 v4_82) fun p_123 =>
    if p_123 = 0 then
    f_X6_brings_82 k2 v3_69 p_4 n3 (v4_82 + (1 : Int32)) w_82
    else
    if inR v3_69 7 then
    if inR v4_82 7 then
    Option.bind (f_X6_least (w_82.2.2.2.2.2.2.2.2.1 v3_69.toNatClampNeg) ((w_82.2.2.2.2.2.2.2.2.1 v4_82.toNatClampNeg) + (1 : Int32))) fun p_149 =>
    if inR v3_69 7 then
    f_X6_brings_82 k2 v3_69 p_4 n3 (v4_82 + (1 : Int32)) (w_82.1, w_82.2.1, w_82.2.2.1, w_82.2.2.2.1, w_82.2.2.2.2.1, w_82.2.2.2.2.2.1, w_82.2.2.2.2.2.2.1, w_82.2.2.2.2.2.2.2.1, (upd w_82.2.2.2.2.2.2.2.2.1 v3_69.toNatClampNeg p_149), w_82.2.2.2.2.2.2.2.2.2.1, w_82.2.2.2.2.2.2.2.2.2.2.1, w_82.2.2.2.2.2.2.2.2.2.2.2.1, w_82.2.2.2.2.2.2.2.2.2.2.2.2.1, w_82.2.2.2.2.2.2.2.2.2.2.2.2.2)
    else none
    else none
    else none
    else none
def f_X6_brings_69 (k1 : Int32 → MW → Option (MW)) (v2_61 : Int32) (p_4 : Int32) : Nat → Int32 → MW → Option (MW)
  | 0, _, _ => none
  | n2 + 1, v3_69, w_69 =>
    if inR (0 : Int32) 71 then
    if (w_69.1 (0 : Int32).toNatClampNeg) ≤ v3_69 then
    k1 (v2_61 + (1 : Int32)) w_69
    else
    f_X6_brings_82 (fun a0 a1 => f_X6_brings_69 k1 v2_61 p_4 n2 a0 a1) v3_69 p_4 200 (0 : Int32) w_69
    else none
def f_X6_brings_61 (p_4 : Int32) : Nat → Int32 → MW → Option (MW)
  | 0, _, _ => none
  | n1 + 1, v2_61, w_61 =>
    if (7 : Int32) ≤ v2_61 then
    some w_61
    else
    f_X6_brings_69 (fun a0 a1 => f_X6_brings_61 p_4 n1 a0 a1) v2_61 p_4 200 (0 : Int32) w_61
def f_X6_brings_10 (p_4 : Int32) : Nat → Int32 → MW → Option (MW)
  | 0, _, _ => none
  | n0 + 1, v2_10, w_10 =>
    if inR (0 : Int32) 71 then
    if (w_10.1 (0 : Int32).toNatClampNeg) ≤ v2_10 then
    f_X6_brings_61 p_4 200 (0 : Int32) w_10
    else
    Option.bind (f_X6_has p_4 v2_10) fun p_27 =>
    if p_27 = 0 then
    if inR v2_10 7 then
    f_X6_brings_10 p_4 n0 (v2_10 + (1 : Int32)) (w_10.1, w_10.2.1, w_10.2.2.1, w_10.2.2.2.1, w_10.2.2.2.2.1, w_10.2.2.2.2.2.1, w_10.2.2.2.2.2.2.1, w_10.2.2.2.2.2.2.2.1, (upd w_10.2.2.2.2.2.2.2.2.1 v2_10.toNatClampNeg (1000000000 : Int32)), w_10.2.2.2.2.2.2.2.2.2.1, w_10.2.2.2.2.2.2.2.2.2.2.1, w_10.2.2.2.2.2.2.2.2.2.2.2.1, w_10.2.2.2.2.2.2.2.2.2.2.2.2.1, w_10.2.2.2.2.2.2.2.2.2.2.2.2.2)
    else none
    else
    Option.bind (f_X6_doesSee w_10.1 v2_10 (99 : Int32)) fun p_40 =>
    if p_40 = 0 then
    if inR v2_10 7 then
    f_X6_brings_10 p_4 n0 (v2_10 + (1 : Int32)) (w_10.1, w_10.2.1, w_10.2.2.1, w_10.2.2.2.1, w_10.2.2.2.2.1, w_10.2.2.2.2.2.1, w_10.2.2.2.2.2.2.1, w_10.2.2.2.2.2.2.2.1, (upd w_10.2.2.2.2.2.2.2.2.1 v2_10.toNatClampNeg (1000000000 : Int32)), w_10.2.2.2.2.2.2.2.2.2.1, w_10.2.2.2.2.2.2.2.2.2.2.1, w_10.2.2.2.2.2.2.2.2.2.2.2.1, w_10.2.2.2.2.2.2.2.2.2.2.2.2.1, w_10.2.2.2.2.2.2.2.2.2.2.2.2.2)
    else none
    else
    if inR v2_10 7 then
    f_X6_brings_10 p_4 n0 (v2_10 + (1 : Int32)) (w_10.1, w_10.2.1, w_10.2.2.1, w_10.2.2.2.1, w_10.2.2.2.2.1, w_10.2.2.2.2.2.1, w_10.2.2.2.2.2.2.1, w_10.2.2.2.2.2.2.2.1, (upd w_10.2.2.2.2.2.2.2.2.1 v2_10.toNatClampNeg (1 : Int32)), w_10.2.2.2.2.2.2.2.2.2.1, w_10.2.2.2.2.2.2.2.2.2.2.1, w_10.2.2.2.2.2.2.2.2.2.2.2.1, w_10.2.2.2.2.2.2.2.2.2.2.2.2.1, w_10.2.2.2.2.2.2.2.2.2.2.2.2.2)
    else none
    else none
def f_X6_brings (w : MW) : Option (MW) :=
  Option.bind (f_X6_hangIn w.1) fun p_4 =>
    f_X6_brings_10 p_4 200 (0 : Int32) w
abbrev rmX6_brings : Room := { frames := 5, cells := 0, slots := 0, locals := 115 }
set_option maxRecDepth 100000 in
set_option maxHeartbeats 4000000 in
theorem c_X6_brings (l : Launch) (G : EnT) (q : Nat → Nat) (w : MW) (o : MW) (h : f_X6_brings w = some o) : Mv l yX6_brings rmX6_brings cX6_brings 5 none G false [.ref (q 0)] (cMW G q w) (cMW G q o) := by
  refine Mv_of (by decide) (Nat.le_of_ble_eq_true rfl) ?_
  intro p e s m below meth c A0 F hr hW ls hl
  obtain ⟨hx, hb, hml, hown, hts, hK, hNW, hlocks, hA, hSX⟩ := id F
  have hl : lv_has ls 5 [(0, .ref (q 0))] := hl
  have hW : Wd G A0 s (cMW G q w) s.heap [] := hW
  show W p l e rmX6_brings s m ([.ref (q 0)] : List Value).toArray below meth c s.heap [] 0 0 (Qv below G (cMW G q o) A0 ([.ref (q 0)] : List Value).toArray s) (F0 m 0 ls [])
  refine lv_aload_n hx hb dX6_brings_0 rfl (lv_at hl 0 rfl) ?_
  refine x_get F hW 0 rfl fa_X6_9 rfl dX6_brings_1 ?_
  obtain ⟨p_4, hc_4, h⟩ := of_bind h
  refine x_Si (av := [.ref (q 1)]) F hW (c_X6_hangIn l G (fun i => q (i + 1)) w.1 _ hc_4) [1] rfl rfl (by intro q; cases q) cs_X6_145 rfl rfl hl (Nat.le_of_ble_eq_true rfl) ⟨Nat.le_of_ble_eq_true rfl, Nat.le_of_ble_eq_true rfl⟩ ⟨rfl, rfl⟩ ⟨Nat.le_of_ble_eq_true rfl, Nat.le_of_ble_eq_true rfl⟩ dX6_brings_4 rfl [none, some 0, none, none, none, none, none, none, none, none] rfl (ws' := cMW G q w) rfl (fun H locs hW => ?_)
  refine lv_istore_n (lv' := [(1, .int p_4), (0, .ref (q 0))]) hx hb dX6_brings_7 rfl hl (by decide) rfl (fun ls hl => ?_)
  refine lv_iconst (v := (0 : Int32)) hx hb dX6_brings_8 (by decide) ?_
  refine lv_istore_n (lv' := [(2, .int (0 : Int32)), (1, .int p_4), (0, .ref (q 0))]) hx hb dX6_brings_9 rfl hl (by decide) rfl (fun ls hl => ?_)
  have L0 : ∀ (n0 : Nat) (v2_10 : Int32) (w_10 : MW) (H : Heap) (locs : List Loc) (ls : Array Slot), f_X6_brings_10 p_4 n0 v2_10 w_10 = some o → Wd G A0 s (cMW G q w_10) H locs → lv_has ls 5 [(2, .int v2_10), (1, .int p_4), (0, .ref (q 0))] → W p l e rmX6_brings s m ([.ref (q 0)] : List Value).toArray below meth c H locs 0 0 (Qv below G (cMW G q o) A0 ([.ref (q 0)] : List Value).toArray s) (F0 m 10 ls []) := by
    intro n0
    induction n0 with
    | zero => intro v2_10 w_10 H locs ls h; cases (show (none : Option (MW)) = some o from h)
    | succ n0 ih0 =>
      intro v2_10 w_10 H locs ls h hW hl
      refine lv_iload_n hx hb dX6_brings_10 rfl (lv_at hl 0 rfl) ?_
      refine lv_aload_n hx hb dX6_brings_11 rfl (lv_at hl 2 rfl) ?_
      refine x_get F hW 0 rfl fa_X6_9 rfl dX6_brings_12 ?_
      refine lv_iconst (v := (0 : Int32)) hx hb dX6_brings_15 (by decide) ?_
      obtain ⟨g_16, h⟩ := of_guard h
      refine x_iald F hW 1 rfl g_16 dX6_brings_16 ?_
      obtain ⟨ht_17, hf_17⟩ := of_ite h
      refine lv_icmp_ge (tgt := 59) hx hb dX6_brings_17 (by decide) (fun c_17 => ?_) (fun c_17 => ?_)
      · have h := ht_17 c_17
        refine lv_iconst (v := (0 : Int32)) hx hb dX6_brings_59 (by decide) ?_
        refine lv_istore_n (lv' := [(2, .int (0 : Int32)), (1, .int p_4), (0, .ref (q 0))]) hx hb dX6_brings_60 rfl hl (by decide) rfl (fun ls hl => ?_)
        have L1 : ∀ (n1 : Nat) (v2_61 : Int32) (w_61 : MW) (H : Heap) (locs : List Loc) (ls : Array Slot), f_X6_brings_61 p_4 n1 v2_61 w_61 = some o → Wd G A0 s (cMW G q w_61) H locs → lv_has ls 5 [(2, .int v2_61), (1, .int p_4), (0, .ref (q 0))] → W p l e rmX6_brings s m ([.ref (q 0)] : List Value).toArray below meth c H locs 0 0 (Qv below G (cMW G q o) A0 ([.ref (q 0)] : List Value).toArray s) (F0 m 61 ls []) := by
          intro n1
          induction n1 with
          | zero => intro v2_61 w_61 H locs ls h; cases (show (none : Option (MW)) = some o from h)
          | succ n1 ih1 =>
            intro v2_61 w_61 H locs ls h hW hl
            refine lv_iload_n hx hb dX6_brings_61 rfl (lv_at hl 0 rfl) ?_
            refine lv_bipush (v := (7 : Int32)) hx hb dX6_brings_62 (by decide) ?_
            obtain ⟨ht_64, hf_64⟩ := of_ite h
            refine lv_icmp_ge (tgt := 171) hx hb dX6_brings_64 (by decide) (fun c_64 => ?_) (fun c_64 => ?_)
            · have h := ht_64 c_64
              obtain rfl := Option.some.inj h
              exact x_retv F hr hW dX6_brings_171
            · have h := hf_64 c_64
              refine lv_iconst (v := (0 : Int32)) hx hb dX6_brings_67 (by decide) ?_
              refine lv_istore_n (lv' := [(3, .int (0 : Int32)), (2, .int v2_61), (1, .int p_4), (0, .ref (q 0))]) hx hb dX6_brings_68 rfl hl (by decide) rfl (fun ls hl => ?_)
              have L2 : ∀ (n2 : Nat) (v3_69 : Int32) (w_69 : MW) (H : Heap) (locs : List Loc) (ls : Array Slot), f_X6_brings_69 (fun a0 a1 => f_X6_brings_61 p_4 n1 a0 a1) v2_61 p_4 n2 v3_69 w_69 = some o → Wd G A0 s (cMW G q w_69) H locs → lv_has ls 5 [(3, .int v3_69), (2, .int v2_61), (1, .int p_4), (0, .ref (q 0))] → W p l e rmX6_brings s m ([.ref (q 0)] : List Value).toArray below meth c H locs 0 0 (Qv below G (cMW G q o) A0 ([.ref (q 0)] : List Value).toArray s) (F0 m 69 ls []) := by
                intro n2
                induction n2 with
                | zero => intro v3_69 w_69 H locs ls h; cases (show (none : Option (MW)) = some o from h)
                | succ n2 ih2 =>
                  intro v3_69 w_69 H locs ls h hW hl
                  refine lv_iload_n hx hb dX6_brings_69 rfl (lv_at hl 0 rfl) ?_
                  refine lv_aload_n hx hb dX6_brings_70 rfl (lv_at hl 3 rfl) ?_
                  refine x_get F hW 0 rfl fa_X6_9 rfl dX6_brings_71 ?_
                  refine lv_iconst (v := (0 : Int32)) hx hb dX6_brings_74 (by decide) ?_
                  obtain ⟨g_75, h⟩ := of_guard h
                  refine x_iald F hW 1 rfl g_75 dX6_brings_75 ?_
                  obtain ⟨ht_76, hf_76⟩ := of_ite h
                  refine lv_icmp_ge (tgt := 165) hx hb dX6_brings_76 (by decide) (fun c_76 => ?_) (fun c_76 => ?_)
                  · have h := ht_76 c_76
                    refine lv_iinc (v := (v2_61 + (1 : Int32))) (lv' := [(2, .int (v2_61 + (1 : Int32))), (3, .int v3_69), (1, .int p_4), (0, .ref (q 0))]) hx hb dX6_brings_165 hl (k := 1) rfl rfl (by decide) rfl (fun ls hl => ?_)
                    refine lv_goto (tgt := 61) hx hb dX6_brings_168 (by decide) ?_
                    exact ih1 (v2_61 + (1 : Int32)) w_69 _ _ _ h hW (lv_sub hl [0, 2, 3] rfl)
                  · have h := hf_76 c_76
                    refine lv_iconst (v := (0 : Int32)) hx hb dX6_brings_79 (by decide) ?_
                    refine lv_istore (lv' := [(4, .int (0 : Int32)), (3, .int v3_69), (2, .int v2_61), (1, .int p_4), (0, .ref (q 0))]) hx hb dX6_brings_80 hl (by decide) rfl (fun ls hl => ?_)
                    have L3 : ∀ (n3 : Nat) (v4_82 : Int32) (w_82 : MW) (H : Heap) (locs : List Loc) (ls : Array Slot), f_X6_brings_82 (fun a0 a1 => f_X6_brings_69 (fun a0 a1 => f_X6_brings_61 p_4 n1 a0 a1) v2_61 p_4 n2 a0 a1) v3_69 p_4 n3 v4_82 w_82 = some o → Wd G A0 s (cMW G q w_82) H locs → lv_has ls 5 [(4, .int v4_82), (3, .int v3_69), (2, .int v2_61), (1, .int p_4), (0, .ref (q 0))] → W p l e rmX6_brings s m ([.ref (q 0)] : List Value).toArray below meth c H locs 0 0 (Qv below G (cMW G q o) A0 ([.ref (q 0)] : List Value).toArray s) (F0 m 82 ls []) := by
                      intro n3
                      induction n3 with
                      | zero => intro v4_82 w_82 H locs ls h; cases (show (none : Option (MW)) = some o from h)
                      | succ n3 ih3 =>
                        intro v4_82 w_82 H locs ls h hW hl
                        refine lv_iload hx hb dX6_brings_82 (lv_at hl 0 rfl) ?_
                        refine lv_aload_n hx hb dX6_brings_84 rfl (lv_at hl 4 rfl) ?_
                        refine x_get F hW 0 rfl fa_X6_9 rfl dX6_brings_85 ?_
                        refine lv_iconst (v := (0 : Int32)) hx hb dX6_brings_88 (by decide) ?_
                        obtain ⟨g_89, h⟩ := of_guard h
                        refine x_iald F hW 1 rfl g_89 dX6_brings_89 ?_
                        obtain ⟨ht_90, hf_90⟩ := of_ite h
                        refine lv_icmp_ge (tgt := 159) hx hb dX6_brings_90 (by decide) (fun c_90 => ?_) (fun c_90 => ?_)
                        · have h := ht_90 c_90
                          refine lv_iinc (v := (v3_69 + (1 : Int32))) (lv' := [(3, .int (v3_69 + (1 : Int32))), (4, .int v4_82), (2, .int v2_61), (1, .int p_4), (0, .ref (q 0))]) hx hb dX6_brings_159 hl (k := 1) rfl rfl (by decide) rfl (fun ls hl => ?_)
                          refine lv_goto (tgt := 69) hx hb dX6_brings_162 (by decide) ?_
                          exact ih2 (v3_69 + (1 : Int32)) w_82 _ _ _ h hW (lv_sub hl [0, 2, 3, 4] rfl)
                        · have h := hf_90 c_90
                          refine lv_iload_n hx hb dX6_brings_93 rfl (lv_at hl 3 rfl) ?_
                          refine lv_iload_n hx hb dX6_brings_94 rfl (lv_at hl 1 rfl) ?_
                          obtain ⟨p_95, hc_95, h⟩ := of_bind h
                          refine x_Si (av := [.int p_4, .int v3_69]) F hW (c_X6_has l G p_4 v3_69 _ hc_95) [] rfl rfl (by intro q; cases q) cs_X6_75 rfl rfl hl (Nat.le_of_ble_eq_true rfl) ⟨Nat.le_of_ble_eq_true rfl, Nat.le_of_ble_eq_true rfl⟩ ⟨rfl, rfl⟩ ⟨Nat.le_of_ble_eq_true rfl, Nat.le_of_ble_eq_true rfl⟩ dX6_brings_95 rfl [none, none, none, none, none, none, none, none, none, none] rfl (ws' := cMW G q w_82) rfl (fun H locs hW => ?_)
                          obtain ⟨ht_98, hf_98⟩ := of_ite h
                          refine lv_if_eq (tgt := 153) hx hb dX6_brings_98 (by decide) (fun c_98 => ?_) (fun c_98 => ?_)
                          · have h := ht_98 c_98
                            refine lv_iinc (v := (v4_82 + (1 : Int32))) (lv' := [(4, .int (v4_82 + (1 : Int32))), (3, .int v3_69), (2, .int v2_61), (1, .int p_4), (0, .ref (q 0))]) hx hb dX6_brings_153 hl (k := 0) rfl rfl (by decide) rfl (fun ls hl => ?_)
                            refine lv_goto (tgt := 82) hx hb dX6_brings_156 (by decide) ?_
                            exact ih3 (v4_82 + (1 : Int32)) w_82 _ _ _ h hW (lv_sub hl [0, 1, 2, 3, 4] rfl)
                          · have h := hf_98 c_98
                            refine lv_iload_n hx hb dX6_brings_101 rfl (lv_at hl 3 rfl) ?_
                            refine lv_iload hx hb dX6_brings_102 (lv_at hl 0 rfl) ?_
                            obtain ⟨p_104, hc_104, h⟩ := of_bind h
                            refine x_Si (av := [.int p_4, .int v4_82]) F hW (c_X6_has l G p_4 v4_82 _ hc_104) [] rfl rfl (by intro q; cases q) cs_X6_75 rfl rfl hl (Nat.le_of_ble_eq_true rfl) ⟨Nat.le_of_ble_eq_true rfl, Nat.le_of_ble_eq_true rfl⟩ ⟨rfl, rfl⟩ ⟨Nat.le_of_ble_eq_true rfl, Nat.le_of_ble_eq_true rfl⟩ dX6_brings_104 rfl [none, none, none, none, none, none, none, none, none, none] rfl (ws' := cMW G q w_82) rfl (fun H locs hW => ?_)
                            obtain ⟨ht_107, hf_107⟩ := of_ite h
                            refine lv_if_eq (tgt := 153) hx hb dX6_brings_107 (by decide) (fun c_107 => ?_) (fun c_107 => ?_)
                            · have h := ht_107 c_107
                              refine lv_iinc (v := (v4_82 + (1 : Int32))) (lv' := [(4, .int (v4_82 + (1 : Int32))), (3, .int v3_69), (2, .int v2_61), (1, .int p_4), (0, .ref (q 0))]) hx hb dX6_brings_153 hl (k := 0) rfl rfl (by decide) rfl (fun ls hl => ?_)
                              refine lv_goto (tgt := 82) hx hb dX6_brings_156 (by decide) ?_
                              exact ih3 (v4_82 + (1 : Int32)) w_82 _ _ _ h hW (lv_sub hl [0, 1, 2, 3, 4] rfl)
                            · have h := hf_107 c_107
                              refine lv_iload_n hx hb dX6_brings_110 rfl (lv_at hl 1 rfl) ?_
                              refine lv_iload hx hb dX6_brings_111 (lv_at hl 0 rfl) ?_
                              obtain ⟨ht_113, hf_113⟩ := of_ite h
                              refine lv_icmp_eq (tgt := 153) hx hb dX6_brings_113 (by decide) (fun c_113 => ?_) (fun c_113 => ?_)
                              · have h := ht_113 c_113
                                refine lv_iinc (v := (v4_82 + (1 : Int32))) (lv' := [(4, .int (v4_82 + (1 : Int32))), (3, .int v3_69), (2, .int v2_61), (1, .int p_4), (0, .ref (q 0))]) hx hb dX6_brings_153 hl (k := 0) rfl rfl (by decide) rfl (fun ls hl => ?_)
                                refine lv_goto (tgt := 82) hx hb dX6_brings_156 (by decide) ?_
                                exact ih3 (v4_82 + (1 : Int32)) w_82 _ _ _ h hW (lv_sub hl [0, 1, 2, 3, 4] rfl)
                              · have h := hf_113 c_113
                                refine lv_aload_n hx hb dX6_brings_116 rfl (lv_at hl 4 rfl) ?_
                                refine x_get F hW 0 rfl fa_X6_9 rfl dX6_brings_117 ?_
                                refine lv_iload_n hx hb dX6_brings_120 rfl (lv_at hl 1 rfl) ?_
                                refine lv_iload hx hb dX6_brings_121 (lv_at hl 0 rfl) ?_
                                obtain ⟨p_123, hc_123, h⟩ := of_bind h
                                refine x_Si (av := [.ref (q 1), .int v3_69, .int v4_82]) F hW (c_X6_doesSee l G (fun i => q (i + 1)) w_82.1 v3_69 v4_82 _ hc_123) [1] rfl rfl (by intro q; cases q) cs_X6_79 rfl rfl hl (Nat.le_of_ble_eq_true rfl) ⟨Nat.le_of_ble_eq_true rfl, Nat.le_of_ble_eq_true rfl⟩ ⟨rfl, rfl⟩ ⟨Nat.le_of_ble_eq_true rfl, Nat.le_of_ble_eq_true rfl⟩ dX6_brings_123 rfl [none, some 0, none, none, none, none, none, none, none, none] rfl (ws' := cMW G q w_82) rfl (fun H locs hW => ?_)
                                obtain ⟨ht_126, hf_126⟩ := of_ite h
                                refine lv_if_eq (tgt := 153) hx hb dX6_brings_126 (by decide) (fun c_126 => ?_) (fun c_126 => ?_)
                                · have h := ht_126 c_126
                                  refine lv_iinc (v := (v4_82 + (1 : Int32))) (lv' := [(4, .int (v4_82 + (1 : Int32))), (3, .int v3_69), (2, .int v2_61), (1, .int p_4), (0, .ref (q 0))]) hx hb dX6_brings_153 hl (k := 0) rfl rfl (by decide) rfl (fun ls hl => ?_)
                                  refine lv_goto (tgt := 82) hx hb dX6_brings_156 (by decide) ?_
                                  exact ih3 (v4_82 + (1 : Int32)) w_82 _ _ _ h hW (lv_sub hl [0, 1, 2, 3, 4] rfl)
                                · have h := hf_126 c_126
                                  refine lv_aload_n hx hb dX6_brings_129 rfl (lv_at hl 4 rfl) ?_
                                  refine x_get F hW 0 rfl fa_X6_34 rfl dX6_brings_130 ?_
                                  refine lv_iload_n hx hb dX6_brings_133 rfl (lv_at hl 1 rfl) ?_
                                  refine lv_aload_n hx hb dX6_brings_134 rfl (lv_at hl 4 rfl) ?_
                                  refine x_get F hW 0 rfl fa_X6_34 rfl dX6_brings_135 ?_
                                  refine lv_iload_n hx hb dX6_brings_138 rfl (lv_at hl 1 rfl) ?_
                                  obtain ⟨g_139, h⟩ := of_guard h
                                  refine x_iald F hW 9 rfl g_139 dX6_brings_139 ?_
                                  refine lv_aload_n hx hb dX6_brings_140 rfl (lv_at hl 4 rfl) ?_
                                  refine x_get F hW 0 rfl fa_X6_34 rfl dX6_brings_141 ?_
                                  refine lv_iload hx hb dX6_brings_144 (lv_at hl 0 rfl) ?_
                                  obtain ⟨g_146, h⟩ := of_guard h
                                  refine x_iald F hW 9 rfl g_146 dX6_brings_146 ?_
                                  refine lv_iconst (v := (1 : Int32)) hx hb dX6_brings_147 (by decide) ?_
                                  refine lv_iadd hx hb dX6_brings_148 ?_
                                  obtain ⟨p_149, hc_149, h⟩ := of_bind h
                                  refine x_Si (av := [.int (w_82.2.2.2.2.2.2.2.2.1 v3_69.toNatClampNeg), .int ((w_82.2.2.2.2.2.2.2.2.1 v4_82.toNatClampNeg) + (1 : Int32))]) F hW (c_X6_least l G (w_82.2.2.2.2.2.2.2.2.1 v3_69.toNatClampNeg) ((w_82.2.2.2.2.2.2.2.2.1 v4_82.toNatClampNeg) + (1 : Int32)) _ hc_149) [] rfl rfl (by intro q; cases q) cs_X6_125 rfl rfl hl (Nat.le_of_ble_eq_true rfl) ⟨Nat.le_of_ble_eq_true rfl, Nat.le_of_ble_eq_true rfl⟩ ⟨rfl, rfl⟩ ⟨Nat.le_of_ble_eq_true rfl, Nat.le_of_ble_eq_true rfl⟩ dX6_brings_149 rfl [none, none, none, none, none, none, none, none, none, none] rfl (ws' := cMW G q w_82) rfl (fun H locs hW => ?_)
                                  obtain ⟨g_152, h⟩ := of_guard h
                                  refine x_iast F hW 9 rfl g_152 (ws' := cMW G q (w_82.1, w_82.2.1, w_82.2.2.1, w_82.2.2.2.1, w_82.2.2.2.2.1, w_82.2.2.2.2.2.1, w_82.2.2.2.2.2.2.1, w_82.2.2.2.2.2.2.2.1, (upd w_82.2.2.2.2.2.2.2.2.1 v3_69.toNatClampNeg p_149), w_82.2.2.2.2.2.2.2.2.2.1, w_82.2.2.2.2.2.2.2.2.2.2.1, w_82.2.2.2.2.2.2.2.2.2.2.2.1, w_82.2.2.2.2.2.2.2.2.2.2.2.2.1, w_82.2.2.2.2.2.2.2.2.2.2.2.2.2)) rfl dX6_brings_152 (fun H locs hW => ?_)
                                  refine lv_iinc (v := (v4_82 + (1 : Int32))) (lv' := [(4, .int (v4_82 + (1 : Int32))), (3, .int v3_69), (2, .int v2_61), (1, .int p_4), (0, .ref (q 0))]) hx hb dX6_brings_153 hl (k := 0) rfl rfl (by decide) rfl (fun ls hl => ?_)
                                  refine lv_goto (tgt := 82) hx hb dX6_brings_156 (by decide) ?_
                                  exact ih3 (v4_82 + (1 : Int32)) (w_82.1, w_82.2.1, w_82.2.2.1, w_82.2.2.2.1, w_82.2.2.2.2.1, w_82.2.2.2.2.2.1, w_82.2.2.2.2.2.2.1, w_82.2.2.2.2.2.2.2.1, (upd w_82.2.2.2.2.2.2.2.2.1 v3_69.toNatClampNeg p_149), w_82.2.2.2.2.2.2.2.2.2.1, w_82.2.2.2.2.2.2.2.2.2.2.1, w_82.2.2.2.2.2.2.2.2.2.2.2.1, w_82.2.2.2.2.2.2.2.2.2.2.2.2.1, w_82.2.2.2.2.2.2.2.2.2.2.2.2.2) _ _ _ h hW (lv_sub hl [0, 1, 2, 3, 4] rfl)
                    exact L3 200 (0 : Int32) w_69 _ _ _ h hW (lv_sub hl [0, 1, 2, 3, 4] rfl)
              exact L2 200 (0 : Int32) w_61 _ _ _ h hW (lv_sub hl [0, 1, 2, 3] rfl)
        exact L1 200 (0 : Int32) w_10 _ _ _ h hW (lv_sub hl [0, 1, 2] rfl)
      · have h := hf_17 c_17
        refine lv_aload_n hx hb dX6_brings_20 rfl (lv_at hl 2 rfl) ?_
        refine x_get F hW 0 rfl fa_X6_34 rfl dX6_brings_21 ?_
        refine lv_iload_n hx hb dX6_brings_24 rfl (lv_at hl 0 rfl) ?_
        refine lv_iload_n hx hb dX6_brings_25 rfl (lv_at hl 1 rfl) ?_
        refine lv_iload_n hx hb dX6_brings_26 rfl (lv_at hl 0 rfl) ?_
        obtain ⟨p_27, hc_27, h⟩ := of_bind h
        refine x_Si (av := [.int p_4, .int v2_10]) F hW (c_X6_has l G p_4 v2_10 _ hc_27) [] rfl rfl (by intro q; cases q) cs_X6_75 rfl rfl hl (Nat.le_of_ble_eq_true rfl) ⟨Nat.le_of_ble_eq_true rfl, Nat.le_of_ble_eq_true rfl⟩ ⟨rfl, rfl⟩ ⟨Nat.le_of_ble_eq_true rfl, Nat.le_of_ble_eq_true rfl⟩ dX6_brings_27 rfl [none, none, none, none, none, none, none, none, none, none] rfl (ws' := cMW G q w_10) rfl (fun H locs hW => ?_)
        obtain ⟨ht_30, hf_30⟩ := of_ite h
        refine lv_if_eq (tgt := 50) hx hb dX6_brings_30 (by decide) (fun c_30 => ?_) (fun c_30 => ?_)
        · have h := ht_30 c_30
          refine lv_ldc (v := (1000000000 : Int32)) hx hb hown (hts _ wd_1086) dX6_brings_50 ?_
          obtain ⟨g_52, h⟩ := of_guard h
          refine x_iast F hW 9 rfl g_52 (ws' := cMW G q (w_10.1, w_10.2.1, w_10.2.2.1, w_10.2.2.2.1, w_10.2.2.2.2.1, w_10.2.2.2.2.2.1, w_10.2.2.2.2.2.2.1, w_10.2.2.2.2.2.2.2.1, (upd w_10.2.2.2.2.2.2.2.2.1 v2_10.toNatClampNeg (1000000000 : Int32)), w_10.2.2.2.2.2.2.2.2.2.1, w_10.2.2.2.2.2.2.2.2.2.2.1, w_10.2.2.2.2.2.2.2.2.2.2.2.1, w_10.2.2.2.2.2.2.2.2.2.2.2.2.1, w_10.2.2.2.2.2.2.2.2.2.2.2.2.2)) rfl dX6_brings_52 (fun H locs hW => ?_)
          refine lv_iinc (v := (v2_10 + (1 : Int32))) (lv' := [(2, .int (v2_10 + (1 : Int32))), (1, .int p_4), (0, .ref (q 0))]) hx hb dX6_brings_53 hl (k := 0) rfl rfl (by decide) rfl (fun ls hl => ?_)
          refine lv_goto (tgt := 10) hx hb dX6_brings_56 (by decide) ?_
          exact ih0 (v2_10 + (1 : Int32)) (w_10.1, w_10.2.1, w_10.2.2.1, w_10.2.2.2.1, w_10.2.2.2.2.1, w_10.2.2.2.2.2.1, w_10.2.2.2.2.2.2.1, w_10.2.2.2.2.2.2.2.1, (upd w_10.2.2.2.2.2.2.2.2.1 v2_10.toNatClampNeg (1000000000 : Int32)), w_10.2.2.2.2.2.2.2.2.2.1, w_10.2.2.2.2.2.2.2.2.2.2.1, w_10.2.2.2.2.2.2.2.2.2.2.2.1, w_10.2.2.2.2.2.2.2.2.2.2.2.2.1, w_10.2.2.2.2.2.2.2.2.2.2.2.2.2) _ _ _ h hW (lv_sub hl [0, 1, 2] rfl)
        · have h := hf_30 c_30
          refine lv_aload_n hx hb dX6_brings_33 rfl (lv_at hl 2 rfl) ?_
          refine x_get F hW 0 rfl fa_X6_9 rfl dX6_brings_34 ?_
          refine lv_iload_n hx hb dX6_brings_37 rfl (lv_at hl 0 rfl) ?_
          refine lv_bipush (v := (99 : Int32)) hx hb dX6_brings_38 (by decide) ?_
          obtain ⟨p_40, hc_40, h⟩ := of_bind h
          refine x_Si (av := [.ref (q 1), .int v2_10, .int (99 : Int32)]) F hW (c_X6_doesSee l G (fun i => q (i + 1)) w_10.1 v2_10 (99 : Int32) _ hc_40) [1] rfl rfl (by intro q; cases q) cs_X6_79 rfl rfl hl (Nat.le_of_ble_eq_true rfl) ⟨Nat.le_of_ble_eq_true rfl, Nat.le_of_ble_eq_true rfl⟩ ⟨rfl, rfl⟩ ⟨Nat.le_of_ble_eq_true rfl, Nat.le_of_ble_eq_true rfl⟩ dX6_brings_40 rfl [none, some 0, none, none, none, none, none, none, none, none] rfl (ws' := cMW G q w_10) rfl (fun H locs hW => ?_)
          obtain ⟨ht_43, hf_43⟩ := of_ite h
          refine lv_if_eq (tgt := 50) hx hb dX6_brings_43 (by decide) (fun c_43 => ?_) (fun c_43 => ?_)
          · have h := ht_43 c_43
            refine lv_ldc (v := (1000000000 : Int32)) hx hb hown (hts _ wd_1086) dX6_brings_50 ?_
            obtain ⟨g_52, h⟩ := of_guard h
            refine x_iast F hW 9 rfl g_52 (ws' := cMW G q (w_10.1, w_10.2.1, w_10.2.2.1, w_10.2.2.2.1, w_10.2.2.2.2.1, w_10.2.2.2.2.2.1, w_10.2.2.2.2.2.2.1, w_10.2.2.2.2.2.2.2.1, (upd w_10.2.2.2.2.2.2.2.2.1 v2_10.toNatClampNeg (1000000000 : Int32)), w_10.2.2.2.2.2.2.2.2.2.1, w_10.2.2.2.2.2.2.2.2.2.2.1, w_10.2.2.2.2.2.2.2.2.2.2.2.1, w_10.2.2.2.2.2.2.2.2.2.2.2.2.1, w_10.2.2.2.2.2.2.2.2.2.2.2.2.2)) rfl dX6_brings_52 (fun H locs hW => ?_)
            refine lv_iinc (v := (v2_10 + (1 : Int32))) (lv' := [(2, .int (v2_10 + (1 : Int32))), (1, .int p_4), (0, .ref (q 0))]) hx hb dX6_brings_53 hl (k := 0) rfl rfl (by decide) rfl (fun ls hl => ?_)
            refine lv_goto (tgt := 10) hx hb dX6_brings_56 (by decide) ?_
            exact ih0 (v2_10 + (1 : Int32)) (w_10.1, w_10.2.1, w_10.2.2.1, w_10.2.2.2.1, w_10.2.2.2.2.1, w_10.2.2.2.2.2.1, w_10.2.2.2.2.2.2.1, w_10.2.2.2.2.2.2.2.1, (upd w_10.2.2.2.2.2.2.2.2.1 v2_10.toNatClampNeg (1000000000 : Int32)), w_10.2.2.2.2.2.2.2.2.2.1, w_10.2.2.2.2.2.2.2.2.2.2.1, w_10.2.2.2.2.2.2.2.2.2.2.2.1, w_10.2.2.2.2.2.2.2.2.2.2.2.2.1, w_10.2.2.2.2.2.2.2.2.2.2.2.2.2) _ _ _ h hW (lv_sub hl [0, 1, 2] rfl)
          · have h := hf_43 c_43
            refine lv_iconst (v := (1 : Int32)) hx hb dX6_brings_46 (by decide) ?_
            refine lv_goto (tgt := 52) hx hb dX6_brings_47 (by decide) ?_
            obtain ⟨g_52, h⟩ := of_guard h
            refine x_iast F hW 9 rfl g_52 (ws' := cMW G q (w_10.1, w_10.2.1, w_10.2.2.1, w_10.2.2.2.1, w_10.2.2.2.2.1, w_10.2.2.2.2.2.1, w_10.2.2.2.2.2.2.1, w_10.2.2.2.2.2.2.2.1, (upd w_10.2.2.2.2.2.2.2.2.1 v2_10.toNatClampNeg (1 : Int32)), w_10.2.2.2.2.2.2.2.2.2.1, w_10.2.2.2.2.2.2.2.2.2.2.1, w_10.2.2.2.2.2.2.2.2.2.2.2.1, w_10.2.2.2.2.2.2.2.2.2.2.2.2.1, w_10.2.2.2.2.2.2.2.2.2.2.2.2.2)) rfl dX6_brings_52 (fun H locs hW => ?_)
            refine lv_iinc (v := (v2_10 + (1 : Int32))) (lv' := [(2, .int (v2_10 + (1 : Int32))), (1, .int p_4), (0, .ref (q 0))]) hx hb dX6_brings_53 hl (k := 0) rfl rfl (by decide) rfl (fun ls hl => ?_)
            refine lv_goto (tgt := 10) hx hb dX6_brings_56 (by decide) ?_
            exact ih0 (v2_10 + (1 : Int32)) (w_10.1, w_10.2.1, w_10.2.2.1, w_10.2.2.2.1, w_10.2.2.2.2.1, w_10.2.2.2.2.2.1, w_10.2.2.2.2.2.2.1, w_10.2.2.2.2.2.2.2.1, (upd w_10.2.2.2.2.2.2.2.2.1 v2_10.toNatClampNeg (1 : Int32)), w_10.2.2.2.2.2.2.2.2.2.1, w_10.2.2.2.2.2.2.2.2.2.2.1, w_10.2.2.2.2.2.2.2.2.2.2.2.1, w_10.2.2.2.2.2.2.2.2.2.2.2.2.1, w_10.2.2.2.2.2.2.2.2.2.2.2.2.2) _ _ _ h hW (lv_sub hl [0, 1, 2] rfl)
  exact L0 200 (0 : Int32) w _ _ _ h hW (lv_sub hl [0, 1, 2] rfl)
def f_X6_nextOf_15 (w : MW) (x1 : Int32) : Nat → Int32 → Option (Int32)
  | 0, _ => none
  | n0 + 1, v2_15 =>
    if inR (0 : Int32) 71 then
    if (w.1 (0 : Int32).toNatClampNeg) ≤ v2_15 then
    some (-9 : Int32)
    else
    if v2_15 = x1 then
    f_X6_nextOf_15 w x1 n0 (v2_15 + (1 : Int32))
    else
    if inR v2_15 7 then
    if inR x1 7 then
    if (w.2.2.2.2.2.2.2.2.1 v2_15.toNatClampNeg) = ((w.2.2.2.2.2.2.2.2.1 x1.toNatClampNeg) - (1 : Int32)) then
    Option.bind (f_X6_doesSee w.1 x1 v2_15) fun p_53 =>
    if p_53 = 0 then
    f_X6_nextOf_15 w x1 n0 (v2_15 + (1 : Int32))
    else
    some v2_15
    else
    f_X6_nextOf_15 w x1 n0 (v2_15 + (1 : Int32))
    else none
    else none
    else none
def f_X6_nextOf (w : MW) (x1 : Int32) : Option (Int32) :=
  if inR x1 7 then
    if (w.2.2.2.2.2.2.2.2.1 x1.toNatClampNeg) = (1 : Int32) then
    some (7 : Int32)
    else
    f_X6_nextOf_15 w x1 200 (0 : Int32)
    else none
abbrev rmX6_nextOf : Room := { frames := 3, cells := 0, slots := 0, locals := 70 }
set_option maxRecDepth 100000 in
set_option maxHeartbeats 4000000 in
theorem c_X6_nextOf (l : Launch) (G : EnT) (q : Nat → Nat) (w : MW) (x1 : Int32) (o : Int32) (h : f_X6_nextOf w x1 = some o) : Mi l yX6_nextOf rmX6_nextOf cX6_nextOf 3 (some .int) G false [.ref (q 0), .int x1] (cMW G q w) o (cMW G q w) := by
  refine Mi_of (by decide) (Nat.le_of_ble_eq_true rfl) ?_
  intro p e s m below meth c A0 F hr hW ls hl
  obtain ⟨hx, hb, hml, hown, hts, hK, hNW, hlocks, hA, hSX⟩ := id F
  have hl : lv_has ls 3 [(0, .ref (q 0)), (1, .int x1)] := hl
  have hW : Wd G A0 s (cMW G q w) s.heap [] := hW
  show W p l e rmX6_nextOf s m ([.ref (q 0), .int x1] : List Value).toArray below meth c s.heap [] 0 0 (Qi below G (cMW G q w) o A0 ([.ref (q 0), .int x1] : List Value).toArray s) (F0 m 0 ls [])
  refine lv_aload_n hx hb dX6_nextOf_0 rfl (lv_at hl 0 rfl) ?_
  refine x_get F hW 0 rfl fa_X6_34 rfl dX6_nextOf_1 ?_
  refine lv_iload_n hx hb dX6_nextOf_4 rfl (lv_at hl 1 rfl) ?_
  obtain ⟨g_5, h⟩ := of_guard h
  refine x_iald F hW 9 rfl g_5 dX6_nextOf_5 ?_
  refine lv_iconst (v := (1 : Int32)) hx hb dX6_nextOf_6 (by decide) ?_
  obtain ⟨ht_7, hf_7⟩ := of_ite h
  refine lv_icmp_ne (tgt := 13) hx hb dX6_nextOf_7 (by decide) (fun c_7 => ?_) (fun c_7 => ?_)
  · have h := hf_7 c_7
    refine lv_iconst (v := (0 : Int32)) hx hb dX6_nextOf_13 (by decide) ?_
    refine lv_istore_n (lv' := [(2, .int (0 : Int32)), (0, .ref (q 0)), (1, .int x1)]) hx hb dX6_nextOf_14 rfl hl (by decide) rfl (fun ls hl => ?_)
    have L0 : ∀ (n0 : Nat) (v2_15 : Int32) (H : Heap) (locs : List Loc) (ls : Array Slot), f_X6_nextOf_15 w x1 n0 v2_15 = some o → Wd G A0 s (cMW G q w) H locs → lv_has ls 3 [(2, .int v2_15), (0, .ref (q 0)), (1, .int x1)] → W p l e rmX6_nextOf s m ([.ref (q 0), .int x1] : List Value).toArray below meth c H locs 0 0 (Qi below G (cMW G q w) o A0 ([.ref (q 0), .int x1] : List Value).toArray s) (F0 m 15 ls []) := by
      intro n0
      induction n0 with
      | zero => intro v2_15 H locs ls h; cases (show (none : Option (Int32)) = some o from h)
      | succ n0 ih0 =>
        intro v2_15 H locs ls h hW hl
        refine lv_iload_n hx hb dX6_nextOf_15 rfl (lv_at hl 0 rfl) ?_
        refine lv_aload_n hx hb dX6_nextOf_16 rfl (lv_at hl 1 rfl) ?_
        refine x_get F hW 0 rfl fa_X6_9 rfl dX6_nextOf_17 ?_
        refine lv_iconst (v := (0 : Int32)) hx hb dX6_nextOf_20 (by decide) ?_
        obtain ⟨g_21, h⟩ := of_guard h
        refine x_iald F hW 1 rfl g_21 dX6_nextOf_21 ?_
        obtain ⟨ht_22, hf_22⟩ := of_ite h
        refine lv_icmp_ge (tgt := 67) hx hb dX6_nextOf_22 (by decide) (fun c_22 => ?_) (fun c_22 => ?_)
        · have h := ht_22 c_22
          refine lv_bipush (v := (-9 : Int32)) hx hb dX6_nextOf_67 (by decide) ?_
          obtain rfl := Option.some.inj h
          exact x_reti F hr hW rfl dX6_nextOf_69
        · have h := hf_22 c_22
          refine lv_iload_n hx hb dX6_nextOf_25 rfl (lv_at hl 0 rfl) ?_
          refine lv_iload_n hx hb dX6_nextOf_26 rfl (lv_at hl 2 rfl) ?_
          obtain ⟨ht_27, hf_27⟩ := of_ite h
          refine lv_icmp_eq (tgt := 61) hx hb dX6_nextOf_27 (by decide) (fun c_27 => ?_) (fun c_27 => ?_)
          · have h := ht_27 c_27
            refine lv_iinc (v := (v2_15 + (1 : Int32))) (lv' := [(2, .int (v2_15 + (1 : Int32))), (0, .ref (q 0)), (1, .int x1)]) hx hb dX6_nextOf_61 hl (k := 0) rfl rfl (by decide) rfl (fun ls hl => ?_)
            refine lv_goto (tgt := 15) hx hb dX6_nextOf_64 (by decide) ?_
            exact ih0 (v2_15 + (1 : Int32)) _ _ _ h hW (lv_sub hl [0, 1, 2] rfl)
          · have h := hf_27 c_27
            refine lv_aload_n hx hb dX6_nextOf_30 rfl (lv_at hl 1 rfl) ?_
            refine x_get F hW 0 rfl fa_X6_34 rfl dX6_nextOf_31 ?_
            refine lv_iload_n hx hb dX6_nextOf_34 rfl (lv_at hl 0 rfl) ?_
            obtain ⟨g_35, h⟩ := of_guard h
            refine x_iald F hW 9 rfl g_35 dX6_nextOf_35 ?_
            refine lv_aload_n hx hb dX6_nextOf_36 rfl (lv_at hl 1 rfl) ?_
            refine x_get F hW 0 rfl fa_X6_34 rfl dX6_nextOf_37 ?_
            refine lv_iload_n hx hb dX6_nextOf_40 rfl (lv_at hl 2 rfl) ?_
            obtain ⟨g_41, h⟩ := of_guard h
            refine x_iald F hW 9 rfl g_41 dX6_nextOf_41 ?_
            refine lv_iconst (v := (1 : Int32)) hx hb dX6_nextOf_42 (by decide) ?_
            refine lv_isub hx hb dX6_nextOf_43 ?_
            obtain ⟨ht_44, hf_44⟩ := of_ite h
            refine lv_icmp_ne (tgt := 61) hx hb dX6_nextOf_44 (by decide) (fun c_44 => ?_) (fun c_44 => ?_)
            · have h := hf_44 c_44
              refine lv_iinc (v := (v2_15 + (1 : Int32))) (lv' := [(2, .int (v2_15 + (1 : Int32))), (0, .ref (q 0)), (1, .int x1)]) hx hb dX6_nextOf_61 hl (k := 0) rfl rfl (by decide) rfl (fun ls hl => ?_)
              refine lv_goto (tgt := 15) hx hb dX6_nextOf_64 (by decide) ?_
              exact ih0 (v2_15 + (1 : Int32)) _ _ _ h hW (lv_sub hl [0, 1, 2] rfl)
            · have h := ht_44 c_44
              refine lv_aload_n hx hb dX6_nextOf_47 rfl (lv_at hl 1 rfl) ?_
              refine x_get F hW 0 rfl fa_X6_9 rfl dX6_nextOf_48 ?_
              refine lv_iload_n hx hb dX6_nextOf_51 rfl (lv_at hl 2 rfl) ?_
              refine lv_iload_n hx hb dX6_nextOf_52 rfl (lv_at hl 0 rfl) ?_
              obtain ⟨p_53, hc_53, h⟩ := of_bind h
              refine x_Si (av := [.ref (q 1), .int x1, .int v2_15]) F hW (c_X6_doesSee l G (fun i => q (i + 1)) w.1 x1 v2_15 _ hc_53) [1] rfl rfl (by intro q; cases q) cs_X6_79 rfl rfl hl (Nat.le_of_ble_eq_true rfl) ⟨Nat.le_of_ble_eq_true rfl, Nat.le_of_ble_eq_true rfl⟩ ⟨rfl, rfl⟩ ⟨Nat.le_of_ble_eq_true rfl, Nat.le_of_ble_eq_true rfl⟩ dX6_nextOf_53 rfl [none, some 0, none, none, none, none, none, none, none, none] rfl (ws' := cMW G q w) rfl (fun H locs hW => ?_)
              obtain ⟨ht_56, hf_56⟩ := of_ite h
              refine lv_if_eq (tgt := 61) hx hb dX6_nextOf_56 (by decide) (fun c_56 => ?_) (fun c_56 => ?_)
              · have h := ht_56 c_56
                refine lv_iinc (v := (v2_15 + (1 : Int32))) (lv' := [(2, .int (v2_15 + (1 : Int32))), (0, .ref (q 0)), (1, .int x1)]) hx hb dX6_nextOf_61 hl (k := 0) rfl rfl (by decide) rfl (fun ls hl => ?_)
                refine lv_goto (tgt := 15) hx hb dX6_nextOf_64 (by decide) ?_
                exact ih0 (v2_15 + (1 : Int32)) _ _ _ h hW (lv_sub hl [0, 1, 2] rfl)
              · have h := hf_56 c_56
                refine lv_iload_n hx hb dX6_nextOf_59 rfl (lv_at hl 0 rfl) ?_
                obtain rfl := Option.some.inj h
                exact x_reti F hr hW rfl dX6_nextOf_60
    exact L0 200 (0 : Int32) _ _ _ h hW (lv_sub hl [0, 1, 2] rfl)
  · have h := ht_7 c_7
    refine lv_bipush (v := (7 : Int32)) hx hb dX6_nextOf_10 (by decide) ?_
    obtain rfl := Option.some.inj h
    exact x_reti F hr hW rfl dX6_nextOf_12
def f_X6_news (w : MW) (x1 : Int32) (x2 : Int32) : Option (Int32 × MW) :=
  Option.bind (f_X6_isHouse w x1) fun p_2 =>
    if p_2 = 0 then
    Option.bind (f_X6_no w (-1 : Int32)) fun p_10 =>
    some (p_10.1, p_10.2)
    else
    Option.bind (f_X6_isIn x2 (0 : Int32) (1 : Int32)) fun p_17 =>
    if p_17 = 0 then
    Option.bind (f_X6_no w (-2 : Int32)) fun p_26 =>
    some (p_26.1, p_26.2)
    else
    Option.bind (f_X6_brings w) fun p_31 =>
    if inR x1 7 then
    if (p_31.2.2.2.2.2.2.2.2.1 x1.toNatClampNeg) < (1000000000 : Int32) then
    if x2 = 0 then
    if inR x1 7 then
    some ((p_31.2.2.2.2.2.2.2.2.1 x1.toNatClampNeg), p_31)
    else none
    else
    Option.bind (f_X6_nextOf p_31 x1) fun p_63 =>
    some (p_63, p_31)
    else
    some ((-9 : Int32), p_31)
    else none
abbrev rmX6_news : Room := { frames := 6, cells := 0, slots := 0, locals := 139 }
set_option maxRecDepth 100000 in
set_option maxHeartbeats 4000000 in
theorem c_X6_news (l : Launch) (G : EnT) (q : Nat → Nat) (w : MW) (x1 : Int32) (x2 : Int32) (o : Int32 × MW) (h : f_X6_news w x1 x2 = some o) : Mi l yX6_news rmX6_news cX6_news 3 (some .int) G false [.ref (q 0), .int x1, .int x2] (cMW G q w) o.1 (cMW G q o.2) := by
  refine Mi_of (by decide) (Nat.le_of_ble_eq_true rfl) ?_
  intro p e s m below meth c A0 F hr hW ls hl
  obtain ⟨hx, hb, hml, hown, hts, hK, hNW, hlocks, hA, hSX⟩ := id F
  have hl : lv_has ls 3 [(0, .ref (q 0)), (1, .int x1), (2, .int x2)] := hl
  have hW : Wd G A0 s (cMW G q w) s.heap [] := hW
  show W p l e rmX6_news s m ([.ref (q 0), .int x1, .int x2] : List Value).toArray below meth c s.heap [] 0 0 (Qi below G (cMW G q o.2) o.1 A0 ([.ref (q 0), .int x1, .int x2] : List Value).toArray s) (F0 m 0 ls [])
  refine lv_aload_n hx hb dX6_news_0 rfl (lv_at hl 0 rfl) ?_
  refine lv_iload_n hx hb dX6_news_1 rfl (lv_at hl 1 rfl) ?_
  obtain ⟨p_2, hc_2, h⟩ := of_bind h
  refine x_Vi (av := [.ref (q 0), .int x1]) (As := [.int x1]) F hW (c_X6_isHouse l G q w x1 _ hc_2) [0, 1, 2, 3, 4, 5, 6, 7, 8, 9] rfl rfl (by intro q; cases q) cv_X6_122 rfl ⟨_, rfl, rfl⟩ rfl rfl rfl hl (Nat.le_of_ble_eq_true rfl) ⟨Nat.le_of_ble_eq_true rfl, Nat.le_of_ble_eq_true rfl⟩ ⟨rfl, rfl⟩ ⟨Nat.le_of_ble_eq_true rfl, Nat.le_of_ble_eq_true rfl⟩ dX6_news_2 rfl [some 0, some 1, some 2, some 3, some 4, some 5, some 6, some 7, some 8, some 9] rfl (ws' := cMW G q w) rfl (fun H locs hW => ?_)
  obtain ⟨ht_5, hf_5⟩ := of_ite h
  refine lv_if_ne (tgt := 14) hx hb dX6_news_5 (by decide) (fun c_5 => ?_) (fun c_5 => ?_)
  · have h := hf_5 c_5
    refine lv_iload_n hx hb dX6_news_14 rfl (lv_at hl 2 rfl) ?_
    refine lv_iconst (v := (0 : Int32)) hx hb dX6_news_15 (by decide) ?_
    refine lv_iconst (v := (1 : Int32)) hx hb dX6_news_16 (by decide) ?_
    obtain ⟨p_17, hc_17, h⟩ := of_bind h
    refine x_Si (av := [.int x2, .int (0 : Int32), .int (1 : Int32)]) F hW (c_X6_isIn l G x2 (0 : Int32) (1 : Int32) _ hc_17) [] rfl rfl (by intro q; cases q) cs_X6_43 rfl rfl hl (Nat.le_of_ble_eq_true rfl) ⟨Nat.le_of_ble_eq_true rfl, Nat.le_of_ble_eq_true rfl⟩ ⟨rfl, rfl⟩ ⟨Nat.le_of_ble_eq_true rfl, Nat.le_of_ble_eq_true rfl⟩ dX6_news_17 rfl [none, none, none, none, none, none, none, none, none, none] rfl (ws' := cMW G q w) rfl (fun H locs hW => ?_)
    obtain ⟨ht_20, hf_20⟩ := of_ite h
    refine lv_if_ne (tgt := 30) hx hb dX6_news_20 (by decide) (fun c_20 => ?_) (fun c_20 => ?_)
    · have h := hf_20 c_20
      refine lv_aload_n hx hb dX6_news_30 rfl (lv_at hl 0 rfl) ?_
      obtain ⟨p_31, hc_31, h⟩ := of_bind h
      refine x_Vv (av := [.ref (q 0)]) (As := []) F hW (c_X6_brings l G q w _ hc_31) [0, 1, 2, 3, 4, 5, 6, 7, 8, 9] rfl rfl (by intro q; cases q) cv_X6_170 rfl ⟨_, rfl, rfl⟩ rfl rfl rfl hl (Nat.le_of_ble_eq_true rfl) ⟨Nat.le_of_ble_eq_true rfl, Nat.le_of_ble_eq_true rfl⟩ ⟨rfl, rfl⟩ ⟨Nat.le_of_ble_eq_true rfl, Nat.le_of_ble_eq_true rfl⟩ dX6_news_31 rfl [some 0, some 1, some 2, some 3, some 4, some 5, some 6, some 7, some 8, some 9] rfl (ws' := cMW G q p_31) rfl (fun H locs hW => ?_)
      refine lv_aload_n hx hb dX6_news_34 rfl (lv_at hl 0 rfl) ?_
      refine x_get F hW 0 rfl fa_X6_34 rfl dX6_news_35 ?_
      refine lv_iload_n hx hb dX6_news_38 rfl (lv_at hl 1 rfl) ?_
      obtain ⟨g_39, h⟩ := of_guard h
      refine x_iald F hW 9 rfl g_39 dX6_news_39 ?_
      refine lv_ldc (v := (1000000000 : Int32)) hx hb hown (hts _ wd_1086) dX6_news_40 ?_
      obtain ⟨ht_42, hf_42⟩ := of_ite h
      refine lv_icmp_lt (tgt := 48) hx hb dX6_news_42 (by decide) (fun c_42 => ?_) (fun c_42 => ?_)
      · have h := ht_42 c_42
        refine lv_iload_n hx hb dX6_news_48 rfl (lv_at hl 2 rfl) ?_
        obtain ⟨ht_49, hf_49⟩ := of_ite h
        refine lv_if_ne (tgt := 61) hx hb dX6_news_49 (by decide) (fun c_49 => ?_) (fun c_49 => ?_)
        · have h := hf_49 c_49
          refine lv_aload_n hx hb dX6_news_61 rfl (lv_at hl 0 rfl) ?_
          refine lv_iload_n hx hb dX6_news_62 rfl (lv_at hl 1 rfl) ?_
          obtain ⟨p_63, hc_63, h⟩ := of_bind h
          refine x_Vi (av := [.ref (q 0), .int x1]) (As := [.int x1]) F hW (c_X6_nextOf l G q p_31 x1 _ hc_63) [0, 1, 2, 3, 4, 5, 6, 7, 8, 9] rfl rfl (by intro q; cases q) cv_X6_173 rfl ⟨_, rfl, rfl⟩ rfl rfl rfl hl (Nat.le_of_ble_eq_true rfl) ⟨Nat.le_of_ble_eq_true rfl, Nat.le_of_ble_eq_true rfl⟩ ⟨rfl, rfl⟩ ⟨Nat.le_of_ble_eq_true rfl, Nat.le_of_ble_eq_true rfl⟩ dX6_news_63 rfl [some 0, some 1, some 2, some 3, some 4, some 5, some 6, some 7, some 8, some 9] rfl (ws' := cMW G q p_31) rfl (fun H locs hW => ?_)
          obtain rfl := Option.some.inj h
          exact x_reti F hr hW rfl dX6_news_66
        · have h := ht_49 c_49
          refine lv_aload_n hx hb dX6_news_52 rfl (lv_at hl 0 rfl) ?_
          refine x_get F hW 0 rfl fa_X6_34 rfl dX6_news_53 ?_
          refine lv_iload_n hx hb dX6_news_56 rfl (lv_at hl 1 rfl) ?_
          obtain ⟨g_57, h⟩ := of_guard h
          refine x_iald F hW 9 rfl g_57 dX6_news_57 ?_
          refine lv_goto (tgt := 66) hx hb dX6_news_58 (by decide) ?_
          obtain rfl := Option.some.inj h
          exact x_reti F hr hW rfl dX6_news_66
      · have h := hf_42 c_42
        refine lv_bipush (v := (-9 : Int32)) hx hb dX6_news_45 (by decide) ?_
        obtain rfl := Option.some.inj h
        exact x_reti F hr hW rfl dX6_news_47
    · have h := ht_20 c_20
      refine lv_aload_n hx hb dX6_news_23 rfl (lv_at hl 0 rfl) ?_
      refine lv_bipush (v := (-2 : Int32)) hx hb dX6_news_24 (by decide) ?_
      obtain ⟨p_26, hc_26, h⟩ := of_bind h
      refine x_Vi (av := [.ref (q 0), .int (-2 : Int32)]) (As := [.int (-2 : Int32)]) F hW (c_X6_no l G q w (-2 : Int32) _ hc_26) [0, 1, 2, 3, 4, 5, 6, 7, 8, 9] rfl rfl (by intro q; cases q) cv_X6_39 rfl ⟨_, rfl, rfl⟩ rfl rfl rfl hl (Nat.le_of_ble_eq_true rfl) ⟨Nat.le_of_ble_eq_true rfl, Nat.le_of_ble_eq_true rfl⟩ ⟨rfl, rfl⟩ ⟨Nat.le_of_ble_eq_true rfl, Nat.le_of_ble_eq_true rfl⟩ dX6_news_26 rfl [some 0, some 1, some 2, some 3, some 4, some 5, some 6, some 7, some 8, some 9] rfl (ws' := cMW G q p_26.2) rfl (fun H locs hW => ?_)
      obtain rfl := Option.some.inj h
      exact x_reti F hr hW rfl dX6_news_29
  · have h := ht_5 c_5
    refine lv_aload_n hx hb dX6_news_8 rfl (lv_at hl 0 rfl) ?_
    refine lv_iconst (v := (-1 : Int32)) hx hb dX6_news_9 (by decide) ?_
    obtain ⟨p_10, hc_10, h⟩ := of_bind h
    refine x_Vi (av := [.ref (q 0), .int (-1 : Int32)]) (As := [.int (-1 : Int32)]) F hW (c_X6_no l G q w (-1 : Int32) _ hc_10) [0, 1, 2, 3, 4, 5, 6, 7, 8, 9] rfl rfl (by intro q; cases q) cv_X6_39 rfl ⟨_, rfl, rfl⟩ rfl rfl rfl hl (Nat.le_of_ble_eq_true rfl) ⟨Nat.le_of_ble_eq_true rfl, Nat.le_of_ble_eq_true rfl⟩ ⟨rfl, rfl⟩ ⟨Nat.le_of_ble_eq_true rfl, Nat.le_of_ble_eq_true rfl⟩ dX6_news_10 rfl [some 0, some 1, some 2, some 3, some 4, some 5, some 6, some 7, some 8, some 9] rfl (ws' := cMW G q p_10.2) rfl (fun H locs hW => ?_)
    obtain rfl := Option.some.inj h
    exact x_reti F hr hW rfl dX6_news_13
def f_X6_farthest_9 : Nat → Int32 → Int32 → MW → Option (Int32 × MW)
  | 0, _, _, _ => none
  | n0 + 1, v2_9, v1_9, w_9 =>
    if inR (0 : Int32) 71 then
    if (w_9.1 (0 : Int32).toNatClampNeg) ≤ v2_9 then
    some (v1_9, w_9)
    else
    if inR v2_9 7 then
    if (1000000000 : Int32) ≤ (w_9.2.2.2.2.2.2.2.2.1 v2_9.toNatClampNeg) then
    f_X6_farthest_9 n0 (v2_9 + (1 : Int32)) v1_9 w_9
    else
    if v1_9 < 0 then
    f_X6_farthest_9 n0 (v2_9 + (1 : Int32)) v2_9 w_9
    else
    if inR v2_9 7 then
    if inR v1_9 7 then
    if (w_9.2.2.2.2.2.2.2.2.1 v2_9.toNatClampNeg) ≤ (w_9.2.2.2.2.2.2.2.2.1 v1_9.toNatClampNeg) then
    f_X6_farthest_9 n0 (v2_9 + (1 : Int32)) v1_9 w_9
    else
    f_X6_farthest_9 n0 (v2_9 + (1 : Int32)) v2_9 w_9
    else none
    else none
    else none
    else none
def f_X6_farthest (w : MW) : Option (Int32 × MW) :=
  Option.bind (f_X6_brings w) fun p_1 =>
    f_X6_farthest_9 200 (0 : Int32) (-9 : Int32) p_1
abbrev rmX6_farthest : Room := { frames := 6, cells := 0, slots := 0, locals := 139 }
set_option maxRecDepth 100000 in
set_option maxHeartbeats 4000000 in
theorem c_X6_farthest (l : Launch) (G : EnT) (q : Nat → Nat) (w : MW) (o : Int32 × MW) (h : f_X6_farthest w = some o) : Mi l yX6_farthest rmX6_farthest cX6_farthest 3 (some .int) G false [.ref (q 0)] (cMW G q w) o.1 (cMW G q o.2) := by
  refine Mi_of (by decide) (Nat.le_of_ble_eq_true rfl) ?_
  intro p e s m below meth c A0 F hr hW ls hl
  obtain ⟨hx, hb, hml, hown, hts, hK, hNW, hlocks, hA, hSX⟩ := id F
  have hl : lv_has ls 3 [(0, .ref (q 0))] := hl
  have hW : Wd G A0 s (cMW G q w) s.heap [] := hW
  show W p l e rmX6_farthest s m ([.ref (q 0)] : List Value).toArray below meth c s.heap [] 0 0 (Qi below G (cMW G q o.2) o.1 A0 ([.ref (q 0)] : List Value).toArray s) (F0 m 0 ls [])
  refine lv_aload_n hx hb dX6_farthest_0 rfl (lv_at hl 0 rfl) ?_
  obtain ⟨p_1, hc_1, h⟩ := of_bind h
  refine x_Vv (av := [.ref (q 0)]) (As := []) F hW (c_X6_brings l G q w _ hc_1) [0, 1, 2, 3, 4, 5, 6, 7, 8, 9] rfl rfl (by intro q; cases q) cv_X6_170 rfl ⟨_, rfl, rfl⟩ rfl rfl rfl hl (Nat.le_of_ble_eq_true rfl) ⟨Nat.le_of_ble_eq_true rfl, Nat.le_of_ble_eq_true rfl⟩ ⟨rfl, rfl⟩ ⟨Nat.le_of_ble_eq_true rfl, Nat.le_of_ble_eq_true rfl⟩ dX6_farthest_1 rfl [some 0, some 1, some 2, some 3, some 4, some 5, some 6, some 7, some 8, some 9] rfl (ws' := cMW G q p_1) rfl (fun H locs hW => ?_)
  refine lv_bipush (v := (-9 : Int32)) hx hb dX6_farthest_4 (by decide) ?_
  refine lv_istore_n (lv' := [(1, .int (-9 : Int32)), (0, .ref (q 0))]) hx hb dX6_farthest_6 rfl hl (by decide) rfl (fun ls hl => ?_)
  refine lv_iconst (v := (0 : Int32)) hx hb dX6_farthest_7 (by decide) ?_
  refine lv_istore_n (lv' := [(2, .int (0 : Int32)), (1, .int (-9 : Int32)), (0, .ref (q 0))]) hx hb dX6_farthest_8 rfl hl (by decide) rfl (fun ls hl => ?_)
  have L0 : ∀ (n0 : Nat) (v2_9 : Int32) (v1_9 : Int32) (w_9 : MW) (H : Heap) (locs : List Loc) (ls : Array Slot), f_X6_farthest_9 n0 v2_9 v1_9 w_9 = some o → Wd G A0 s (cMW G q w_9) H locs → lv_has ls 3 [(2, .int v2_9), (1, .int v1_9), (0, .ref (q 0))] → W p l e rmX6_farthest s m ([.ref (q 0)] : List Value).toArray below meth c H locs 0 0 (Qi below G (cMW G q o.2) o.1 A0 ([.ref (q 0)] : List Value).toArray s) (F0 m 9 ls []) := by
    intro n0
    induction n0 with
    | zero => intro v2_9 v1_9 w_9 H locs ls h; cases (show (none : Option (Int32 × MW)) = some o from h)
    | succ n0 ih0 =>
      intro v2_9 v1_9 w_9 H locs ls h hW hl
      refine lv_iload_n hx hb dX6_farthest_9 rfl (lv_at hl 0 rfl) ?_
      refine lv_aload_n hx hb dX6_farthest_10 rfl (lv_at hl 2 rfl) ?_
      refine x_get F hW 0 rfl fa_X6_9 rfl dX6_farthest_11 ?_
      refine lv_iconst (v := (0 : Int32)) hx hb dX6_farthest_14 (by decide) ?_
      obtain ⟨g_15, h⟩ := of_guard h
      refine x_iald F hW 1 rfl g_15 dX6_farthest_15 ?_
      obtain ⟨ht_16, hf_16⟩ := of_ite h
      refine lv_icmp_ge (tgt := 57) hx hb dX6_farthest_16 (by decide) (fun c_16 => ?_) (fun c_16 => ?_)
      · have h := ht_16 c_16
        refine lv_iload_n hx hb dX6_farthest_57 rfl (lv_at hl 1 rfl) ?_
        obtain rfl := Option.some.inj h
        exact x_reti F hr hW rfl dX6_farthest_58
      · have h := hf_16 c_16
        refine lv_aload_n hx hb dX6_farthest_19 rfl (lv_at hl 2 rfl) ?_
        refine x_get F hW 0 rfl fa_X6_34 rfl dX6_farthest_20 ?_
        refine lv_iload_n hx hb dX6_farthest_23 rfl (lv_at hl 0 rfl) ?_
        obtain ⟨g_24, h⟩ := of_guard h
        refine x_iald F hW 9 rfl g_24 dX6_farthest_24 ?_
        refine lv_ldc (v := (1000000000 : Int32)) hx hb hown (hts _ wd_1086) dX6_farthest_25 ?_
        obtain ⟨ht_27, hf_27⟩ := of_ite h
        refine lv_icmp_ge (tgt := 51) hx hb dX6_farthest_27 (by decide) (fun c_27 => ?_) (fun c_27 => ?_)
        · have h := ht_27 c_27
          refine lv_iinc (v := (v2_9 + (1 : Int32))) (lv' := [(2, .int (v2_9 + (1 : Int32))), (1, .int v1_9), (0, .ref (q 0))]) hx hb dX6_farthest_51 hl (k := 0) rfl rfl (by decide) rfl (fun ls hl => ?_)
          refine lv_goto (tgt := 9) hx hb dX6_farthest_54 (by decide) ?_
          exact ih0 (v2_9 + (1 : Int32)) v1_9 w_9 _ _ _ h hW (lv_sub hl [0, 1, 2] rfl)
        · have h := hf_27 c_27
          refine lv_iload_n hx hb dX6_farthest_30 rfl (lv_at hl 1 rfl) ?_
          obtain ⟨ht_31, hf_31⟩ := of_ite h
          refine lv_if_lt (tgt := 49) hx hb dX6_farthest_31 (by decide) (fun c_31 => ?_) (fun c_31 => ?_)
          · have h := ht_31 c_31
            refine lv_iload_n hx hb dX6_farthest_49 rfl (lv_at hl 0 rfl) ?_
            refine lv_istore_n (lv' := [(1, .int v2_9), (2, .int v2_9), (0, .ref (q 0))]) hx hb dX6_farthest_50 rfl hl (by decide) rfl (fun ls hl => ?_)
            refine lv_iinc (v := (v2_9 + (1 : Int32))) (lv' := [(2, .int (v2_9 + (1 : Int32))), (1, .int v2_9), (0, .ref (q 0))]) hx hb dX6_farthest_51 hl (k := 1) rfl rfl (by decide) rfl (fun ls hl => ?_)
            refine lv_goto (tgt := 9) hx hb dX6_farthest_54 (by decide) ?_
            exact ih0 (v2_9 + (1 : Int32)) v2_9 w_9 _ _ _ h hW (lv_sub hl [0, 1, 2] rfl)
          · have h := hf_31 c_31
            refine lv_aload_n hx hb dX6_farthest_34 rfl (lv_at hl 2 rfl) ?_
            refine x_get F hW 0 rfl fa_X6_34 rfl dX6_farthest_35 ?_
            refine lv_iload_n hx hb dX6_farthest_38 rfl (lv_at hl 0 rfl) ?_
            obtain ⟨g_39, h⟩ := of_guard h
            refine x_iald F hW 9 rfl g_39 dX6_farthest_39 ?_
            refine lv_aload_n hx hb dX6_farthest_40 rfl (lv_at hl 2 rfl) ?_
            refine x_get F hW 0 rfl fa_X6_34 rfl dX6_farthest_41 ?_
            refine lv_iload_n hx hb dX6_farthest_44 rfl (lv_at hl 1 rfl) ?_
            obtain ⟨g_45, h⟩ := of_guard h
            refine x_iald F hW 9 rfl g_45 dX6_farthest_45 ?_
            obtain ⟨ht_46, hf_46⟩ := of_ite h
            refine lv_icmp_le (tgt := 51) hx hb dX6_farthest_46 (by decide) (fun c_46 => ?_) (fun c_46 => ?_)
            · have h := ht_46 c_46
              refine lv_iinc (v := (v2_9 + (1 : Int32))) (lv' := [(2, .int (v2_9 + (1 : Int32))), (1, .int v1_9), (0, .ref (q 0))]) hx hb dX6_farthest_51 hl (k := 0) rfl rfl (by decide) rfl (fun ls hl => ?_)
              refine lv_goto (tgt := 9) hx hb dX6_farthest_54 (by decide) ?_
              exact ih0 (v2_9 + (1 : Int32)) v1_9 w_9 _ _ _ h hW (lv_sub hl [0, 1, 2] rfl)
            · have h := hf_46 c_46
              refine lv_iload_n hx hb dX6_farthest_49 rfl (lv_at hl 0 rfl) ?_
              refine lv_istore_n (lv' := [(1, .int v2_9), (2, .int v2_9), (0, .ref (q 0))]) hx hb dX6_farthest_50 rfl hl (by decide) rfl (fun ls hl => ?_)
              refine lv_iinc (v := (v2_9 + (1 : Int32))) (lv' := [(2, .int (v2_9 + (1 : Int32))), (1, .int v2_9), (0, .ref (q 0))]) hx hb dX6_farthest_51 hl (k := 1) rfl rfl (by decide) rfl (fun ls hl => ?_)
              refine lv_goto (tgt := 9) hx hb dX6_farthest_54 (by decide) ?_
              exact ih0 (v2_9 + (1 : Int32)) v2_9 w_9 _ _ _ h hW (lv_sub hl [0, 1, 2] rfl)
  exact L0 200 (0 : Int32) (-9 : Int32) p_1 _ _ _ h hW (lv_sub hl [0, 1, 2] rfl)
def f_X6_spend (w : MW) (x1 : Int32) : Option (Int32 × MW) :=
  Option.bind (f_X6_wrongBy x1 (0 : Int32) (60 : Int32)) fun p_4 =>
    if p_4 = 0 then
    Option.bind (f_X6_takes w x1) fun p_22 =>
    some (p_22.1, p_22.2)
    else
    Option.bind (f_X6_no w p_4) fun p_14 =>
    some (p_14.1, p_14.2)
abbrev rmX6_spend : Room := { frames := 6, cells := 0, slots := 0, locals := 135 }
set_option maxRecDepth 100000 in
set_option maxHeartbeats 4000000 in
theorem c_X6_spend (l : Launch) (G : EnT) (q : Nat → Nat) (w : MW) (x1 : Int32) (o : Int32 × MW) (h : f_X6_spend w x1 = some o) : Mi l yX6_spend rmX6_spend cX6_spend 3 (some .int) G false [.ref (q 0), .int x1] (cMW G q w) o.1 (cMW G q o.2) := by
  refine Mi_of (by decide) (Nat.le_of_ble_eq_true rfl) ?_
  intro p e s m below meth c A0 F hr hW ls hl
  obtain ⟨hx, hb, hml, hown, hts, hK, hNW, hlocks, hA, hSX⟩ := id F
  have hl : lv_has ls 3 [(0, .ref (q 0)), (1, .int x1)] := hl
  have hW : Wd G A0 s (cMW G q w) s.heap [] := hW
  show W p l e rmX6_spend s m ([.ref (q 0), .int x1] : List Value).toArray below meth c s.heap [] 0 0 (Qi below G (cMW G q o.2) o.1 A0 ([.ref (q 0), .int x1] : List Value).toArray s) (F0 m 0 ls [])
  refine lv_iload_n hx hb dX6_spend_0 rfl (lv_at hl 1 rfl) ?_
  refine lv_iconst (v := (0 : Int32)) hx hb dX6_spend_1 (by decide) ?_
  refine lv_bipush (v := (60 : Int32)) hx hb dX6_spend_2 (by decide) ?_
  obtain ⟨p_4, hc_4, h⟩ := of_bind h
  refine x_Si (av := [.int x1, .int (0 : Int32), .int (60 : Int32)]) F hW (c_X6_wrongBy l G x1 (0 : Int32) (60 : Int32) _ hc_4) [] rfl rfl (by intro q; cases q) cs_X6_141 rfl rfl hl (Nat.le_of_ble_eq_true rfl) ⟨Nat.le_of_ble_eq_true rfl, Nat.le_of_ble_eq_true rfl⟩ ⟨rfl, rfl⟩ ⟨Nat.le_of_ble_eq_true rfl, Nat.le_of_ble_eq_true rfl⟩ dX6_spend_4 rfl [none, none, none, none, none, none, none, none, none, none] rfl (ws' := cMW G q w) rfl (fun H locs hW => ?_)
  refine lv_istore_n (lv' := [(2, .int p_4), (0, .ref (q 0)), (1, .int x1)]) hx hb dX6_spend_7 rfl hl (by decide) rfl (fun ls hl => ?_)
  refine lv_iload_n hx hb dX6_spend_8 rfl (lv_at hl 0 rfl) ?_
  obtain ⟨ht_9, hf_9⟩ := of_ite h
  refine lv_if_eq (tgt := 20) hx hb dX6_spend_9 (by decide) (fun c_9 => ?_) (fun c_9 => ?_)
  · have h := ht_9 c_9
    refine lv_aload_n hx hb dX6_spend_20 rfl (lv_at hl 1 rfl) ?_
    refine lv_iload_n hx hb dX6_spend_21 rfl (lv_at hl 2 rfl) ?_
    obtain ⟨p_22, hc_22, h⟩ := of_bind h
    refine x_Vi (av := [.ref (q 0), .int x1]) (As := [.int x1]) F hW (c_X6_takes l G q w x1 _ hc_22) [0, 1, 2, 3, 4, 5, 6, 7, 8, 9] rfl rfl (by intro q; cases q) cv_X6_151 rfl ⟨_, rfl, rfl⟩ rfl rfl rfl hl (Nat.le_of_ble_eq_true rfl) ⟨Nat.le_of_ble_eq_true rfl, Nat.le_of_ble_eq_true rfl⟩ ⟨rfl, rfl⟩ ⟨Nat.le_of_ble_eq_true rfl, Nat.le_of_ble_eq_true rfl⟩ dX6_spend_22 rfl [some 0, some 1, some 2, some 3, some 4, some 5, some 6, some 7, some 8, some 9] rfl (ws' := cMW G q p_22.2) rfl (fun H locs hW => ?_)
    obtain rfl := Option.some.inj h
    exact x_reti F hr hW rfl dX6_spend_25
  · have h := hf_9 c_9
    refine lv_aload_n hx hb dX6_spend_12 rfl (lv_at hl 1 rfl) ?_
    refine lv_iload_n hx hb dX6_spend_13 rfl (lv_at hl 0 rfl) ?_
    obtain ⟨p_14, hc_14, h⟩ := of_bind h
    refine x_Vi (av := [.ref (q 0), .int p_4]) (As := [.int p_4]) F hW (c_X6_no l G q w p_4 _ hc_14) [0, 1, 2, 3, 4, 5, 6, 7, 8, 9] rfl rfl (by intro q; cases q) cv_X6_39 rfl ⟨_, rfl, rfl⟩ rfl rfl rfl hl (Nat.le_of_ble_eq_true rfl) ⟨Nat.le_of_ble_eq_true rfl, Nat.le_of_ble_eq_true rfl⟩ ⟨rfl, rfl⟩ ⟨Nat.le_of_ble_eq_true rfl, Nat.le_of_ble_eq_true rfl⟩ dX6_spend_14 rfl [some 0, some 1, some 2, some 3, some 4, some 5, some 6, some 7, some 8, some 9] rfl (ws' := cMW G q p_14.2) rfl (fun H locs hW => ?_)
    refine lv_goto (tgt := 25) hx hb dX6_spend_17 (by decide) ?_
    obtain rfl := Option.some.inj h
    exact x_reti F hr hW rfl dX6_spend_25
def f_X6_share_42 (x1 : Int32) : Nat → Int32 → Int32 → Int32 → MW → Option (Int32 × MW)
  | 0, _, _, _, _ => none
  | n0 + 1, v5_42, v4_42, v3_42, w_42 =>
    if inR (0 : Int32) 71 then
    if (w_42.1 (0 : Int32).toNatClampNeg) ≤ v5_42 then
    some (v4_42, w_42)
    else
    Option.bind (f_X6_copies w_42.1 w_42.2.1) fun p_61 =>
    Option.bind (f_X6_of v5_42 (3 : Int32)) fun p_71 =>
    if inR p_71 71 then
    if inR p_71 71 then
    Option.bind (f_X6_hangsIn (w_42.1, (upd p_61 p_71.toNatClampNeg ((p_61 p_71.toNatClampNeg) + (1 : Int32))), w_42.2.2.1, w_42.2.2.2.1, w_42.2.2.2.2.1, w_42.2.2.2.2.2.1, w_42.2.2.2.2.2.2.1, w_42.2.2.2.2.2.2.2.1, w_42.2.2.2.2.2.2.2.2.1, w_42.2.2.2.2.2.2.2.2.2.1, w_42.2.2.2.2.2.2.2.2.2.2.1, w_42.2.2.2.2.2.2.2.2.2.2.2.1, w_42.2.2.2.2.2.2.2.2.2.2.2.2.1, w_42.2.2.2.2.2.2.2.2.2.2.2.2.2) x1) fun p_81 =>
    nm p_81.1 fun x_84 =>
    if v3_42 < x_84 then
    f_X6_share_42 x1 n0 (v5_42 + (1 : Int32)) v5_42 x_84 p_81.2
    else
    f_X6_share_42 x1 n0 (v5_42 + (1 : Int32)) v4_42 v3_42 p_81.2
    else none
    else none
    else none
def f_X6_share (w : MW) (x1 : Int32) : Option (Int32 × MW) :=
  Option.bind (f_X6_wrongBy x1 (0 : Int32) (30 : Int32)) fun p_4 =>
    if p_4 = 0 then
    Option.bind (f_X6_copies w.1 w.2.1) fun p_26 =>
    Option.bind (f_X6_hangsIn (w.1, p_26, w.2.2.1, w.2.2.2.1, w.2.2.2.2.1, w.2.2.2.2.2.1, w.2.2.2.2.2.2.1, w.2.2.2.2.2.2.2.1, w.2.2.2.2.2.2.2.2.1, w.2.2.2.2.2.2.2.2.2.1, w.2.2.2.2.2.2.2.2.2.2.1, w.2.2.2.2.2.2.2.2.2.2.2.1, w.2.2.2.2.2.2.2.2.2.2.2.2.1, w.2.2.2.2.2.2.2.2.2.2.2.2.2) x1) fun p_31 =>
    nm p_31.1 fun x_34 =>
    f_X6_share_42 x1 200 (0 : Int32) (-9 : Int32) x_34 p_31.2
    else
    Option.bind (f_X6_no w p_4) fun p_14 =>
    some (p_14.1, p_14.2)
abbrev rmX6_share : Room := { frames := 6, cells := 0, slots := 0, locals := 139 }
set_option maxRecDepth 100000 in
set_option maxHeartbeats 4000000 in
theorem c_X6_share (l : Launch) (G : EnT) (q : Nat → Nat) (w : MW) (x1 : Int32) (o : Int32 × MW) (h : f_X6_share w x1 = some o) : Mi l yX6_share rmX6_share cX6_share 7 (some .int) G false [.ref (q 0), .int x1] (cMW G q w) o.1 (cMW G q o.2) := by
  refine Mi_of (by decide) (Nat.le_of_ble_eq_true rfl) ?_
  intro p e s m below meth c A0 F hr hW ls hl
  obtain ⟨hx, hb, hml, hown, hts, hK, hNW, hlocks, hA, hSX⟩ := id F
  have hl : lv_has ls 7 [(0, .ref (q 0)), (1, .int x1)] := hl
  have hW : Wd G A0 s (cMW G q w) s.heap [] := hW
  show W p l e rmX6_share s m ([.ref (q 0), .int x1] : List Value).toArray below meth c s.heap [] 0 0 (Qi below G (cMW G q o.2) o.1 A0 ([.ref (q 0), .int x1] : List Value).toArray s) (F0 m 0 ls [])
  refine lv_iload_n hx hb dX6_share_0 rfl (lv_at hl 1 rfl) ?_
  refine lv_iconst (v := (0 : Int32)) hx hb dX6_share_1 (by decide) ?_
  refine lv_bipush (v := (30 : Int32)) hx hb dX6_share_2 (by decide) ?_
  obtain ⟨p_4, hc_4, h⟩ := of_bind h
  refine x_Si (av := [.int x1, .int (0 : Int32), .int (30 : Int32)]) F hW (c_X6_wrongBy l G x1 (0 : Int32) (30 : Int32) _ hc_4) [] rfl rfl (by intro q; cases q) cs_X6_141 rfl rfl hl (Nat.le_of_ble_eq_true rfl) ⟨Nat.le_of_ble_eq_true rfl, Nat.le_of_ble_eq_true rfl⟩ ⟨rfl, rfl⟩ ⟨Nat.le_of_ble_eq_true rfl, Nat.le_of_ble_eq_true rfl⟩ dX6_share_4 rfl [none, none, none, none, none, none, none, none, none, none] rfl (ws' := cMW G q w) rfl (fun H locs hW => ?_)
  refine lv_istore_n (lv' := [(2, .int p_4), (0, .ref (q 0)), (1, .int x1)]) hx hb dX6_share_7 rfl hl (by decide) rfl (fun ls hl => ?_)
  refine lv_iload_n hx hb dX6_share_8 rfl (lv_at hl 0 rfl) ?_
  obtain ⟨ht_9, hf_9⟩ := of_ite h
  refine lv_if_eq (tgt := 18) hx hb dX6_share_9 (by decide) (fun c_9 => ?_) (fun c_9 => ?_)
  · have h := ht_9 c_9
    refine lv_aload_n hx hb dX6_share_18 rfl (lv_at hl 1 rfl) ?_
    refine x_get F hW 0 rfl fa_X6_9 rfl dX6_share_19 ?_
    refine lv_aload_n hx hb dX6_share_22 rfl (lv_at hl 1 rfl) ?_
    refine x_get F hW 0 rfl fa_X6_13 rfl dX6_share_23 ?_
    obtain ⟨p_26, hc_26, h⟩ := of_bind h
    refine x_Sv (av := [.ref (q 1), .ref (q 2)]) F hW (c_X6_copies l G (fun i => q (i + 1)) w.1 (fun i => q (i + 2)) w.2.1 _ hc_26) [1, 2] rfl rfl (by intro q; cases q) cs_X6_134 rfl rfl hl (Nat.le_of_ble_eq_true rfl) ⟨Nat.le_of_ble_eq_true rfl, Nat.le_of_ble_eq_true rfl⟩ ⟨rfl, rfl⟩ ⟨Nat.le_of_ble_eq_true rfl, Nat.le_of_ble_eq_true rfl⟩ dX6_share_26 rfl [none, some 0, some 1, none, none, none, none, none, none, none] rfl (ws' := cMW G q (w.1, p_26, w.2.2.1, w.2.2.2.1, w.2.2.2.2.1, w.2.2.2.2.2.1, w.2.2.2.2.2.2.1, w.2.2.2.2.2.2.2.1, w.2.2.2.2.2.2.2.2.1, w.2.2.2.2.2.2.2.2.2.1, w.2.2.2.2.2.2.2.2.2.2.1, w.2.2.2.2.2.2.2.2.2.2.2.1, w.2.2.2.2.2.2.2.2.2.2.2.2.1, w.2.2.2.2.2.2.2.2.2.2.2.2.2)) rfl (fun H locs hW => ?_)
    refine lv_aload_n hx hb dX6_share_29 rfl (lv_at hl 1 rfl) ?_
    refine lv_iload_n hx hb dX6_share_30 rfl (lv_at hl 2 rfl) ?_
    obtain ⟨p_31, hc_31, h⟩ := of_bind h
    refine x_Vi (av := [.ref (q 0), .int x1]) (As := [.int x1]) F hW (c_X6_hangsIn l G q (w.1, p_26, w.2.2.1, w.2.2.2.1, w.2.2.2.2.1, w.2.2.2.2.2.1, w.2.2.2.2.2.2.1, w.2.2.2.2.2.2.2.1, w.2.2.2.2.2.2.2.2.1, w.2.2.2.2.2.2.2.2.2.1, w.2.2.2.2.2.2.2.2.2.2.1, w.2.2.2.2.2.2.2.2.2.2.2.1, w.2.2.2.2.2.2.2.2.2.2.2.2.1, w.2.2.2.2.2.2.2.2.2.2.2.2.2) x1 _ hc_31) [0, 1, 2, 3, 4, 5, 6, 7, 8, 9] rfl rfl (by intro q; cases q) cv_X6_164 rfl ⟨_, rfl, rfl⟩ rfl rfl rfl hl (Nat.le_of_ble_eq_true rfl) ⟨Nat.le_of_ble_eq_true rfl, Nat.le_of_ble_eq_true rfl⟩ ⟨rfl, rfl⟩ ⟨Nat.le_of_ble_eq_true rfl, Nat.le_of_ble_eq_true rfl⟩ dX6_share_31 rfl [some 0, some 1, some 2, some 3, some 4, some 5, some 6, some 7, some 8, some 9] rfl (ws' := cMW G q p_31.2) rfl (fun H locs hW => ?_)
    obtain ⟨x_34, e_x_34, h⟩ := of_nm h
    refine x_topi e_x_34 ?_
    refine lv_istore_n (lv' := [(3, .int x_34), (2, .int p_4), (0, .ref (q 0)), (1, .int x1)]) hx hb dX6_share_34 rfl hl (by decide) rfl (fun ls hl => ?_)
    refine lv_bipush (v := (-9 : Int32)) hx hb dX6_share_35 (by decide) ?_
    refine lv_istore (lv' := [(4, .int (-9 : Int32)), (3, .int x_34), (2, .int p_4), (0, .ref (q 0)), (1, .int x1)]) hx hb dX6_share_37 hl (by decide) rfl (fun ls hl => ?_)
    refine lv_iconst (v := (0 : Int32)) hx hb dX6_share_39 (by decide) ?_
    refine lv_istore (lv' := [(5, .int (0 : Int32)), (4, .int (-9 : Int32)), (3, .int x_34), (2, .int p_4), (0, .ref (q 0)), (1, .int x1)]) hx hb dX6_share_40 hl (by decide) rfl (fun ls hl => ?_)
    have L0 : ∀ (n0 : Nat) (v5_42 : Int32) (v4_42 : Int32) (v3_42 : Int32) (w_42 : MW) (H : Heap) (locs : List Loc) (ls : Array Slot), f_X6_share_42 x1 n0 v5_42 v4_42 v3_42 w_42 = some o → Wd G A0 s (cMW G q w_42) H locs → lv_has ls 7 [(5, .int v5_42), (4, .int v4_42), (3, .int v3_42), (0, .ref (q 0)), (1, .int x1)] → W p l e rmX6_share s m ([.ref (q 0), .int x1] : List Value).toArray below meth c H locs 0 0 (Qi below G (cMW G q o.2) o.1 A0 ([.ref (q 0), .int x1] : List Value).toArray s) (F0 m 42 ls []) := by
      intro n0
      induction n0 with
      | zero => intro v5_42 v4_42 v3_42 w_42 H locs ls h; cases (show (none : Option (Int32 × MW)) = some o from h)
      | succ n0 ih0 =>
        intro v5_42 v4_42 v3_42 w_42 H locs ls h hW hl
        refine lv_iload hx hb dX6_share_42 (lv_at hl 0 rfl) ?_
        refine lv_aload_n hx hb dX6_share_44 rfl (lv_at hl 3 rfl) ?_
        refine x_get F hW 0 rfl fa_X6_9 rfl dX6_share_45 ?_
        refine lv_iconst (v := (0 : Int32)) hx hb dX6_share_48 (by decide) ?_
        obtain ⟨g_49, h⟩ := of_guard h
        refine x_iald F hW 1 rfl g_49 dX6_share_49 ?_
        obtain ⟨ht_50, hf_50⟩ := of_ite h
        refine lv_icmp_ge (tgt := 108) hx hb dX6_share_50 (by decide) (fun c_50 => ?_) (fun c_50 => ?_)
        · have h := ht_50 c_50
          refine lv_iload hx hb dX6_share_108 (lv_at hl 1 rfl) ?_
          obtain rfl := Option.some.inj h
          exact x_reti F hr hW rfl dX6_share_110
        · have h := hf_50 c_50
          refine lv_aload_n hx hb dX6_share_53 rfl (lv_at hl 3 rfl) ?_
          refine x_get F hW 0 rfl fa_X6_9 rfl dX6_share_54 ?_
          refine lv_aload_n hx hb dX6_share_57 rfl (lv_at hl 3 rfl) ?_
          refine x_get F hW 0 rfl fa_X6_13 rfl dX6_share_58 ?_
          obtain ⟨p_61, hc_61, h⟩ := of_bind h
          refine x_Sv (av := [.ref (q 1), .ref (q 2)]) F hW (c_X6_copies l G (fun i => q (i + 1)) w_42.1 (fun i => q (i + 2)) w_42.2.1 _ hc_61) [1, 2] rfl rfl (by intro q; cases q) cs_X6_134 rfl rfl hl (Nat.le_of_ble_eq_true rfl) ⟨Nat.le_of_ble_eq_true rfl, Nat.le_of_ble_eq_true rfl⟩ ⟨rfl, rfl⟩ ⟨Nat.le_of_ble_eq_true rfl, Nat.le_of_ble_eq_true rfl⟩ dX6_share_61 rfl [none, some 0, some 1, none, none, none, none, none, none, none] rfl (ws' := cMW G q (w_42.1, p_61, w_42.2.2.1, w_42.2.2.2.1, w_42.2.2.2.2.1, w_42.2.2.2.2.2.1, w_42.2.2.2.2.2.2.1, w_42.2.2.2.2.2.2.2.1, w_42.2.2.2.2.2.2.2.2.1, w_42.2.2.2.2.2.2.2.2.2.1, w_42.2.2.2.2.2.2.2.2.2.2.1, w_42.2.2.2.2.2.2.2.2.2.2.2.1, w_42.2.2.2.2.2.2.2.2.2.2.2.2.1, w_42.2.2.2.2.2.2.2.2.2.2.2.2.2)) rfl (fun H locs hW => ?_)
          refine lv_aload_n hx hb dX6_share_64 rfl (lv_at hl 3 rfl) ?_
          refine x_get F hW 0 rfl fa_X6_13 rfl dX6_share_65 ?_
          refine lv_iload hx hb dX6_share_68 (lv_at hl 0 rfl) ?_
          refine lv_iconst (v := (3 : Int32)) hx hb dX6_share_70 (by decide) ?_
          obtain ⟨p_71, hc_71, h⟩ := of_bind h
          refine x_Si (av := [.int v5_42, .int (3 : Int32)]) F hW (c_X6_of l G v5_42 (3 : Int32) _ hc_71) [] rfl rfl (by intro q; cases q) cs_X6_47 rfl rfl hl (Nat.le_of_ble_eq_true rfl) ⟨Nat.le_of_ble_eq_true rfl, Nat.le_of_ble_eq_true rfl⟩ ⟨rfl, rfl⟩ ⟨Nat.le_of_ble_eq_true rfl, Nat.le_of_ble_eq_true rfl⟩ dX6_share_71 rfl [none, none, none, none, none, none, none, none, none, none] rfl (ws' := cMW G q (w_42.1, p_61, w_42.2.2.1, w_42.2.2.2.1, w_42.2.2.2.2.1, w_42.2.2.2.2.2.1, w_42.2.2.2.2.2.2.1, w_42.2.2.2.2.2.2.2.1, w_42.2.2.2.2.2.2.2.2.1, w_42.2.2.2.2.2.2.2.2.2.1, w_42.2.2.2.2.2.2.2.2.2.2.1, w_42.2.2.2.2.2.2.2.2.2.2.2.1, w_42.2.2.2.2.2.2.2.2.2.2.2.2.1, w_42.2.2.2.2.2.2.2.2.2.2.2.2.2)) rfl (fun H locs hW => ?_)
          refine lv_dup2_11 hx hb dX6_share_74 rfl rfl ?_
          obtain ⟨g_75, h⟩ := of_guard h
          refine x_iald F hW 2 rfl g_75 dX6_share_75 ?_
          refine lv_iconst (v := (1 : Int32)) hx hb dX6_share_76 (by decide) ?_
          refine lv_iadd hx hb dX6_share_77 ?_
          obtain ⟨g_78, h⟩ := of_guard h
          refine x_iast F hW 2 rfl g_78 (ws' := cMW G q (w_42.1, (upd p_61 p_71.toNatClampNeg ((p_61 p_71.toNatClampNeg) + (1 : Int32))), w_42.2.2.1, w_42.2.2.2.1, w_42.2.2.2.2.1, w_42.2.2.2.2.2.1, w_42.2.2.2.2.2.2.1, w_42.2.2.2.2.2.2.2.1, w_42.2.2.2.2.2.2.2.2.1, w_42.2.2.2.2.2.2.2.2.2.1, w_42.2.2.2.2.2.2.2.2.2.2.1, w_42.2.2.2.2.2.2.2.2.2.2.2.1, w_42.2.2.2.2.2.2.2.2.2.2.2.2.1, w_42.2.2.2.2.2.2.2.2.2.2.2.2.2)) rfl dX6_share_78 (fun H locs hW => ?_)
          refine lv_aload_n hx hb dX6_share_79 rfl (lv_at hl 3 rfl) ?_
          refine lv_iload_n hx hb dX6_share_80 rfl (lv_at hl 4 rfl) ?_
          obtain ⟨p_81, hc_81, h⟩ := of_bind h
          refine x_Vi (av := [.ref (q 0), .int x1]) (As := [.int x1]) F hW (c_X6_hangsIn l G q (w_42.1, (upd p_61 p_71.toNatClampNeg ((p_61 p_71.toNatClampNeg) + (1 : Int32))), w_42.2.2.1, w_42.2.2.2.1, w_42.2.2.2.2.1, w_42.2.2.2.2.2.1, w_42.2.2.2.2.2.2.1, w_42.2.2.2.2.2.2.2.1, w_42.2.2.2.2.2.2.2.2.1, w_42.2.2.2.2.2.2.2.2.2.1, w_42.2.2.2.2.2.2.2.2.2.2.1, w_42.2.2.2.2.2.2.2.2.2.2.2.1, w_42.2.2.2.2.2.2.2.2.2.2.2.2.1, w_42.2.2.2.2.2.2.2.2.2.2.2.2.2) x1 _ hc_81) [0, 1, 2, 3, 4, 5, 6, 7, 8, 9] rfl rfl (by intro q; cases q) cv_X6_164 rfl ⟨_, rfl, rfl⟩ rfl rfl rfl hl (Nat.le_of_ble_eq_true rfl) ⟨Nat.le_of_ble_eq_true rfl, Nat.le_of_ble_eq_true rfl⟩ ⟨rfl, rfl⟩ ⟨Nat.le_of_ble_eq_true rfl, Nat.le_of_ble_eq_true rfl⟩ dX6_share_81 rfl [some 0, some 1, some 2, some 3, some 4, some 5, some 6, some 7, some 8, some 9] rfl (ws' := cMW G q p_81.2) rfl (fun H locs hW => ?_)
          obtain ⟨x_84, e_x_84, h⟩ := of_nm h
          refine x_topi e_x_84 ?_
          refine lv_istore (lv' := [(6, .int x_84), (5, .int v5_42), (4, .int v4_42), (3, .int v3_42), (0, .ref (q 0)), (1, .int x1)]) hx hb dX6_share_84 hl (by decide) rfl (fun ls hl => ?_)
          refine lv_iload hx hb dX6_share_86 (lv_at hl 0 rfl) ?_
          refine lv_iload_n hx hb dX6_share_88 rfl (lv_at hl 3 rfl) ?_
          obtain ⟨ht_89, hf_89⟩ := of_ite h
          refine lv_icmp_gt (tgt := 95) hx hb dX6_share_89 (by decide) (fun c_89 => ?_) (fun c_89 => ?_)
          · have h := ht_89 c_89
            refine lv_iload hx hb dX6_share_95 (lv_at hl 1 rfl) ?_
            refine lv_istore (lv' := [(4, .int v5_42), (6, .int x_84), (5, .int v5_42), (3, .int v3_42), (0, .ref (q 0)), (1, .int x1)]) hx hb dX6_share_97 hl (by decide) rfl (fun ls hl => ?_)
            refine lv_iload hx hb dX6_share_99 (lv_at hl 1 rfl) ?_
            refine lv_istore_n (lv' := [(3, .int x_84), (4, .int v5_42), (6, .int x_84), (5, .int v5_42), (0, .ref (q 0)), (1, .int x1)]) hx hb dX6_share_101 rfl hl (by decide) rfl (fun ls hl => ?_)
            refine lv_iinc (v := (v5_42 + (1 : Int32))) (lv' := [(5, .int (v5_42 + (1 : Int32))), (3, .int x_84), (4, .int v5_42), (6, .int x_84), (0, .ref (q 0)), (1, .int x1)]) hx hb dX6_share_102 hl (k := 3) rfl rfl (by decide) rfl (fun ls hl => ?_)
            refine lv_goto (tgt := 42) hx hb dX6_share_105 (by decide) ?_
            exact ih0 (v5_42 + (1 : Int32)) v5_42 x_84 p_81.2 _ _ _ h hW (lv_sub hl [0, 2, 1, 4, 5] rfl)
          · have h := hf_89 c_89
            refine lv_goto (tgt := 102) hx hb dX6_share_92 (by decide) ?_
            refine lv_iinc (v := (v5_42 + (1 : Int32))) (lv' := [(5, .int (v5_42 + (1 : Int32))), (6, .int x_84), (4, .int v4_42), (3, .int v3_42), (0, .ref (q 0)), (1, .int x1)]) hx hb dX6_share_102 hl (k := 1) rfl rfl (by decide) rfl (fun ls hl => ?_)
            refine lv_goto (tgt := 42) hx hb dX6_share_105 (by decide) ?_
            exact ih0 (v5_42 + (1 : Int32)) v4_42 v3_42 p_81.2 _ _ _ h hW (lv_sub hl [0, 2, 3, 4, 5] rfl)
    exact L0 200 (0 : Int32) (-9 : Int32) x_34 p_31.2 _ _ _ h hW (lv_sub hl [0, 1, 2, 4, 5] rfl)
  · have h := hf_9 c_9
    refine lv_aload_n hx hb dX6_share_12 rfl (lv_at hl 1 rfl) ?_
    refine lv_iload_n hx hb dX6_share_13 rfl (lv_at hl 0 rfl) ?_
    obtain ⟨p_14, hc_14, h⟩ := of_bind h
    refine x_Vi (av := [.ref (q 0), .int p_4]) (As := [.int p_4]) F hW (c_X6_no l G q w p_4 _ hc_14) [0, 1, 2, 3, 4, 5, 6, 7, 8, 9] rfl rfl (by intro q; cases q) cv_X6_39 rfl ⟨_, rfl, rfl⟩ rfl rfl rfl hl (Nat.le_of_ble_eq_true rfl) ⟨Nat.le_of_ble_eq_true rfl, Nat.le_of_ble_eq_true rfl⟩ ⟨rfl, rfl⟩ ⟨Nat.le_of_ble_eq_true rfl, Nat.le_of_ble_eq_true rfl⟩ dX6_share_14 rfl [some 0, some 1, some 2, some 3, some 4, some 5, some 6, some 7, some 8, some 9] rfl (ws' := cMW G q p_14.2) rfl (fun H locs hW => ?_)
    obtain rfl := Option.some.inj h
    exact x_reti F hr hW rfl dX6_share_17
def f_X6_longest_43 (x1 : Int32) : Nat → Int32 → Int32 → MW → Option (Int32 × MW)
  | 0, _, _, _ => none
  | n0 + 1, v4_43, v3_43, w_43 =>
    if x1 ≤ v4_43 then
    some (v3_43, w_43)
    else
    Option.bind (f_X6_night w_43.2.1) fun p_53 =>
    nm p_53.1 fun x_56 =>
    Option.bind (f_X6_hangIn p_53.2) fun p_62 =>
    Option.bind (f_X6_bits p_62) fun p_65 =>
    if p_65 ≤ v3_43 then
    f_X6_longest_43 x1 n0 (v4_43 + (1 : Int32)) v3_43 (w_43.1, p_53.2, w_43.2.2.1, w_43.2.2.2.1, w_43.2.2.2.2.1, w_43.2.2.2.2.2.1, w_43.2.2.2.2.2.2.1, w_43.2.2.2.2.2.2.2.1, w_43.2.2.2.2.2.2.2.2.1, w_43.2.2.2.2.2.2.2.2.2.1, w_43.2.2.2.2.2.2.2.2.2.2.1, w_43.2.2.2.2.2.2.2.2.2.2.2.1, w_43.2.2.2.2.2.2.2.2.2.2.2.2.1, w_43.2.2.2.2.2.2.2.2.2.2.2.2.2)
    else
    Option.bind (f_X6_hangIn p_53.2) fun p_76 =>
    Option.bind (f_X6_bits p_76) fun p_79 =>
    f_X6_longest_43 x1 n0 (v4_43 + (1 : Int32)) p_79 (w_43.1, p_53.2, w_43.2.2.1, w_43.2.2.2.1, w_43.2.2.2.2.1, w_43.2.2.2.2.2.1, w_43.2.2.2.2.2.2.1, w_43.2.2.2.2.2.2.2.1, w_43.2.2.2.2.2.2.2.2.1, w_43.2.2.2.2.2.2.2.2.2.1, w_43.2.2.2.2.2.2.2.2.2.2.1, w_43.2.2.2.2.2.2.2.2.2.2.2.1, w_43.2.2.2.2.2.2.2.2.2.2.2.2.1, w_43.2.2.2.2.2.2.2.2.2.2.2.2.2)
def f_X6_longest (w : MW) (x1 : Int32) : Option (Int32 × MW) :=
  Option.bind (f_X6_wrongBy x1 (0 : Int32) (60 : Int32)) fun p_4 =>
    if p_4 = 0 then
    Option.bind (f_X6_copies w.1 w.2.1) fun p_26 =>
    Option.bind (f_X6_hangIn p_26) fun p_33 =>
    Option.bind (f_X6_bits p_33) fun p_36 =>
    f_X6_longest_43 x1 200 (0 : Int32) p_36 (w.1, p_26, w.2.2.1, w.2.2.2.1, w.2.2.2.2.1, w.2.2.2.2.2.1, w.2.2.2.2.2.2.1, w.2.2.2.2.2.2.2.1, w.2.2.2.2.2.2.2.2.1, w.2.2.2.2.2.2.2.2.2.1, w.2.2.2.2.2.2.2.2.2.2.1, w.2.2.2.2.2.2.2.2.2.2.2.1, w.2.2.2.2.2.2.2.2.2.2.2.2.1, w.2.2.2.2.2.2.2.2.2.2.2.2.2)
    else
    Option.bind (f_X6_no w p_4) fun p_14 =>
    some (p_14.1, p_14.2)
abbrev rmX6_longest : Room := { frames := 5, cells := 0, slots := 0, locals := 115 }
set_option maxRecDepth 100000 in
set_option maxHeartbeats 4000000 in
theorem c_X6_longest (l : Launch) (G : EnT) (q : Nat → Nat) (w : MW) (x1 : Int32) (o : Int32 × MW) (h : f_X6_longest w x1 = some o) : Mi l yX6_longest rmX6_longest cX6_longest 6 (some .int) G false [.ref (q 0), .int x1] (cMW G q w) o.1 (cMW G q o.2) := by
  refine Mi_of (by decide) (Nat.le_of_ble_eq_true rfl) ?_
  intro p e s m below meth c A0 F hr hW ls hl
  obtain ⟨hx, hb, hml, hown, hts, hK, hNW, hlocks, hA, hSX⟩ := id F
  have hl : lv_has ls 6 [(0, .ref (q 0)), (1, .int x1)] := hl
  have hW : Wd G A0 s (cMW G q w) s.heap [] := hW
  show W p l e rmX6_longest s m ([.ref (q 0), .int x1] : List Value).toArray below meth c s.heap [] 0 0 (Qi below G (cMW G q o.2) o.1 A0 ([.ref (q 0), .int x1] : List Value).toArray s) (F0 m 0 ls [])
  refine lv_iload_n hx hb dX6_longest_0 rfl (lv_at hl 1 rfl) ?_
  refine lv_iconst (v := (0 : Int32)) hx hb dX6_longest_1 (by decide) ?_
  refine lv_bipush (v := (60 : Int32)) hx hb dX6_longest_2 (by decide) ?_
  obtain ⟨p_4, hc_4, h⟩ := of_bind h
  refine x_Si (av := [.int x1, .int (0 : Int32), .int (60 : Int32)]) F hW (c_X6_wrongBy l G x1 (0 : Int32) (60 : Int32) _ hc_4) [] rfl rfl (by intro q; cases q) cs_X6_141 rfl rfl hl (Nat.le_of_ble_eq_true rfl) ⟨Nat.le_of_ble_eq_true rfl, Nat.le_of_ble_eq_true rfl⟩ ⟨rfl, rfl⟩ ⟨Nat.le_of_ble_eq_true rfl, Nat.le_of_ble_eq_true rfl⟩ dX6_longest_4 rfl [none, none, none, none, none, none, none, none, none, none] rfl (ws' := cMW G q w) rfl (fun H locs hW => ?_)
  refine lv_istore_n (lv' := [(2, .int p_4), (0, .ref (q 0)), (1, .int x1)]) hx hb dX6_longest_7 rfl hl (by decide) rfl (fun ls hl => ?_)
  refine lv_iload_n hx hb dX6_longest_8 rfl (lv_at hl 0 rfl) ?_
  obtain ⟨ht_9, hf_9⟩ := of_ite h
  refine lv_if_eq (tgt := 18) hx hb dX6_longest_9 (by decide) (fun c_9 => ?_) (fun c_9 => ?_)
  · have h := ht_9 c_9
    refine lv_aload_n hx hb dX6_longest_18 rfl (lv_at hl 1 rfl) ?_
    refine x_get F hW 0 rfl fa_X6_9 rfl dX6_longest_19 ?_
    refine lv_aload_n hx hb dX6_longest_22 rfl (lv_at hl 1 rfl) ?_
    refine x_get F hW 0 rfl fa_X6_13 rfl dX6_longest_23 ?_
    obtain ⟨p_26, hc_26, h⟩ := of_bind h
    refine x_Sv (av := [.ref (q 1), .ref (q 2)]) F hW (c_X6_copies l G (fun i => q (i + 1)) w.1 (fun i => q (i + 2)) w.2.1 _ hc_26) [1, 2] rfl rfl (by intro q; cases q) cs_X6_134 rfl rfl hl (Nat.le_of_ble_eq_true rfl) ⟨Nat.le_of_ble_eq_true rfl, Nat.le_of_ble_eq_true rfl⟩ ⟨rfl, rfl⟩ ⟨Nat.le_of_ble_eq_true rfl, Nat.le_of_ble_eq_true rfl⟩ dX6_longest_26 rfl [none, some 0, some 1, none, none, none, none, none, none, none] rfl (ws' := cMW G q (w.1, p_26, w.2.2.1, w.2.2.2.1, w.2.2.2.2.1, w.2.2.2.2.2.1, w.2.2.2.2.2.2.1, w.2.2.2.2.2.2.2.1, w.2.2.2.2.2.2.2.2.1, w.2.2.2.2.2.2.2.2.2.1, w.2.2.2.2.2.2.2.2.2.2.1, w.2.2.2.2.2.2.2.2.2.2.2.1, w.2.2.2.2.2.2.2.2.2.2.2.2.1, w.2.2.2.2.2.2.2.2.2.2.2.2.2)) rfl (fun H locs hW => ?_)
    refine lv_aload_n hx hb dX6_longest_29 rfl (lv_at hl 1 rfl) ?_
    refine x_get F hW 0 rfl fa_X6_13 rfl dX6_longest_30 ?_
    obtain ⟨p_33, hc_33, h⟩ := of_bind h
    refine x_Si (av := [.ref (q 2)]) F hW (c_X6_hangIn l G (fun i => q (i + 2)) p_26 _ hc_33) [2] rfl rfl (by intro q; cases q) cs_X6_145 rfl rfl hl (Nat.le_of_ble_eq_true rfl) ⟨Nat.le_of_ble_eq_true rfl, Nat.le_of_ble_eq_true rfl⟩ ⟨rfl, rfl⟩ ⟨Nat.le_of_ble_eq_true rfl, Nat.le_of_ble_eq_true rfl⟩ dX6_longest_33 rfl [none, none, some 0, none, none, none, none, none, none, none] rfl (ws' := cMW G q (w.1, p_26, w.2.2.1, w.2.2.2.1, w.2.2.2.2.1, w.2.2.2.2.2.1, w.2.2.2.2.2.2.1, w.2.2.2.2.2.2.2.1, w.2.2.2.2.2.2.2.2.1, w.2.2.2.2.2.2.2.2.2.1, w.2.2.2.2.2.2.2.2.2.2.1, w.2.2.2.2.2.2.2.2.2.2.2.1, w.2.2.2.2.2.2.2.2.2.2.2.2.1, w.2.2.2.2.2.2.2.2.2.2.2.2.2)) rfl (fun H locs hW => ?_)
    obtain ⟨p_36, hc_36, h⟩ := of_bind h
    refine x_Si (av := [.int p_33]) F hW (c_X6_bits l G p_33 _ hc_36) [] rfl rfl (by intro q; cases q) cs_X6_148 rfl rfl hl (Nat.le_of_ble_eq_true rfl) ⟨Nat.le_of_ble_eq_true rfl, Nat.le_of_ble_eq_true rfl⟩ ⟨rfl, rfl⟩ ⟨Nat.le_of_ble_eq_true rfl, Nat.le_of_ble_eq_true rfl⟩ dX6_longest_36 rfl [none, none, none, none, none, none, none, none, none, none] rfl (ws' := cMW G q (w.1, p_26, w.2.2.1, w.2.2.2.1, w.2.2.2.2.1, w.2.2.2.2.2.1, w.2.2.2.2.2.2.1, w.2.2.2.2.2.2.2.1, w.2.2.2.2.2.2.2.2.1, w.2.2.2.2.2.2.2.2.2.1, w.2.2.2.2.2.2.2.2.2.2.1, w.2.2.2.2.2.2.2.2.2.2.2.1, w.2.2.2.2.2.2.2.2.2.2.2.2.1, w.2.2.2.2.2.2.2.2.2.2.2.2.2)) rfl (fun H locs hW => ?_)
    refine lv_istore_n (lv' := [(3, .int p_36), (2, .int p_4), (0, .ref (q 0)), (1, .int x1)]) hx hb dX6_longest_39 rfl hl (by decide) rfl (fun ls hl => ?_)
    refine lv_iconst (v := (0 : Int32)) hx hb dX6_longest_40 (by decide) ?_
    refine lv_istore (lv' := [(4, .int (0 : Int32)), (3, .int p_36), (2, .int p_4), (0, .ref (q 0)), (1, .int x1)]) hx hb dX6_longest_41 hl (by decide) rfl (fun ls hl => ?_)
    have L0 : ∀ (n0 : Nat) (v4_43 : Int32) (v3_43 : Int32) (w_43 : MW) (H : Heap) (locs : List Loc) (ls : Array Slot), f_X6_longest_43 x1 n0 v4_43 v3_43 w_43 = some o → Wd G A0 s (cMW G q w_43) H locs → lv_has ls 6 [(4, .int v4_43), (3, .int v3_43), (0, .ref (q 0)), (1, .int x1)] → W p l e rmX6_longest s m ([.ref (q 0), .int x1] : List Value).toArray below meth c H locs 0 0 (Qi below G (cMW G q o.2) o.1 A0 ([.ref (q 0), .int x1] : List Value).toArray s) (F0 m 43 ls []) := by
      intro n0
      induction n0 with
      | zero => intro v4_43 v3_43 w_43 H locs ls h; cases (show (none : Option (Int32 × MW)) = some o from h)
      | succ n0 ih0 =>
        intro v4_43 v3_43 w_43 H locs ls h hW hl
        refine lv_iload hx hb dX6_longest_43 (lv_at hl 0 rfl) ?_
        refine lv_iload_n hx hb dX6_longest_45 rfl (lv_at hl 3 rfl) ?_
        obtain ⟨ht_46, hf_46⟩ := of_ite h
        refine lv_icmp_ge (tgt := 93) hx hb dX6_longest_46 (by decide) (fun c_46 => ?_) (fun c_46 => ?_)
        · have h := ht_46 c_46
          refine lv_iload_n hx hb dX6_longest_93 rfl (lv_at hl 1 rfl) ?_
          obtain rfl := Option.some.inj h
          exact x_reti F hr hW rfl dX6_longest_94
        · have h := hf_46 c_46
          refine lv_aload_n hx hb dX6_longest_49 rfl (lv_at hl 2 rfl) ?_
          refine x_get F hW 0 rfl fa_X6_13 rfl dX6_longest_50 ?_
          obtain ⟨p_53, hc_53, h⟩ := of_bind h
          refine x_Si (av := [.ref (q 2)]) F hW (c_X6_night l G (fun i => q (i + 2)) w_43.2.1 _ hc_53) [2] rfl rfl (by intro q; cases q) cs_X6_90 rfl rfl hl (Nat.le_of_ble_eq_true rfl) ⟨Nat.le_of_ble_eq_true rfl, Nat.le_of_ble_eq_true rfl⟩ ⟨rfl, rfl⟩ ⟨Nat.le_of_ble_eq_true rfl, Nat.le_of_ble_eq_true rfl⟩ dX6_longest_53 rfl [none, none, some 0, none, none, none, none, none, none, none] rfl (ws' := cMW G q (w_43.1, p_53.2, w_43.2.2.1, w_43.2.2.2.1, w_43.2.2.2.2.1, w_43.2.2.2.2.2.1, w_43.2.2.2.2.2.2.1, w_43.2.2.2.2.2.2.2.1, w_43.2.2.2.2.2.2.2.2.1, w_43.2.2.2.2.2.2.2.2.2.1, w_43.2.2.2.2.2.2.2.2.2.2.1, w_43.2.2.2.2.2.2.2.2.2.2.2.1, w_43.2.2.2.2.2.2.2.2.2.2.2.2.1, w_43.2.2.2.2.2.2.2.2.2.2.2.2.2)) rfl (fun H locs hW => ?_)
          obtain ⟨x_56, e_x_56, h⟩ := of_nm h
          refine x_topi e_x_56 ?_
          refine lv_istore (lv' := [(5, .int x_56), (4, .int v4_43), (3, .int v3_43), (0, .ref (q 0)), (1, .int x1)]) hx hb dX6_longest_56 hl (by decide) rfl (fun ls hl => ?_)
          refine lv_aload_n hx hb dX6_longest_58 rfl (lv_at hl 3 rfl) ?_
          refine x_get F hW 0 rfl fa_X6_13 rfl dX6_longest_59 ?_
          obtain ⟨p_62, hc_62, h⟩ := of_bind h
          refine x_Si (av := [.ref (q 2)]) F hW (c_X6_hangIn l G (fun i => q (i + 2)) p_53.2 _ hc_62) [2] rfl rfl (by intro q; cases q) cs_X6_145 rfl rfl hl (Nat.le_of_ble_eq_true rfl) ⟨Nat.le_of_ble_eq_true rfl, Nat.le_of_ble_eq_true rfl⟩ ⟨rfl, rfl⟩ ⟨Nat.le_of_ble_eq_true rfl, Nat.le_of_ble_eq_true rfl⟩ dX6_longest_62 rfl [none, none, some 0, none, none, none, none, none, none, none] rfl (ws' := cMW G q (w_43.1, p_53.2, w_43.2.2.1, w_43.2.2.2.1, w_43.2.2.2.2.1, w_43.2.2.2.2.2.1, w_43.2.2.2.2.2.2.1, w_43.2.2.2.2.2.2.2.1, w_43.2.2.2.2.2.2.2.2.1, w_43.2.2.2.2.2.2.2.2.2.1, w_43.2.2.2.2.2.2.2.2.2.2.1, w_43.2.2.2.2.2.2.2.2.2.2.2.1, w_43.2.2.2.2.2.2.2.2.2.2.2.2.1, w_43.2.2.2.2.2.2.2.2.2.2.2.2.2)) rfl (fun H locs hW => ?_)
          obtain ⟨p_65, hc_65, h⟩ := of_bind h
          refine x_Si (av := [.int p_62]) F hW (c_X6_bits l G p_62 _ hc_65) [] rfl rfl (by intro q; cases q) cs_X6_148 rfl rfl hl (Nat.le_of_ble_eq_true rfl) ⟨Nat.le_of_ble_eq_true rfl, Nat.le_of_ble_eq_true rfl⟩ ⟨rfl, rfl⟩ ⟨Nat.le_of_ble_eq_true rfl, Nat.le_of_ble_eq_true rfl⟩ dX6_longest_65 rfl [none, none, none, none, none, none, none, none, none, none] rfl (ws' := cMW G q (w_43.1, p_53.2, w_43.2.2.1, w_43.2.2.2.1, w_43.2.2.2.2.1, w_43.2.2.2.2.2.1, w_43.2.2.2.2.2.2.1, w_43.2.2.2.2.2.2.2.1, w_43.2.2.2.2.2.2.2.2.1, w_43.2.2.2.2.2.2.2.2.2.1, w_43.2.2.2.2.2.2.2.2.2.2.1, w_43.2.2.2.2.2.2.2.2.2.2.2.1, w_43.2.2.2.2.2.2.2.2.2.2.2.2.1, w_43.2.2.2.2.2.2.2.2.2.2.2.2.2)) rfl (fun H locs hW => ?_)
          refine lv_iload_n hx hb dX6_longest_68 rfl (lv_at hl 2 rfl) ?_
          obtain ⟨ht_69, hf_69⟩ := of_ite h
          refine lv_icmp_le (tgt := 85) hx hb dX6_longest_69 (by decide) (fun c_69 => ?_) (fun c_69 => ?_)
          · have h := ht_69 c_69
            refine lv_iload_n hx hb dX6_longest_85 rfl (lv_at hl 2 rfl) ?_
            refine lv_istore_n (lv' := [(3, .int v3_43), (5, .int x_56), (4, .int v4_43), (0, .ref (q 0)), (1, .int x1)]) hx hb dX6_longest_86 rfl hl (by decide) rfl (fun ls hl => ?_)
            refine lv_iinc (v := (v4_43 + (1 : Int32))) (lv' := [(4, .int (v4_43 + (1 : Int32))), (3, .int v3_43), (5, .int x_56), (0, .ref (q 0)), (1, .int x1)]) hx hb dX6_longest_87 hl (k := 2) rfl rfl (by decide) rfl (fun ls hl => ?_)
            refine lv_goto (tgt := 43) hx hb dX6_longest_90 (by decide) ?_
            exact ih0 (v4_43 + (1 : Int32)) v3_43 (w_43.1, p_53.2, w_43.2.2.1, w_43.2.2.2.1, w_43.2.2.2.2.1, w_43.2.2.2.2.2.1, w_43.2.2.2.2.2.2.1, w_43.2.2.2.2.2.2.2.1, w_43.2.2.2.2.2.2.2.2.1, w_43.2.2.2.2.2.2.2.2.2.1, w_43.2.2.2.2.2.2.2.2.2.2.1, w_43.2.2.2.2.2.2.2.2.2.2.2.1, w_43.2.2.2.2.2.2.2.2.2.2.2.2.1, w_43.2.2.2.2.2.2.2.2.2.2.2.2.2) _ _ _ h hW (lv_sub hl [0, 1, 3, 4] rfl)
          · have h := hf_69 c_69
            refine lv_aload_n hx hb dX6_longest_72 rfl (lv_at hl 3 rfl) ?_
            refine x_get F hW 0 rfl fa_X6_13 rfl dX6_longest_73 ?_
            obtain ⟨p_76, hc_76, h⟩ := of_bind h
            refine x_Si (av := [.ref (q 2)]) F hW (c_X6_hangIn l G (fun i => q (i + 2)) p_53.2 _ hc_76) [2] rfl rfl (by intro q; cases q) cs_X6_145 rfl rfl hl (Nat.le_of_ble_eq_true rfl) ⟨Nat.le_of_ble_eq_true rfl, Nat.le_of_ble_eq_true rfl⟩ ⟨rfl, rfl⟩ ⟨Nat.le_of_ble_eq_true rfl, Nat.le_of_ble_eq_true rfl⟩ dX6_longest_76 rfl [none, none, some 0, none, none, none, none, none, none, none] rfl (ws' := cMW G q (w_43.1, p_53.2, w_43.2.2.1, w_43.2.2.2.1, w_43.2.2.2.2.1, w_43.2.2.2.2.2.1, w_43.2.2.2.2.2.2.1, w_43.2.2.2.2.2.2.2.1, w_43.2.2.2.2.2.2.2.2.1, w_43.2.2.2.2.2.2.2.2.2.1, w_43.2.2.2.2.2.2.2.2.2.2.1, w_43.2.2.2.2.2.2.2.2.2.2.2.1, w_43.2.2.2.2.2.2.2.2.2.2.2.2.1, w_43.2.2.2.2.2.2.2.2.2.2.2.2.2)) rfl (fun H locs hW => ?_)
            obtain ⟨p_79, hc_79, h⟩ := of_bind h
            refine x_Si (av := [.int p_76]) F hW (c_X6_bits l G p_76 _ hc_79) [] rfl rfl (by intro q; cases q) cs_X6_148 rfl rfl hl (Nat.le_of_ble_eq_true rfl) ⟨Nat.le_of_ble_eq_true rfl, Nat.le_of_ble_eq_true rfl⟩ ⟨rfl, rfl⟩ ⟨Nat.le_of_ble_eq_true rfl, Nat.le_of_ble_eq_true rfl⟩ dX6_longest_79 rfl [none, none, none, none, none, none, none, none, none, none] rfl (ws' := cMW G q (w_43.1, p_53.2, w_43.2.2.1, w_43.2.2.2.1, w_43.2.2.2.2.1, w_43.2.2.2.2.2.1, w_43.2.2.2.2.2.2.1, w_43.2.2.2.2.2.2.2.1, w_43.2.2.2.2.2.2.2.2.1, w_43.2.2.2.2.2.2.2.2.2.1, w_43.2.2.2.2.2.2.2.2.2.2.1, w_43.2.2.2.2.2.2.2.2.2.2.2.1, w_43.2.2.2.2.2.2.2.2.2.2.2.2.1, w_43.2.2.2.2.2.2.2.2.2.2.2.2.2)) rfl (fun H locs hW => ?_)
            refine lv_goto (tgt := 86) hx hb dX6_longest_82 (by decide) ?_
            refine lv_istore_n (lv' := [(3, .int p_79), (5, .int x_56), (4, .int v4_43), (0, .ref (q 0)), (1, .int x1)]) hx hb dX6_longest_86 rfl hl (by decide) rfl (fun ls hl => ?_)
            refine lv_iinc (v := (v4_43 + (1 : Int32))) (lv' := [(4, .int (v4_43 + (1 : Int32))), (3, .int p_79), (5, .int x_56), (0, .ref (q 0)), (1, .int x1)]) hx hb dX6_longest_87 hl (k := 2) rfl rfl (by decide) rfl (fun ls hl => ?_)
            refine lv_goto (tgt := 43) hx hb dX6_longest_90 (by decide) ?_
            exact ih0 (v4_43 + (1 : Int32)) p_79 (w_43.1, p_53.2, w_43.2.2.1, w_43.2.2.2.1, w_43.2.2.2.2.1, w_43.2.2.2.2.2.1, w_43.2.2.2.2.2.2.1, w_43.2.2.2.2.2.2.2.1, w_43.2.2.2.2.2.2.2.2.1, w_43.2.2.2.2.2.2.2.2.2.1, w_43.2.2.2.2.2.2.2.2.2.2.1, w_43.2.2.2.2.2.2.2.2.2.2.2.1, w_43.2.2.2.2.2.2.2.2.2.2.2.2.1, w_43.2.2.2.2.2.2.2.2.2.2.2.2.2) _ _ _ h hW (lv_sub hl [0, 1, 3, 4] rfl)
    exact L0 200 (0 : Int32) p_36 (w.1, p_26, w.2.2.1, w.2.2.2.1, w.2.2.2.2.1, w.2.2.2.2.2.1, w.2.2.2.2.2.2.1, w.2.2.2.2.2.2.2.1, w.2.2.2.2.2.2.2.2.1, w.2.2.2.2.2.2.2.2.2.1, w.2.2.2.2.2.2.2.2.2.2.1, w.2.2.2.2.2.2.2.2.2.2.2.1, w.2.2.2.2.2.2.2.2.2.2.2.2.1, w.2.2.2.2.2.2.2.2.2.2.2.2.2) _ _ _ h hW (lv_sub hl [0, 1, 3, 4] rfl)
  · have h := hf_9 c_9
    refine lv_aload_n hx hb dX6_longest_12 rfl (lv_at hl 1 rfl) ?_
    refine lv_iload_n hx hb dX6_longest_13 rfl (lv_at hl 0 rfl) ?_
    obtain ⟨p_14, hc_14, h⟩ := of_bind h
    refine x_Vi (av := [.ref (q 0), .int p_4]) (As := [.int p_4]) F hW (c_X6_no l G q w p_4 _ hc_14) [0, 1, 2, 3, 4, 5, 6, 7, 8, 9] rfl rfl (by intro q; cases q) cv_X6_39 rfl ⟨_, rfl, rfl⟩ rfl rfl rfl hl (Nat.le_of_ble_eq_true rfl) ⟨Nat.le_of_ble_eq_true rfl, Nat.le_of_ble_eq_true rfl⟩ ⟨rfl, rfl⟩ ⟨Nat.le_of_ble_eq_true rfl, Nat.le_of_ble_eq_true rfl⟩ dX6_longest_14 rfl [some 0, some 1, some 2, some 3, some 4, some 5, some 6, some 7, some 8, some 9] rfl (ws' := cMW G q p_14.2) rfl (fun H locs hW => ?_)
    obtain rfl := Option.some.inj h
    exact x_reti F hr hW rfl dX6_longest_17
def f_X6_fogged_2 : Nat → Int32 → MW → Option (Int32 × MW)
  | 0, _, _ => none
  | n0 + 1, v1_2, w_2 =>
    if (10 : Int32) ≤ v1_2 then
    some ((-9 : Int32), w_2)
    else
    Option.bind (f_X6_copies w_2.1 w_2.2.1) fun p_16 =>
    if inR (2 : Int32) 71 then
    Option.bind (f_X6_hangIn (upd p_16 (2 : Int32).toNatClampNeg v1_2)) fun p_30 =>
    if p_30 = 0 then
    some (v1_2, (w_2.1, (upd p_16 (2 : Int32).toNatClampNeg v1_2), w_2.2.2.1, w_2.2.2.2.1, w_2.2.2.2.2.1, w_2.2.2.2.2.2.1, w_2.2.2.2.2.2.2.1, w_2.2.2.2.2.2.2.2.1, w_2.2.2.2.2.2.2.2.2.1, w_2.2.2.2.2.2.2.2.2.2.1, w_2.2.2.2.2.2.2.2.2.2.2.1, w_2.2.2.2.2.2.2.2.2.2.2.2.1, w_2.2.2.2.2.2.2.2.2.2.2.2.2.1, w_2.2.2.2.2.2.2.2.2.2.2.2.2.2))
    else
    f_X6_fogged_2 n0 (v1_2 + (1 : Int32)) (w_2.1, (upd p_16 (2 : Int32).toNatClampNeg v1_2), w_2.2.2.1, w_2.2.2.2.1, w_2.2.2.2.2.1, w_2.2.2.2.2.2.1, w_2.2.2.2.2.2.2.1, w_2.2.2.2.2.2.2.2.1, w_2.2.2.2.2.2.2.2.2.1, w_2.2.2.2.2.2.2.2.2.2.1, w_2.2.2.2.2.2.2.2.2.2.2.1, w_2.2.2.2.2.2.2.2.2.2.2.2.1, w_2.2.2.2.2.2.2.2.2.2.2.2.2.1, w_2.2.2.2.2.2.2.2.2.2.2.2.2.2)
    else none
def f_X6_fogged (w : MW) : Option (Int32 × MW) :=
  f_X6_fogged_2 200 (0 : Int32) w
abbrev rmX6_fogged : Room := { frames := 5, cells := 0, slots := 0, locals := 115 }
set_option maxRecDepth 100000 in
set_option maxHeartbeats 4000000 in
theorem c_X6_fogged (l : Launch) (G : EnT) (q : Nat → Nat) (w : MW) (o : Int32 × MW) (h : f_X6_fogged w = some o) : Mi l yX6_fogged rmX6_fogged cX6_fogged 2 (some .int) G false [.ref (q 0)] (cMW G q w) o.1 (cMW G q o.2) := by
  refine Mi_of (by decide) (Nat.le_of_ble_eq_true rfl) ?_
  intro p e s m below meth c A0 F hr hW ls hl
  obtain ⟨hx, hb, hml, hown, hts, hK, hNW, hlocks, hA, hSX⟩ := id F
  have hl : lv_has ls 2 [(0, .ref (q 0))] := hl
  have hW : Wd G A0 s (cMW G q w) s.heap [] := hW
  show W p l e rmX6_fogged s m ([.ref (q 0)] : List Value).toArray below meth c s.heap [] 0 0 (Qi below G (cMW G q o.2) o.1 A0 ([.ref (q 0)] : List Value).toArray s) (F0 m 0 ls [])
  refine lv_iconst (v := (0 : Int32)) hx hb dX6_fogged_0 (by decide) ?_
  refine lv_istore_n (lv' := [(1, .int (0 : Int32)), (0, .ref (q 0))]) hx hb dX6_fogged_1 rfl hl (by decide) rfl (fun ls hl => ?_)
  have L0 : ∀ (n0 : Nat) (v1_2 : Int32) (w_2 : MW) (H : Heap) (locs : List Loc) (ls : Array Slot), f_X6_fogged_2 n0 v1_2 w_2 = some o → Wd G A0 s (cMW G q w_2) H locs → lv_has ls 2 [(1, .int v1_2), (0, .ref (q 0))] → W p l e rmX6_fogged s m ([.ref (q 0)] : List Value).toArray below meth c H locs 0 0 (Qi below G (cMW G q o.2) o.1 A0 ([.ref (q 0)] : List Value).toArray s) (F0 m 2 ls []) := by
    intro n0
    induction n0 with
    | zero => intro v1_2 w_2 H locs ls h; cases (show (none : Option (Int32 × MW)) = some o from h)
    | succ n0 ih0 =>
      intro v1_2 w_2 H locs ls h hW hl
      refine lv_iload_n hx hb dX6_fogged_2 rfl (lv_at hl 0 rfl) ?_
      refine lv_bipush (v := (10 : Int32)) hx hb dX6_fogged_3 (by decide) ?_
      obtain ⟨ht_5, hf_5⟩ := of_ite h
      refine lv_icmp_ge (tgt := 44) hx hb dX6_fogged_5 (by decide) (fun c_5 => ?_) (fun c_5 => ?_)
      · have h := ht_5 c_5
        refine lv_bipush (v := (-9 : Int32)) hx hb dX6_fogged_44 (by decide) ?_
        obtain rfl := Option.some.inj h
        exact x_reti F hr hW rfl dX6_fogged_46
      · have h := hf_5 c_5
        refine lv_aload_n hx hb dX6_fogged_8 rfl (lv_at hl 1 rfl) ?_
        refine x_get F hW 0 rfl fa_X6_9 rfl dX6_fogged_9 ?_
        refine lv_aload_n hx hb dX6_fogged_12 rfl (lv_at hl 1 rfl) ?_
        refine x_get F hW 0 rfl fa_X6_13 rfl dX6_fogged_13 ?_
        obtain ⟨p_16, hc_16, h⟩ := of_bind h
        refine x_Sv (av := [.ref (q 1), .ref (q 2)]) F hW (c_X6_copies l G (fun i => q (i + 1)) w_2.1 (fun i => q (i + 2)) w_2.2.1 _ hc_16) [1, 2] rfl rfl (by intro q; cases q) cs_X6_134 rfl rfl hl (Nat.le_of_ble_eq_true rfl) ⟨Nat.le_of_ble_eq_true rfl, Nat.le_of_ble_eq_true rfl⟩ ⟨rfl, rfl⟩ ⟨Nat.le_of_ble_eq_true rfl, Nat.le_of_ble_eq_true rfl⟩ dX6_fogged_16 rfl [none, some 0, some 1, none, none, none, none, none, none, none] rfl (ws' := cMW G q (w_2.1, p_16, w_2.2.2.1, w_2.2.2.2.1, w_2.2.2.2.2.1, w_2.2.2.2.2.2.1, w_2.2.2.2.2.2.2.1, w_2.2.2.2.2.2.2.2.1, w_2.2.2.2.2.2.2.2.2.1, w_2.2.2.2.2.2.2.2.2.2.1, w_2.2.2.2.2.2.2.2.2.2.2.1, w_2.2.2.2.2.2.2.2.2.2.2.2.1, w_2.2.2.2.2.2.2.2.2.2.2.2.2.1, w_2.2.2.2.2.2.2.2.2.2.2.2.2.2)) rfl (fun H locs hW => ?_)
        refine lv_aload_n hx hb dX6_fogged_19 rfl (lv_at hl 1 rfl) ?_
        refine x_get F hW 0 rfl fa_X6_13 rfl dX6_fogged_20 ?_
        refine lv_iconst (v := (2 : Int32)) hx hb dX6_fogged_23 (by decide) ?_
        refine lv_iload_n hx hb dX6_fogged_24 rfl (lv_at hl 0 rfl) ?_
        obtain ⟨g_25, h⟩ := of_guard h
        refine x_iast F hW 2 rfl g_25 (ws' := cMW G q (w_2.1, (upd p_16 (2 : Int32).toNatClampNeg v1_2), w_2.2.2.1, w_2.2.2.2.1, w_2.2.2.2.2.1, w_2.2.2.2.2.2.1, w_2.2.2.2.2.2.2.1, w_2.2.2.2.2.2.2.2.1, w_2.2.2.2.2.2.2.2.2.1, w_2.2.2.2.2.2.2.2.2.2.1, w_2.2.2.2.2.2.2.2.2.2.2.1, w_2.2.2.2.2.2.2.2.2.2.2.2.1, w_2.2.2.2.2.2.2.2.2.2.2.2.2.1, w_2.2.2.2.2.2.2.2.2.2.2.2.2.2)) rfl dX6_fogged_25 (fun H locs hW => ?_)
        refine lv_aload_n hx hb dX6_fogged_26 rfl (lv_at hl 1 rfl) ?_
        refine x_get F hW 0 rfl fa_X6_13 rfl dX6_fogged_27 ?_
        obtain ⟨p_30, hc_30, h⟩ := of_bind h
        refine x_Si (av := [.ref (q 2)]) F hW (c_X6_hangIn l G (fun i => q (i + 2)) (upd p_16 (2 : Int32).toNatClampNeg v1_2) _ hc_30) [2] rfl rfl (by intro q; cases q) cs_X6_145 rfl rfl hl (Nat.le_of_ble_eq_true rfl) ⟨Nat.le_of_ble_eq_true rfl, Nat.le_of_ble_eq_true rfl⟩ ⟨rfl, rfl⟩ ⟨Nat.le_of_ble_eq_true rfl, Nat.le_of_ble_eq_true rfl⟩ dX6_fogged_30 rfl [none, none, some 0, none, none, none, none, none, none, none] rfl (ws' := cMW G q (w_2.1, (upd p_16 (2 : Int32).toNatClampNeg v1_2), w_2.2.2.1, w_2.2.2.2.1, w_2.2.2.2.2.1, w_2.2.2.2.2.2.1, w_2.2.2.2.2.2.2.1, w_2.2.2.2.2.2.2.2.1, w_2.2.2.2.2.2.2.2.2.1, w_2.2.2.2.2.2.2.2.2.2.1, w_2.2.2.2.2.2.2.2.2.2.2.1, w_2.2.2.2.2.2.2.2.2.2.2.2.1, w_2.2.2.2.2.2.2.2.2.2.2.2.2.1, w_2.2.2.2.2.2.2.2.2.2.2.2.2.2)) rfl (fun H locs hW => ?_)
        obtain ⟨ht_33, hf_33⟩ := of_ite h
        refine lv_if_ne (tgt := 38) hx hb dX6_fogged_33 (by decide) (fun c_33 => ?_) (fun c_33 => ?_)
        · have h := hf_33 c_33
          refine lv_iinc (v := (v1_2 + (1 : Int32))) (lv' := [(1, .int (v1_2 + (1 : Int32))), (0, .ref (q 0))]) hx hb dX6_fogged_38 hl (k := 0) rfl rfl (by decide) rfl (fun ls hl => ?_)
          refine lv_goto (tgt := 2) hx hb dX6_fogged_41 (by decide) ?_
          exact ih0 (v1_2 + (1 : Int32)) (w_2.1, (upd p_16 (2 : Int32).toNatClampNeg v1_2), w_2.2.2.1, w_2.2.2.2.1, w_2.2.2.2.2.1, w_2.2.2.2.2.2.1, w_2.2.2.2.2.2.2.1, w_2.2.2.2.2.2.2.2.1, w_2.2.2.2.2.2.2.2.2.1, w_2.2.2.2.2.2.2.2.2.2.1, w_2.2.2.2.2.2.2.2.2.2.2.1, w_2.2.2.2.2.2.2.2.2.2.2.2.1, w_2.2.2.2.2.2.2.2.2.2.2.2.2.1, w_2.2.2.2.2.2.2.2.2.2.2.2.2.2) _ _ _ h hW (lv_sub hl [0, 1] rfl)
        · have h := ht_33 c_33
          refine lv_iload_n hx hb dX6_fogged_36 rfl (lv_at hl 0 rfl) ?_
          obtain rfl := Option.some.inj h
          exact x_reti F hr hW rfl dX6_fogged_37
  exact L0 200 (0 : Int32) w _ _ _ h hW (lv_sub hl [0, 1] rfl)
def f_X6_highest_4 (w : MW) : Nat → Int32 → Int32 → Option (Int32)
  | 0, _, _ => none
  | n0 + 1, v2_4, v1_4 =>
    if (20 : Int32) ≤ v2_4 then
    some v1_4
    else
    if inR ((3 : Int32) + v2_4) 71 then
    if inR ((3 : Int32) + v1_4) 71 then
    if (w.1 ((3 : Int32) + v2_4).toNatClampNeg) ≤ (w.1 ((3 : Int32) + v1_4).toNatClampNeg) then
    f_X6_highest_4 w n0 (v2_4 + (1 : Int32)) v1_4
    else
    f_X6_highest_4 w n0 (v2_4 + (1 : Int32)) v2_4
    else none
    else none
def f_X6_highest (w : MW) : Option (Int32) :=
  f_X6_highest_4 w 200 (0 : Int32) (0 : Int32)
abbrev rmX6_highest : Room := { frames := 0, cells := 0, slots := 0, locals := 0 }
set_option maxRecDepth 100000 in
set_option maxHeartbeats 4000000 in
theorem c_X6_highest (l : Launch) (G : EnT) (q : Nat → Nat) (w : MW) (o : Int32) (h : f_X6_highest w = some o) : Mi l yX6_highest rmX6_highest cX6_highest 3 (some .int) G false [.ref (q 0)] (cMW G q w) o (cMW G q w) := by
  refine Mi_of (by decide) (Nat.le_of_ble_eq_true rfl) ?_
  intro p e s m below meth c A0 F hr hW ls hl
  obtain ⟨hx, hb, hml, hown, hts, hK, hNW, hlocks, hA, hSX⟩ := id F
  have hl : lv_has ls 3 [(0, .ref (q 0))] := hl
  have hW : Wd G A0 s (cMW G q w) s.heap [] := hW
  show W p l e rmX6_highest s m ([.ref (q 0)] : List Value).toArray below meth c s.heap [] 0 0 (Qi below G (cMW G q w) o A0 ([.ref (q 0)] : List Value).toArray s) (F0 m 0 ls [])
  refine lv_iconst (v := (0 : Int32)) hx hb dX6_highest_0 (by decide) ?_
  refine lv_istore_n (lv' := [(1, .int (0 : Int32)), (0, .ref (q 0))]) hx hb dX6_highest_1 rfl hl (by decide) rfl (fun ls hl => ?_)
  refine lv_iconst (v := (0 : Int32)) hx hb dX6_highest_2 (by decide) ?_
  refine lv_istore_n (lv' := [(2, .int (0 : Int32)), (1, .int (0 : Int32)), (0, .ref (q 0))]) hx hb dX6_highest_3 rfl hl (by decide) rfl (fun ls hl => ?_)
  have L0 : ∀ (n0 : Nat) (v2_4 : Int32) (v1_4 : Int32) (H : Heap) (locs : List Loc) (ls : Array Slot), f_X6_highest_4 w n0 v2_4 v1_4 = some o → Wd G A0 s (cMW G q w) H locs → lv_has ls 3 [(2, .int v2_4), (1, .int v1_4), (0, .ref (q 0))] → W p l e rmX6_highest s m ([.ref (q 0)] : List Value).toArray below meth c H locs 0 0 (Qi below G (cMW G q w) o A0 ([.ref (q 0)] : List Value).toArray s) (F0 m 4 ls []) := by
    intro n0
    induction n0 with
    | zero => intro v2_4 v1_4 H locs ls h; cases (show (none : Option (Int32)) = some o from h)
    | succ n0 ih0 =>
      intro v2_4 v1_4 H locs ls h hW hl
      refine lv_iload_n hx hb dX6_highest_4 rfl (lv_at hl 0 rfl) ?_
      refine lv_bipush (v := (20 : Int32)) hx hb dX6_highest_5 (by decide) ?_
      obtain ⟨ht_7, hf_7⟩ := of_ite h
      refine lv_icmp_ge (tgt := 37) hx hb dX6_highest_7 (by decide) (fun c_7 => ?_) (fun c_7 => ?_)
      · have h := ht_7 c_7
        refine lv_iload_n hx hb dX6_highest_37 rfl (lv_at hl 1 rfl) ?_
        obtain rfl := Option.some.inj h
        exact x_reti F hr hW rfl dX6_highest_38
      · have h := hf_7 c_7
        refine lv_aload_n hx hb dX6_highest_10 rfl (lv_at hl 2 rfl) ?_
        refine x_get F hW 0 rfl fa_X6_9 rfl dX6_highest_11 ?_
        refine lv_iconst (v := (3 : Int32)) hx hb dX6_highest_14 (by decide) ?_
        refine lv_iload_n hx hb dX6_highest_15 rfl (lv_at hl 0 rfl) ?_
        refine lv_iadd hx hb dX6_highest_16 ?_
        obtain ⟨g_17, h⟩ := of_guard h
        refine x_iald F hW 1 rfl g_17 dX6_highest_17 ?_
        refine lv_aload_n hx hb dX6_highest_18 rfl (lv_at hl 2 rfl) ?_
        refine x_get F hW 0 rfl fa_X6_9 rfl dX6_highest_19 ?_
        refine lv_iconst (v := (3 : Int32)) hx hb dX6_highest_22 (by decide) ?_
        refine lv_iload_n hx hb dX6_highest_23 rfl (lv_at hl 1 rfl) ?_
        refine lv_iadd hx hb dX6_highest_24 ?_
        obtain ⟨g_25, h⟩ := of_guard h
        refine x_iald F hW 1 rfl g_25 dX6_highest_25 ?_
        obtain ⟨ht_26, hf_26⟩ := of_ite h
        refine lv_icmp_le (tgt := 31) hx hb dX6_highest_26 (by decide) (fun c_26 => ?_) (fun c_26 => ?_)
        · have h := ht_26 c_26
          refine lv_iinc (v := (v2_4 + (1 : Int32))) (lv' := [(2, .int (v2_4 + (1 : Int32))), (1, .int v1_4), (0, .ref (q 0))]) hx hb dX6_highest_31 hl (k := 0) rfl rfl (by decide) rfl (fun ls hl => ?_)
          refine lv_goto (tgt := 4) hx hb dX6_highest_34 (by decide) ?_
          exact ih0 (v2_4 + (1 : Int32)) v1_4 _ _ _ h hW (lv_sub hl [0, 1, 2] rfl)
        · have h := hf_26 c_26
          refine lv_iload_n hx hb dX6_highest_29 rfl (lv_at hl 0 rfl) ?_
          refine lv_istore_n (lv' := [(1, .int v2_4), (2, .int v2_4), (0, .ref (q 0))]) hx hb dX6_highest_30 rfl hl (by decide) rfl (fun ls hl => ?_)
          refine lv_iinc (v := (v2_4 + (1 : Int32))) (lv' := [(2, .int (v2_4 + (1 : Int32))), (1, .int v2_4), (0, .ref (q 0))]) hx hb dX6_highest_31 hl (k := 1) rfl rfl (by decide) rfl (fun ls hl => ?_)
          refine lv_goto (tgt := 4) hx hb dX6_highest_34 (by decide) ?_
          exact ih0 (v2_4 + (1 : Int32)) v2_4 _ _ _ h hW (lv_sub hl [0, 1, 2] rfl)
  exact L0 200 (0 : Int32) (0 : Int32) _ _ _ h hW (lv_sub hl [0, 1, 2] rfl)
