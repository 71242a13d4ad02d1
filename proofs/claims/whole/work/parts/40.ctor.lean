/-! constructors: what they leave is told of some addresses, the first of them the object's -/
def Bc (G : EnT) (C1f : (Nat → Nat) → va_W) (a : Nat) (A : Nat → Prop) (H : Heap) : Prop := ∃ q : Nat → Nat, q 0 = a ∧ va_P G.1 vwCl (C1f q) H ∧ va_D A (C1f q)
def Mc (l : Launch) (y : MethodName) (rm : Room) (cc : ByteArray) (nL : Nat) (G : EnT) (a : Nat) (C0 : va_W) (C1f : (Nat → Nat) → va_W) : Prop :=
  ∀ sz : Nat, Met l y (.code y cc nL none :: GT) rm (va_Pc [.ref a] (Pq G false C0 sz)) (va_Qv (fun (_ : Unit) => True) (fun _ t => Bc G C1f a (va_A C0 sz) t.heap) (va_A C0 sz)) rm.cells rm.slots (va_A C0 sz)
theorem Mc_of {l : Launch} {y : MethodName} {rm : Room} {cc : ByteArray} {nL : Nat} {G : EnT} {a : Nat} {C0 : va_W} {C1f : (Nat → Nat) → va_W} (hy : plainName y.cls = true) (hn : (lg_sl [.ref a]).length ≤ nL)
    (body : ∀ (p : Program) (e : Env) (s : State) (m : MethodId) (below : List Frame) (meth : Method) (c : Code) (A0 : Nat → Prop), Fx p s m ([.ref a] : List Value).toArray meth c cc nL y.cls G false A0 → meth.sig.returnType = none → meth.name = y.name → Wd G A0 s C0 s.heap [] → ∀ ls : Array Slot, lv_has ls nL (lv_args 0 [.ref a]) →
      W p l e rm s m ([.ref a] : List Value).toArray below meth c s.heap [] 0 0 (MQ below (va_Qv (fun (_ : Unit) => True) (fun _ t => Bc G C1f a A0 t.heap) A0) ([.ref a] : List Value).toArray s rm.cells rm.slots A0) (F0 m 0 ls [])) : Mc l y rm cc nL G a C0 C1f := by
  intro sz
  refine Met.ofW (cc := cc) (maxL := nL) (ret := none) hy rfl ?_
  intro p e s m args below meth c s₁ B hml hv
  obtain ⟨rfl, hsz, hP, hK, hD0, hNW, hSX⟩ := hv
  have hts := atoms_spec (ws := .code y cc nL none :: GT) B.pre
  have hown : s.vm.findClass y.cls = some m.cls := findClass_of_methodNamed B.named
  subst hsz
  have hD := hD0.self (sz := s.heap.size)
  have hl := lv_entry [.ref a] hn
  rw [lg_entry_eq]
  exact body p e s m below meth c (va_A C0 s.heap.size) ⟨B.exec, B.bytes, hml, hown, fun w hw => hts w (List.mem_cons_of_mem _ hw), hK, hNW, B.notSynchronized, fun q h => Or.inr h, hSX⟩ B.returns (name_of_methodNamed B.named B.method).1 ⟨hP, hD, va_S.rf⟩ _ hl
theorem join_last {D : va_G} {cl : List vw_C} {A0 : Nat → Prop} {ws C1 : va_W} {q : Nat} {e0 : va_E} {H H1 : Heap} (hP : va_P D cl (ws ++ [(q, e0)]) H) (hD : va_D A0 (ws ++ [(q, e0)])) (hk : ∀ z : Nat, z < H.size → ¬ va_A [(q, e0)] H.size z → H1[z]? = H[z]?) (hF : ∀ z, va_A [(q, e0)] H.size z → A0 z) (hP1 : va_P D cl C1 H1) (hD1 : va_D (va_A [(q, e0)] H.size) C1) : va_P D cl (ws ++ C1) H1 ∧ va_D A0 (ws ++ C1) := by
  have low : ∀ (k : Nat) (x : Nat × va_E), ws[k]? = some x → (ws ++ [(q, e0)])[k]? = some x := fun k x hx => by rw [List.getElem?_append_left (List.getElem?_eq_some_iff.mp hx).1]; exact hx
  have hlast : (ws ++ [(q, e0)])[ws.length]? = some (q, e0) := by simp
  have out : ∀ (k : Nat) (x : Nat × va_E), ws[k]? = some x → x.1 < H.size ∧ ¬ va_A [(q, e0)] H.size x.1 := by
    intro k x hx
    have hl := (hP k x (low k x hx)).lt
    refine ⟨hl, fun h => ?_⟩
    rcases h with ⟨k2, e2, h⟩ | h
    · have h1 : k2 = 0 := by
        have := (List.getElem?_eq_some_iff.mp h).1
        simpa using this
      subst h1
      simp only [List.getElem?_cons_zero, Option.some.injEq, Prod.mk.injEq] at h
      have := hD.1 k ws.length x (q, e0) (low k x hx) hlast h.1.symm
      have := (List.getElem?_eq_some_iff.mp hx).1
      omega
    · omega
  refine ⟨va_P.app (fun k x hx => ?_) hP1, va_D.app ⟨fun i j x z hi hj hz => hD.1 i j x z (low i x hi) (low j z hj) hz, fun k x hx => hD.2 k x (low k x hx)⟩ (hD1.weaken (fun k x _ h => hF x.1 h)) (fun i j x z hx hz hxz => ?_)⟩
  · exact (hP k x (low k x hx)).kept (hk x.1 (out k x hx).1 (out k x hx).2)
  · exact (out i x hx).2 (by rw [hxz]; exact hD1.2 j z hz)
section XK
variable {p : Program} {l : Launch} {e : Env} {R : Room} {s : State} {m : MethodId} {args : Array Value} {below : List Frame} {meth : Method} {c : Code} {H : Heap} {locs : List Loc} {cells slots : Nat} {Q : State → Prop}
variable {pc : Nat} {ls : Array Slot} {rest st0 : List Value} {A0 : Nat → Prop} {G : EnT} {b : Bool} {cc : ByteArray} {nL : Nat} {own : String} {ws : va_W} {a : Nat} {lv : List (Nat × Value)}
def FF (ci : Nat) (own : String) (index k : Nat) (t : FieldType) : Prop := ∃ (C : String) (T : u_T) (N : Nat) (ty : Nat → FieldType), vwCl[ci]? = some (C, T, N) ∧ k < N ∧ (∀ w ∈ u_ws C T N, w ∈ GT) ∧ Cond.fieldLink own index C (T k).2.1 (T k).2.2.1 ∈ GT ∧ (T k).1 = C ∧ (∀ k, k < N → parseFieldDescriptor (T k).2.2.1 = some (ty k)) ∧ (∀ a, a < N → ∀ b, b < N → a ≠ b → (T a).2.1 ≠ (T b).2.1) ∧ (T k).2.2.2 = true ∧ parseFieldDescriptor (T k).2.2.1 = some t ∧ (T k).1 = own
theorem x_putF (F : Fx p s m args meth c cc nL own G b A0) (hin : meth.name = "<init>") (hW : Wd G A0 s ws H locs) (q0 : Nat) {ci index k : Nat} {fs : List Value} (he : ws[q0]? = some (a, .inr (ci, fs))) {t : FieldType} (fa : FF ci own index k t) {v : Value} (hn : narrow t v = v) (hfit : fits t v = true) (hl : k < fs.length) {ws' : va_W} (hs : ws.set q0 (a, .inr (ci, fs.set k v)) = ws') (hdg : decode cc pc = .ok (.putfield index, 3))
    (kk : ∀ (H1 : Heap) (locs1 : List Loc), Wd G A0 s ws' H1 locs1 → W p l e R s m args below meth c H1 locs1 cells slots Q (F0 m (pc + 3) ls rest)) : W p l e R s m args below meth c H locs cells slots Q (F0 m pc ls (v :: .ref a :: rest)) := by
  obtain ⟨hx, hb, hml, hown, hts, hK, -⟩ := F
  obtain ⟨C, T, N, ty, f1, f2, f3, f4, f5, f6, f7, f8, f9, f10⟩ := fa
  refine va_putF (D := G.1) (ci := ci) (v := v) (ty := t) (C := C) (T := T) (N := N) hx hb hts f3 ty f6 f7 hown hK hW.1 hW.2.1 hW.2.2 q0 he f1 k f2 (hts _ f4) (fun x h => by rw [f5] at h; exact h) f8 hin f10 f9 hn hfit hl hdg (fun H1 locs1 h1 h2 h3 => kk H1 locs1 ⟨hs ▸ h1, hs ▸ h2, h3⟩)
theorem x_newa (F : Fx p s m args meth c cc nL own G b A0) (hW : Wd G A0 s ws H locs) {n : Int32} {N : Nat} (hn : ¬ n < 0 ∧ n.toNatClampNeg = N) (hbytes : N * componentBytes .int ≤ 536870912) (hcells : cells + 1 ≤ R.cells) (hslots : slots + N ≤ R.slots) (hac : Cond.arrayClass .int ∈ GT) (hdg : decode cc pc = .ok (.newarray .int, 2))
    (kk : ∀ (q : Nat) (H1 : Heap), Wd G A0 s (ws ++ [(q, .inl (G.2.1, N, .inl (fun _ => 0)))]) H1 locs → W p l e R s m args below meth c H1 locs (cells + 1) (slots + N) Q (F0 m (pc + 2) ls (.ref q :: rest))) : W p l e R s m args below meth c H locs cells slots Q (F0 m pc ls (.int n :: rest)) := by
  obtain ⟨hx, hb, hml, hown, hts, hK, -, -, hA, -⟩ := F
  refine va_newa (atype := .int) (ty := .int) hx hb (hts _ hac) rfl hK hW.1 hW.2.1 hW.2.2 hA (N' := N) (a0 := (N, .inl (fun _ => 0))) (fun cA => rfl) hn.1 hn.2 hbytes hcells hslots hdg (fun q cA H1 hK1 hP1 hD1 hS1 => ?_)
  have h0 := (hK1.2 0 (G.2.1, .int) rfl).2
  have h1 := (hK1.2 1 (cA, .int) rfl).2
  have e : cA = G.2.1 := Option.some.inj ((show s.vm.findClass ("[" ++ FieldType.int.toString) = some cA from h1).symm.trans h0)
  subst e
  exact kk q H1 ⟨hP1, hD1, hS1⟩
theorem x_newo (F : Fx p s m args meth c cc nL own G b A0) (hW : Wd G A0 s ws H locs) {ci index N : Nat} {C : String} {T : u_T} {ty : Nat → FieldType} {fs : List Value} (hc : vwCl[ci]? = some (C, T, N)) (hu : ∀ w ∈ u_ws C T N, w ∈ GT) (hty : ∀ k, k < N → parseFieldDescriptor (T k).2.2.1 = some (ty k)) (hfs : ∀ j, j < N → defaultValue (ty j) = vp_V fs j) (hcl : Cond.classLink own index C ∈ GT) (hinst : Cond.instantiable C N ∈ GT) (hini : Cond.initialized C ∈ GT) (hcells : cells + 1 ≤ R.cells) (hslots : slots + N ≤ R.slots) (hdg : decode cc pc = .ok (.new index, 3))
    (kk : ∀ (q : Nat) (H1 : Heap), Wd G A0 s (ws ++ [(q, .inr (ci, fs))]) H1 locs → W p l e R s m args below meth c H1 locs (cells + 1) (slots + N) Q (F0 m (pc + 3) ls (.ref q :: rest))) : W p l e R s m args below meth c H locs cells slots Q (F0 m pc ls rest) := by
  obtain ⟨hx, hb, hml, hown, hts, hK, -, -, hA, -⟩ := F
  exact va_new (ci := ci) (fs := fs) (C := C) (T := T) (N := N) hx hb hts hu ty hty hown (hts _ hcl) (hts _ hinst) (hts _ hini) hK hW.1 hW.2.1 hW.2.2 hA hc hfs hcells hslots hdg (fun q H1 h1 h2 h3 => kk q H1 ⟨h1, h2, h3⟩)
theorem x_objInit (F : Fx p s m args meth c cc nL own G b A0) (hl : lv_has ls nL lv) {idx : Nat} (h1 : Cond.methodLink own idx Lib.objectInit ∈ GT) (h2 : Cond.instanceMethod Lib.objectInit ∈ GT) (h3 : Cond.code Lib.objectInit ⟨#[0xb1]⟩ 1 none ∈ GT) (hd : decode cc pc = .ok (.invokespecial idx, 3)) (hframes : 1 ≤ R.frames) (hlocals : (rest.map fun v => v.category).sum + 12 ≤ R.locals)
    (kk : W p l e R s m args below meth c H locs cells slots Q (F0 m (pc + 3) ls rest)) : W p l e R s m args below meth c H locs cells slots Q (F0 m pc ls (.ref a :: rest)) := by
  obtain ⟨hx, hb, hml, hown, hts, hK, -⟩ := F
  refine W.objInit hx hb hown (hts _ h1) (hts _ h2) (hts _ h3) rfl (by rw [hml]; exact hl.1) rfl hd hframes (by show 2 * 0 + _ + 12 ≤ _; omega) ?_
  exact kk
/-- the words of a constructor called by a nest mate, or not -/
def CNI (own : String) (index : Nat) (y : MethodName) (host : String) (bytes : ByteArray) (maxL : Nat) : Prop := Cond.methodLinkNest own index y host ∈ NWl ∧ Cond.instanceMethod y ∈ GT ∧ Cond.initialized y.cls ∈ GT ∧ Cond.code y bytes maxL none ∈ GT ∧ y.name = "<init>" ∧ y.cls ≠ "java/lang/invoke/MethodHandle" ∧ y.cls ≠ "java/lang/invoke/VarHandle" ∧ (parseMethodDescriptor y.desc).map (fun d => d.parameters.length) = some 0
def CVI (own : String) (index : Nat) (y : MethodName) (bytes : ByteArray) (maxL : Nat) : Prop := Cond.methodLink own index y ∈ GT ∧ Cond.instanceMethod y ∈ GT ∧ Cond.initialized y.cls ∈ GT ∧ Cond.code y bytes maxL none ∈ GT ∧ y.name = "<init>" ∧ y.cls ≠ "java/lang/invoke/MethodHandle" ∧ y.cls ≠ "java/lang/invoke/VarHandle" ∧ (parseMethodDescriptor y.desc).map (fun d => d.parameters.length) = some 0
variable {y : MethodName} {rm : Room} {bytes : ByteArray} {maxL index : Nat}
theorem x_ctorPre (F : Fx p s m args meth c cc nL own G b A0) {q : Nat} {e0 : va_E} (hW : Wd G A0 s (ws ++ [(q, e0)]) H locs) : (∀ z, va_A [(q, e0)] H.size z → A0 z) ∧ ∀ U : State, U.heap = H → s.WarmedH U.vm → Pq G false [(q, e0)] H.size U := by
  have hlast : (ws ++ [(q, e0)])[ws.length]? = some (q, e0) := by simp
  have hC : [ws.length].map (fun i => (ws ++ [(q, e0)])[i]?) = [(q, e0)].map some := by simp [hlast]
  exact ⟨va_free (wc := [(q, e0)]) hW.2.1 hW.2.2 F.2.2.2.2.2.2.2.2.1 [ws.length] hC, x_pre F hW [ws.length] hC (by simp [va_nd]) (fun h => by cases h)⟩
theorem x_ctorN {q : Nat} {e0 : va_E} {host : String} {C1f : (Nat → Nat) → va_W} (F : Fx p s m args meth c cc nL own G b A0) (hW : Wd G A0 s (ws ++ [(q, e0)]) H locs) (hM : Mc l y rm bytes maxL G q [(q, e0)] C1f) (hcn : CNI own index y host bytes maxL) (hl : lv_has ls nL lv) (hro : (rest.map fun v => v.category).sum ≤ 8)
    (hR : rm.frames + 1 ≤ R.frames ∧ 8 + (maxL + 11) + rm.locals ≤ R.locals) (hcs : cells + rm.cells ≤ R.cells ∧ slots + rm.slots ≤ R.slots) (hdg : decode cc pc = .ok (.invokespecial index, 3))
    (kk : ∀ (q5 : Nat → Nat) (H1 : Heap) (locs1 : List Loc), q5 0 = q → Wd G A0 s (ws ++ C1f q5) H1 locs1 → W p l e R s m args below meth c H1 locs1 (cells + rm.cells) (slots + rm.slots) Q (F0 m (pc + 3) ls rest)) : W p l e R s m args below meth c H locs cells slots Q (F0 m pc ls (.ref q :: rest)) := by
  obtain ⟨hF, hpre⟩ := x_ctorPre F hW
  obtain ⟨hx, hb, hml, hown, hts, hK, hN, hlocks, hA, hSX⟩ := F
  obtain ⟨w1, w2, w3, w4, w5, w6, w7, w8⟩ := hcn
  have cw := va_cnB (R := R) (args := args) (rm := rm) (mc := rm.cells) (ms := rm.slots) 0 hts (GT_code w4) rfl rfl rfl (hN _ w1) (hts _ w3) ⟨w6, w7, w8⟩ hR
  refine va_callv (va_runIN (As := []) (rest := rest) (Ts := GT) ⟨hx, hb, hml, hown, hts⟩ (hM H.size) ⟨cw, w5, hts _ w2⟩ ⟨Pq_blind, fun U hU hw => ⟨rfl, hpre U hU hw⟩⟩ rfl rfl hl.1 rfl (lv_room hro) hdg hcs) hW.2.2 (fun z _ h => hF z h) hF (fun u t H1 locs1 ht hvm hw hB hz hk hS => ?_)
  obtain ⟨q5, h0, hP1, hD1⟩ := hB
  rw [ht] at hP1
  obtain ⟨hP2, hD2⟩ := join_last hW.1 hW.2.1 hk hF hP1 hD1
  exact kk q5 H1 locs1 h0 ⟨hP2, hD2, hS⟩
theorem x_ctorI {q : Nat} {e0 : va_E} {C1f : (Nat → Nat) → va_W} (F : Fx p s m args meth c cc nL own G b A0) (hW : Wd G A0 s (ws ++ [(q, e0)]) H locs) (hM : Mc l y rm bytes maxL G q [(q, e0)] C1f) (hcn : CVI own index y bytes maxL) (hl : lv_has ls nL lv) (hro : (rest.map fun v => v.category).sum ≤ 8)
    (hR : rm.frames + 1 ≤ R.frames ∧ 8 + (maxL + 11) + rm.locals ≤ R.locals) (hcs : cells + rm.cells ≤ R.cells ∧ slots + rm.slots ≤ R.slots) (hdg : decode cc pc = .ok (.invokespecial index, 3))
    (kk : ∀ (q5 : Nat → Nat) (H1 : Heap) (locs1 : List Loc), q5 0 = q → Wd G A0 s (ws ++ C1f q5) H1 locs1 → W p l e R s m args below meth c H1 locs1 (cells + rm.cells) (slots + rm.slots) Q (F0 m (pc + 3) ls rest)) : W p l e R s m args below meth c H locs cells slots Q (F0 m pc ls (.ref q :: rest)) := by
  obtain ⟨hF, hpre⟩ := x_ctorPre F hW
  obtain ⟨hx, hb, hml, hown, hts, hK, hN, hlocks, hA, hSX⟩ := F
  obtain ⟨w1, w2, w3, w4, w5, w6, w7, w8⟩ := hcn
  have cw := cwI (R := R) (args := args) (rm := rm) (mc := rm.cells) (ms := rm.slots) (own := own) (index := index) 0 hts (GT_code w4) rfl rfl rfl (hts _ w3) (hts _ w1) (hts _ w2) w5 ⟨w6, w7, w8⟩ hR
  refine va_callv (va_runI (As := []) (rest := rest) (Ts := GT) ⟨hx, hb, hml, hown, hts⟩ (hM H.size) cw ⟨Pq_blind, fun U hU hw => ⟨rfl, hpre U hU hw⟩⟩ rfl rfl hl.1 rfl (lv_room hro) hdg hcs) hW.2.2 (fun z _ h => hF z h) hF (fun u t H1 locs1 ht hvm hw hB hz hk hS => ?_)
  obtain ⟨q5, h0, hP1, hD1⟩ := hB
  rw [ht] at hP1
  obtain ⟨hP2, hD2⟩ := join_last hW.1 hW.2.1 hk hF hP1 hD1
  exact kk q5 H1 locs1 h0 ⟨hP2, hD2, hS⟩
theorem x_retc {C1f : (Nat → Nat) → va_W} (F : Fx p s m args meth c cc nL own G b A0) (hr : meth.sig.returnType = none) (hW : Wd G A0 s ws H locs) (q : Nat → Nat) (hq : q 0 = a) (is : List Nat) (hs1 : is.filterMap (fun i => ws[i]?) = C1f q) (hs2 : is.map (fun i => ws[i]?) = (C1f q).map some) (hnd : va_nd is = true) (hdg : decode cc pc = .ok (.return_, 1)) : W p l e R s m args below meth c H locs cells slots (MQ below (va_Qv (fun (_ : Unit) => True) (fun _ t => Bc G C1f a A0 t.heap) A0) args s cells slots A0) (F0 m pc ls []) := by
  obtain ⟨hx, hb, hml, hown, hts, hK, hN, hlocks, -⟩ := F
  exact W.vret hx hb hr (fun t ht hw => ⟨⟨(), rfl, trivial, q, hq, by rw [ht]; exact hW.1.sub is hs1, hW.2.1.sub is hnd hs2⟩, hW.2.2.F ht⟩) hW.2.2.2.2 hdg
end XK

abbrev iLD : LD := ((fun _ => 0), (fun _ => 0), (fun _ => 0), (fun _ => 0), (fun _ => 0), 0, 0, 0, 0)
abbrev iSG : SG := ((fun _ => 0), (fun _ => 0), 0, 0)
abbrev iLT : LT := ((fun _ => 0), 0, 0)
abbrev iTW : TW := (iLD, iLD, iSG, iSG, (fun _ => 0), (fun _ => 0), (fun _ => 0))
abbrev iEW : EW := (iTW, iLD, iLD, iLT, (fun _ => 0), (fun _ => 0), 0, 0)
abbrev iMW : MW := ((fun _ => 0), (fun _ => 0), (fun _ => 0), (fun _ => 0), (fun _ => 0), (fun _ => 0), (fun _ => 0), (fun _ => 0), (fun _ => 0), 0, 0, 0, 0, 0)
theorem df_X1 : ∀ j, j < 9 → defaultValue (tyX1 j) = vp_V [.null, .null, .null, .null, .null, .int 0, .int 0, .int 0, .int 0] j := by
  intro j hj
  match j, hj with
  | 0, _ => rfl
  | 1, _ => rfl
  | 2, _ => rfl
  | 3, _ => rfl
  | 4, _ => rfl
  | 5, _ => rfl
  | 6, _ => rfl
  | 7, _ => rfl
  | 8, _ => rfl
  | k + 9, hj => exact absurd hj (by omega)
theorem df_X3 : ∀ j, j < 4 → defaultValue (tyX3 j) = vp_V [.null, .null, .int 0, .int 0] j := by
  intro j hj
  match j, hj with
  | 0, _ => rfl
  | 1, _ => rfl
  | 2, _ => rfl
  | 3, _ => rfl
  | k + 4, hj => exact absurd hj (by omega)
theorem df_X2 : ∀ j, j < 3 → defaultValue (tyX2 j) = vp_V [.null, .int 0, .int 0] j := by
  intro j hj
  match j, hj with
  | 0, _ => rfl
  | 1, _ => rfl
  | 2, _ => rfl
  | k + 3, hj => exact absurd hj (by omega)
theorem df_X4 : ∀ j, j < 7 → defaultValue (tyX4 j) = vp_V [.null, .null, .null, .null, .null, .null, .null] j := by
  intro j hj
  match j, hj with
  | 0, _ => rfl
  | 1, _ => rfl
  | 2, _ => rfl
  | 3, _ => rfl
  | 4, _ => rfl
  | 5, _ => rfl
  | 6, _ => rfl
  | k + 7, hj => exact absurd hj (by omega)
theorem df_X5 : ∀ j, j < 9 → defaultValue (tyX5 j) = vp_V [.null, .null, .null, .null, .int 0, .null, .null, .int 0, .null] j := by
  intro j hj
  match j, hj with
  | 0, _ => rfl
  | 1, _ => rfl
  | 2, _ => rfl
  | 3, _ => rfl
  | 4, _ => rfl
  | 5, _ => rfl
  | 6, _ => rfl
  | 7, _ => rfl
  | 8, _ => rfl
  | k + 9, hj => exact absurd hj (by omega)
theorem df_X6 : ∀ j, j < 14 → defaultValue (tyX6 j) = vp_V [.null, .null, .null, .null, .int 0, .null, .null, .null, .int 0, .int 0, .int 0, .null, .null, .int 0] j := by
  intro j hj
  match j, hj with
  | 0, _ => rfl
  | 1, _ => rfl
  | 2, _ => rfl
  | 3, _ => rfl
  | 4, _ => rfl
  | 5, _ => rfl
  | 6, _ => rfl
  | 7, _ => rfl
  | 8, _ => rfl
  | 9, _ => rfl
  | 10, _ => rfl
  | 11, _ => rfl
  | 12, _ => rfl
  | 13, _ => rfl
  | k + 14, hj => exact absurd hj (by omega)
theorem ff_X5_10 : FF 4 RX5 10 0 (.object "EachSeesTheNext$Thought") := ⟨RX5, TX5, 9, tyX5, rfl, by decide, uw_X5, wd_153, rfl, tyX5_ok, nmX5, rfl, by decide +kernel, rfl⟩
theorem ff_X5_20 : FF 4 RX5 20 1 (.object "EachSeesTheNext$Land") := ⟨RX5, TX5, 9, tyX5, rfl, by decide, uw_X5, wd_154, rfl, tyX5_ok, nmX5, rfl, by decide +kernel, rfl⟩
theorem ff_X5_24 : FF 4 RX5 24 2 (.object "EachSeesTheNext$Land") := ⟨RX5, TX5, 9, tyX5, rfl, by decide, uw_X5, wd_155, rfl, tyX5_ok, nmX5, rfl, by decide +kernel, rfl⟩
theorem ff_X5_27 : FF 4 RX5 27 3 (.object "EachSeesTheNext$Land") := ⟨RX5, TX5, 9, tyX5, rfl, by decide, uw_X5, wd_156, rfl, tyX5_ok, nmX5, rfl, by decide +kernel, rfl⟩
theorem ff_X5_33 : FF 4 RX5 33 5 (.object "EachSeesTheNext$Letters") := ⟨RX5, TX5, 9, tyX5, rfl, by decide, uw_X5, wd_158, rfl, tyX5_ok, nmX5, rfl, by decide +kernel, rfl⟩
theorem ff_X5_37 : FF 4 RX5 37 6 (.array .int) := ⟨RX5, TX5, 9, tyX5, rfl, by decide, uw_X5, wd_159, rfl, tyX5_ok, nmX5, rfl, by decide +kernel, rfl⟩
theorem ff_X5_41 : FF 4 RX5 41 8 (.array .int) := ⟨RX5, TX5, 9, tyX5, rfl, by decide, uw_X5, wd_161, rfl, tyX5_ok, nmX5, rfl, by decide +kernel, rfl⟩
theorem ff_X1_9 : FF 0 RX1 9 0 (.array .int) := ⟨RX1, TX1, 9, tyX1, rfl, by decide, uw_X1, wd_37, rfl, tyX1_ok, nmX1, rfl, by decide +kernel, rfl⟩
theorem ff_X1_15 : FF 0 RX1 15 1 (.array .int) := ⟨RX1, TX1, 9, tyX1, rfl, by decide, uw_X1, wd_41, rfl, tyX1_ok, nmX1, rfl, by decide +kernel, rfl⟩
theorem ff_X1_18 : FF 0 RX1 18 2 (.array .int) := ⟨RX1, TX1, 9, tyX1, rfl, by decide, uw_X1, wd_44, rfl, tyX1_ok, nmX1, rfl, by decide +kernel, rfl⟩
theorem ff_X1_21 : FF 0 RX1 21 3 (.array .int) := ⟨RX1, TX1, 9, tyX1, rfl, by decide, uw_X1, wd_47, rfl, tyX1_ok, nmX1, rfl, by decide +kernel, rfl⟩
theorem ff_X1_24 : FF 0 RX1 24 4 (.array .int) := ⟨RX1, TX1, 9, tyX1, rfl, by decide, uw_X1, wd_51, rfl, tyX1_ok, nmX1, rfl, by decide +kernel, rfl⟩
theorem ff_X2_9 : FF 1 RX2 9 0 (.array .int) := ⟨RX2, TX2, 3, tyX2, rfl, by decide, uw_X2, wd_141, rfl, tyX2_ok, nmX2, rfl, by decide +kernel, rfl⟩
theorem ff_X3_11 : FF 2 RX3 11 0 (.array .int) := ⟨RX3, TX3, 4, tyX3, rfl, by decide, uw_X3, wd_94, rfl, tyX3_ok, nmX3, rfl, by decide +kernel, rfl⟩
theorem ff_X3_17 : FF 2 RX3 17 1 (.array .int) := ⟨RX3, TX3, 4, tyX3, rfl, by decide, uw_X3, wd_96, rfl, tyX3_ok, nmX3, rfl, by decide +kernel, rfl⟩
theorem ff_X4_12 : FF 3 RX4 12 0 (.object "EachSeesTheNext$Land") := ⟨RX4, TX4, 7, tyX4, rfl, by decide, uw_X4, wd_110, rfl, tyX4_ok, nmX4, rfl, by decide +kernel, rfl⟩
theorem ff_X4_18 : FF 3 RX4 18 1 (.object "EachSeesTheNext$Land") := ⟨RX4, TX4, 7, tyX4, rfl, by decide, uw_X4, wd_112, rfl, tyX4_ok, nmX4, rfl, by decide +kernel, rfl⟩
theorem ff_X4_24 : FF 3 RX4 24 2 (.object "EachSeesTheNext$Sight") := ⟨RX4, TX4, 7, tyX4, rfl, by decide, uw_X4, wd_113, rfl, tyX4_ok, nmX4, rfl, by decide +kernel, rfl⟩
theorem ff_X4_28 : FF 3 RX4 28 3 (.object "EachSeesTheNext$Sight") := ⟨RX4, TX4, 7, tyX4, rfl, by decide, uw_X4, wd_114, rfl, tyX4_ok, nmX4, rfl, by decide +kernel, rfl⟩
theorem ff_X4_31 : FF 3 RX4 31 4 (.array .int) := ⟨RX4, TX4, 7, tyX4, rfl, by decide, uw_X4, wd_115, rfl, tyX4_ok, nmX4, rfl, by decide +kernel, rfl⟩
theorem ff_X4_35 : FF 3 RX4 35 5 (.array .int) := ⟨RX4, TX4, 7, tyX4, rfl, by decide, uw_X4, wd_116, rfl, tyX4_ok, nmX4, rfl, by decide +kernel, rfl⟩
theorem ff_X4_38 : FF 3 RX4 38 6 (.array .int) := ⟨RX4, TX4, 7, tyX4, rfl, by decide, uw_X4, wd_117, rfl, tyX4_ok, nmX4, rfl, by decide +kernel, rfl⟩
theorem ff_X6_9 : FF 5 RX6 9 0 (.array .int) := ⟨RX6, TX6, 14, tyX6, rfl, by decide, uw_X6, wd_870, rfl, tyX6_ok, nmX6, rfl, by decide +kernel, rfl⟩
theorem ff_X6_13 : FF 5 RX6 13 1 (.array .int) := ⟨RX6, TX6, 14, tyX6, rfl, by decide, uw_X6, wd_871, rfl, tyX6_ok, nmX6, rfl, by decide +kernel, rfl⟩
theorem ff_X6_16 : FF 5 RX6 16 2 (.array .int) := ⟨RX6, TX6, 14, tyX6, rfl, by decide, uw_X6, wd_872, rfl, tyX6_ok, nmX6, rfl, by decide +kernel, rfl⟩
theorem ff_X6_19 : FF 5 RX6 19 3 (.array .int) := ⟨RX6, TX6, 14, tyX6, rfl, by decide, uw_X6, wd_873, rfl, tyX6_ok, nmX6, rfl, by decide +kernel, rfl⟩
theorem ff_X6_22 : FF 5 RX6 22 5 (.array .int) := ⟨RX6, TX6, 14, tyX6, rfl, by decide, uw_X6, wd_875, rfl, tyX6_ok, nmX6, rfl, by decide +kernel, rfl⟩
theorem ff_X6_25 : FF 5 RX6 25 6 (.array .int) := ⟨RX6, TX6, 14, tyX6, rfl, by decide, uw_X6, wd_876, rfl, tyX6_ok, nmX6, rfl, by decide +kernel, rfl⟩
theorem ff_X6_28 : FF 5 RX6 28 7 (.array .int) := ⟨RX6, TX6, 14, tyX6, rfl, by decide, uw_X6, wd_877, rfl, tyX6_ok, nmX6, rfl, by decide +kernel, rfl⟩
theorem ff_X6_31 : FF 5 RX6 31 11 (.array .int) := ⟨RX6, TX6, 14, tyX6, rfl, by decide, uw_X6, wd_881, rfl, tyX6_ok, nmX6, rfl, by decide +kernel, rfl⟩
theorem ff_X6_34 : FF 5 RX6 34 12 (.array .int) := ⟨RX6, TX6, 14, tyX6, rfl, by decide, uw_X6, wd_882, rfl, tyX6_ok, nmX6, rfl, by decide +kernel, rfl⟩
abbrev rmX1_init : Room := { frames := 1, cells := 5, slots := 52, locals := 20 }
set_option maxRecDepth 100000 in
set_option maxHeartbeats 4000000 in
theorem c_X1_init (l : Launch) (G : EnT) (a : Nat) : Mc l yX1_init rmX1_init cX1_init 1 G a [(a, .inr (0, [.null, .null, .null, .null, .null, .int 0, .int 0, .int 0, .int 0]))] (fun q => cLD G q iLD) := by
  refine Mc_of (by decide) (Nat.le_of_ble_eq_true rfl) ?_
  intro p e s m below meth c A0 F hr hin hW ls hl
  obtain ⟨hx, hb, hml, hown, hts, hK, hNW, hlocks, hA, hSX⟩ := id F
  have hl : lv_has ls 1 [(0, .ref a)] := hl
  have hW : Wd G A0 s ([(a, .inr (0, [.null, .null, .null, .null, .null, .int 0, .int 0, .int 0, .int 0]))]) s.heap [] := hW
  refine lv_aload_n hx hb dX1_init_0 rfl (lv_at hl 0 rfl) ?_
  refine x_objInit F hl wd_36 wd_23 wd_24 dX1_init_1 (Nat.le_of_ble_eq_true rfl) (Nat.le_of_ble_eq_true rfl) ?_
  refine lv_aload_n hx hb dX1_init_4 rfl (lv_at hl 0 rfl) ?_
  refine lv_bipush (v := (20 : Int32)) hx hb dX1_init_5 (by decide) ?_
  refine x_newa F hW (N := 20) (by decide) (by decide) (Nat.le_of_ble_eq_true rfl) (Nat.le_of_ble_eq_true rfl) wd_87 dX1_init_7 (fun r7 H hW => ?_)
  have hW : Wd G A0 s ([(a, .inr (0, [.null, .null, .null, .null, .null, .int 0, .int 0, .int 0, .int 0]))] ++ [(r7, .inl (G.2.1, 20, .inl (fun _ => 0)))]) H _ := hW
  refine x_putF F hin hW 0 rfl ff_X1_9 rfl rfl (Nat.le_of_ble_eq_true rfl) (ws' := [(a, .inr (0, [.ref r7, .null, .null, .null, .null, .int 0, .int 0, .int 0, .int 0]))] ++ [(r7, .inl (G.2.1, 20, .inl (fun _ => 0)))]) rfl dX1_init_9 (fun H locs hW => ?_)
  refine lv_aload_n hx hb dX1_init_12 rfl (lv_at hl 0 rfl) ?_
  refine lv_bipush (v := (8 : Int32)) hx hb dX1_init_13 (by decide) ?_
  refine x_newa F hW (N := 8) (by decide) (by decide) (Nat.le_of_ble_eq_true rfl) (Nat.le_of_ble_eq_true rfl) wd_87 dX1_init_15 (fun r15 H hW => ?_)
  have hW : Wd G A0 s ([(a, .inr (0, [.ref r7, .null, .null, .null, .null, .int 0, .int 0, .int 0, .int 0]))] ++ [(r7, .inl (G.2.1, 20, .inl (fun _ => 0)))] ++ [(r15, .inl (G.2.1, 8, .inl (fun _ => 0)))]) H _ := hW
  refine x_putF F hin hW 0 rfl ff_X1_15 rfl rfl (Nat.le_of_ble_eq_true rfl) (ws' := [(a, .inr (0, [.ref r7, .ref r15, .null, .null, .null, .int 0, .int 0, .int 0, .int 0]))] ++ [(r7, .inl (G.2.1, 20, .inl (fun _ => 0)))] ++ [(r15, .inl (G.2.1, 8, .inl (fun _ => 0)))]) rfl dX1_init_17 (fun H locs hW => ?_)
  refine lv_aload_n hx hb dX1_init_20 rfl (lv_at hl 0 rfl) ?_
  refine lv_bipush (v := (8 : Int32)) hx hb dX1_init_21 (by decide) ?_
  refine x_newa F hW (N := 8) (by decide) (by decide) (Nat.le_of_ble_eq_true rfl) (Nat.le_of_ble_eq_true rfl) wd_87 dX1_init_23 (fun r23 H hW => ?_)
  have hW : Wd G A0 s ([(a, .inr (0, [.ref r7, .ref r15, .null, .null, .null, .int 0, .int 0, .int 0, .int 0]))] ++ [(r7, .inl (G.2.1, 20, .inl (fun _ => 0)))] ++ [(r15, .inl (G.2.1, 8, .inl (fun _ => 0)))] ++ [(r23, .inl (G.2.1, 8, .inl (fun _ => 0)))]) H _ := hW
  refine x_putF F hin hW 0 rfl ff_X1_18 rfl rfl (Nat.le_of_ble_eq_true rfl) (ws' := [(a, .inr (0, [.ref r7, .ref r15, .ref r23, .null, .null, .int 0, .int 0, .int 0, .int 0]))] ++ [(r7, .inl (G.2.1, 20, .inl (fun _ => 0)))] ++ [(r15, .inl (G.2.1, 8, .inl (fun _ => 0)))] ++ [(r23, .inl (G.2.1, 8, .inl (fun _ => 0)))]) rfl dX1_init_25 (fun H locs hW => ?_)
  refine lv_aload_n hx hb dX1_init_28 rfl (lv_at hl 0 rfl) ?_
  refine lv_bipush (v := (8 : Int32)) hx hb dX1_init_29 (by decide) ?_
  refine x_newa F hW (N := 8) (by decide) (by decide) (Nat.le_of_ble_eq_true rfl) (Nat.le_of_ble_eq_true rfl) wd_87 dX1_init_31 (fun r31 H hW => ?_)
  have hW : Wd G A0 s ([(a, .inr (0, [.ref r7, .ref r15, .ref r23, .null, .null, .int 0, .int 0, .int 0, .int 0]))] ++ [(r7, .inl (G.2.1, 20, .inl (fun _ => 0)))] ++ [(r15, .inl (G.2.1, 8, .inl (fun _ => 0)))] ++ [(r23, .inl (G.2.1, 8, .inl (fun _ => 0)))] ++ [(r31, .inl (G.2.1, 8, .inl (fun _ => 0)))]) H _ := hW
  refine x_putF F hin hW 0 rfl ff_X1_21 rfl rfl (Nat.le_of_ble_eq_true rfl) (ws' := [(a, .inr (0, [.ref r7, .ref r15, .ref r23, .ref r31, .null, .int 0, .int 0, .int 0, .int 0]))] ++ [(r7, .inl (G.2.1, 20, .inl (fun _ => 0)))] ++ [(r15, .inl (G.2.1, 8, .inl (fun _ => 0)))] ++ [(r23, .inl (G.2.1, 8, .inl (fun _ => 0)))] ++ [(r31, .inl (G.2.1, 8, .inl (fun _ => 0)))]) rfl dX1_init_33 (fun H locs hW => ?_)
  refine lv_aload_n hx hb dX1_init_36 rfl (lv_at hl 0 rfl) ?_
  refine lv_bipush (v := (8 : Int32)) hx hb dX1_init_37 (by decide) ?_
  refine x_newa F hW (N := 8) (by decide) (by decide) (Nat.le_of_ble_eq_true rfl) (Nat.le_of_ble_eq_true rfl) wd_87 dX1_init_39 (fun r39 H hW => ?_)
  have hW : Wd G A0 s ([(a, .inr (0, [.ref r7, .ref r15, .ref r23, .ref r31, .null, .int 0, .int 0, .int 0, .int 0]))] ++ [(r7, .inl (G.2.1, 20, .inl (fun _ => 0)))] ++ [(r15, .inl (G.2.1, 8, .inl (fun _ => 0)))] ++ [(r23, .inl (G.2.1, 8, .inl (fun _ => 0)))] ++ [(r31, .inl (G.2.1, 8, .inl (fun _ => 0)))] ++ [(r39, .inl (G.2.1, 8, .inl (fun _ => 0)))]) H _ := hW
  refine x_putF F hin hW 0 rfl ff_X1_24 rfl rfl (Nat.le_of_ble_eq_true rfl) (ws' := [(a, .inr (0, [.ref r7, .ref r15, .ref r23, .ref r31, .ref r39, .int 0, .int 0, .int 0, .int 0]))] ++ [(r7, .inl (G.2.1, 20, .inl (fun _ => 0)))] ++ [(r15, .inl (G.2.1, 8, .inl (fun _ => 0)))] ++ [(r23, .inl (G.2.1, 8, .inl (fun _ => 0)))] ++ [(r31, .inl (G.2.1, 8, .inl (fun _ => 0)))] ++ [(r39, .inl (G.2.1, 8, .inl (fun _ => 0)))]) rfl dX1_init_41 (fun H locs hW => ?_)
  exact x_retc F hr hW (fun i => [a, r7, r15, r23, r31, r39].getD i 0) rfl [0, 1, 2, 3, 4, 5] rfl rfl (by decide) dX1_init_44
theorem ci_X5_23 : CNI RX5 23 yX1_init RX5 cX1_init 1 := ⟨List.mem_of_getElem? (i := 3) rfl, wd_34, wd_3, wd_35, rfl, by decide +kernel, by decide +kernel, by decide +kernel⟩
theorem ci_X4_11 : CNI RX4 11 yX1_init RX5 cX1_init 1 := ⟨List.mem_of_getElem? (i := 1) rfl, wd_34, wd_3, wd_35, rfl, by decide +kernel, by decide +kernel, by decide +kernel⟩
abbrev rmX2_init : Room := { frames := 1, cells := 1, slots := 96, locals := 20 }
set_option maxRecDepth 100000 in
set_option maxHeartbeats 4000000 in
theorem c_X2_init (l : Launch) (G : EnT) (a : Nat) : Mc l yX2_init rmX2_init cX2_init 1 G a [(a, .inr (1, [.null, .int 0, .int 0]))] (fun q => cLT G q iLT) := by
  refine Mc_of (by decide) (Nat.le_of_ble_eq_true rfl) ?_
  intro p e s m below meth c A0 F hr hin hW ls hl
  obtain ⟨hx, hb, hml, hown, hts, hK, hNW, hlocks, hA, hSX⟩ := id F
  have hl : lv_has ls 1 [(0, .ref a)] := hl
  have hW : Wd G A0 s ([(a, .inr (1, [.null, .int 0, .int 0]))]) s.heap [] := hW
  refine lv_aload_n hx hb dX2_init_0 rfl (lv_at hl 0 rfl) ?_
  refine x_objInit F hl wd_140 wd_23 wd_24 dX2_init_1 (Nat.le_of_ble_eq_true rfl) (Nat.le_of_ble_eq_true rfl) ?_
  refine lv_aload_n hx hb dX2_init_4 rfl (lv_at hl 0 rfl) ?_
  refine lv_bipush (v := (96 : Int32)) hx hb dX2_init_5 (by decide) ?_
  refine x_newa F hW (N := 96) (by decide) (by decide) (Nat.le_of_ble_eq_true rfl) (Nat.le_of_ble_eq_true rfl) wd_87 dX2_init_7 (fun r7 H hW => ?_)
  have hW : Wd G A0 s ([(a, .inr (1, [.null, .int 0, .int 0]))] ++ [(r7, .inl (G.2.1, 96, .inl (fun _ => 0)))]) H _ := hW
  refine x_putF F hin hW 0 rfl ff_X2_9 rfl rfl (Nat.le_of_ble_eq_true rfl) (ws' := [(a, .inr (1, [.ref r7, .int 0, .int 0]))] ++ [(r7, .inl (G.2.1, 96, .inl (fun _ => 0)))]) rfl dX2_init_9 (fun H locs hW => ?_)
  exact x_retc F hr hW (fun i => [a, r7].getD i 0) rfl [0, 1] rfl rfl (by decide) dX2_init_12
theorem ci_X5_32 : CNI RX5 32 yX2_init RX5 cX2_init 1 := ⟨List.mem_of_getElem? (i := 4) rfl, wd_138, wd_5, wd_139, rfl, by decide +kernel, by decide +kernel, by decide +kernel⟩
abbrev rmX3_init : Room := { frames := 1, cells := 2, slots := 16, locals := 20 }
set_option maxRecDepth 100000 in
set_option maxHeartbeats 4000000 in
theorem c_X3_init (l : Launch) (G : EnT) (a : Nat) : Mc l yX3_init rmX3_init cX3_init 1 G a [(a, .inr (2, [.null, .null, .int 0, .int 0]))] (fun q => cSG G q iSG) := by
  refine Mc_of (by decide) (Nat.le_of_ble_eq_true rfl) ?_
  intro p e s m below meth c A0 F hr hin hW ls hl
  obtain ⟨hx, hb, hml, hown, hts, hK, hNW, hlocks, hA, hSX⟩ := id F
  have hl : lv_has ls 1 [(0, .ref a)] := hl
  have hW : Wd G A0 s ([(a, .inr (2, [.null, .null, .int 0, .int 0]))]) s.heap [] := hW
  refine lv_aload_n hx hb dX3_init_0 rfl (lv_at hl 0 rfl) ?_
  refine x_objInit F hl wd_93 wd_23 wd_24 dX3_init_1 (Nat.le_of_ble_eq_true rfl) (Nat.le_of_ble_eq_true rfl) ?_
  refine lv_aload_n hx hb dX3_init_4 rfl (lv_at hl 0 rfl) ?_
  refine lv_bipush (v := (8 : Int32)) hx hb dX3_init_5 (by decide) ?_
  refine x_newa F hW (N := 8) (by decide) (by decide) (Nat.le_of_ble_eq_true rfl) (Nat.le_of_ble_eq_true rfl) wd_87 dX3_init_7 (fun r7 H hW => ?_)
  have hW : Wd G A0 s ([(a, .inr (2, [.null, .null, .int 0, .int 0]))] ++ [(r7, .inl (G.2.1, 8, .inl (fun _ => 0)))]) H _ := hW
  refine x_putF F hin hW 0 rfl ff_X3_11 rfl rfl (Nat.le_of_ble_eq_true rfl) (ws' := [(a, .inr (2, [.ref r7, .null, .int 0, .int 0]))] ++ [(r7, .inl (G.2.1, 8, .inl (fun _ => 0)))]) rfl dX3_init_9 (fun H locs hW => ?_)
  refine lv_aload_n hx hb dX3_init_12 rfl (lv_at hl 0 rfl) ?_
  refine lv_bipush (v := (8 : Int32)) hx hb dX3_init_13 (by decide) ?_
  refine x_newa F hW (N := 8) (by decide) (by decide) (Nat.le_of_ble_eq_true rfl) (Nat.le_of_ble_eq_true rfl) wd_87 dX3_init_15 (fun r15 H hW => ?_)
  have hW : Wd G A0 s ([(a, .inr (2, [.ref r7, .null, .int 0, .int 0]))] ++ [(r7, .inl (G.2.1, 8, .inl (fun _ => 0)))] ++ [(r15, .inl (G.2.1, 8, .inl (fun _ => 0)))]) H _ := hW
  refine x_putF F hin hW 0 rfl ff_X3_17 rfl rfl (Nat.le_of_ble_eq_true rfl) (ws' := [(a, .inr (2, [.ref r7, .ref r15, .int 0, .int 0]))] ++ [(r7, .inl (G.2.1, 8, .inl (fun _ => 0)))] ++ [(r15, .inl (G.2.1, 8, .inl (fun _ => 0)))]) rfl dX3_init_17 (fun H locs hW => ?_)
  exact x_retc F hr hW (fun i => [a, r7, r15].getD i 0) rfl [0, 1, 2] rfl rfl (by decide) dX3_init_20
theorem ci_X4_23 : CNI RX4 23 yX3_init RX5 cX3_init 1 := ⟨List.mem_of_getElem? (i := 2) rfl, wd_91, wd_4, wd_92, rfl, by decide +kernel, by decide +kernel, by decide +kernel⟩
abbrev rmX4_init : Room := { frames := 2, cells := 21, slots := 178, locals := 40 }
set_option maxRecDepth 100000 in
set_option maxHeartbeats 4000000 in
theorem c_X4_init (l : Launch) (G : EnT) (a : Nat) : Mc l yX4_init rmX4_init cX4_init 1 G a [(a, .inr (3, [.null, .null, .null, .null, .null, .null, .null]))] (fun q => cTW G q iTW) := by
  refine Mc_of (by decide) (Nat.le_of_ble_eq_true rfl) ?_
  intro p e s m below meth c A0 F hr hin hW ls hl
  obtain ⟨hx, hb, hml, hown, hts, hK, hNW, hlocks, hA, hSX⟩ := id F
  have hl : lv_has ls 1 [(0, .ref a)] := hl
  have hW : Wd G A0 s ([(a, .inr (3, [.null, .null, .null, .null, .null, .null, .null]))]) s.heap [] := hW
  refine lv_aload_n hx hb dX4_init_0 rfl (lv_at hl 0 rfl) ?_
  refine x_objInit F hl wd_30 wd_23 wd_24 dX4_init_1 (Nat.le_of_ble_eq_true rfl) (Nat.le_of_ble_eq_true rfl) ?_
  refine lv_aload_n hx hb dX4_init_4 rfl (lv_at hl 0 rfl) ?_
  refine x_newo (ci := 0) (C := RX1) (T := TX1) (N := 9) F hW rfl uw_X1 tyX1_ok df_X1 wd_31 wd_32 wd_3 (Nat.le_of_ble_eq_true rfl) (Nat.le_of_ble_eq_true rfl) dX4_init_5 (fun n5 H hW => ?_)
  refine lv_dup hx hb dX4_init_8 rfl ?_
  refine x_ctorN F hW (c_X1_init l G _) ci_X4_11 hl (Nat.le_of_ble_eq_true rfl) ⟨Nat.le_of_ble_eq_true rfl, Nat.le_of_ble_eq_true rfl⟩ ⟨Nat.le_of_ble_eq_true rfl, Nat.le_of_ble_eq_true rfl⟩ dX4_init_9 (fun q9 H locs h0 hV => ?_)
  clear hW; subst h0
  have hW : Wd G A0 s ([(a, .inr (3, [.null, .null, .null, .null, .null, .null, .null]))] ++ cLD G q9 iLD) H _ := hV
  refine x_putF F hin hW 0 rfl ff_X4_12 rfl rfl (Nat.le_of_ble_eq_true rfl) (ws' := [(a, .inr (3, [.ref (q9 0), .null, .null, .null, .null, .null, .null]))] ++ cLD G q9 iLD) rfl dX4_init_12 (fun H locs hW => ?_)
  refine lv_aload_n hx hb dX4_init_15 rfl (lv_at hl 0 rfl) ?_
  refine x_newo (ci := 0) (C := RX1) (T := TX1) (N := 9) F hW rfl uw_X1 tyX1_ok df_X1 wd_31 wd_32 wd_3 (Nat.le_of_ble_eq_true rfl) (Nat.le_of_ble_eq_true rfl) dX4_init_16 (fun n16 H hW => ?_)
  refine lv_dup hx hb dX4_init_19 rfl ?_
  refine x_ctorN F hW (c_X1_init l G _) ci_X4_11 hl (Nat.le_of_ble_eq_true rfl) ⟨Nat.le_of_ble_eq_true rfl, Nat.le_of_ble_eq_true rfl⟩ ⟨Nat.le_of_ble_eq_true rfl, Nat.le_of_ble_eq_true rfl⟩ dX4_init_20 (fun q20 H locs h0 hV => ?_)
  clear hW; subst h0
  have hW : Wd G A0 s ([(a, .inr (3, [.ref (q9 0), .null, .null, .null, .null, .null, .null]))] ++ cLD G q9 iLD ++ cLD G q20 iLD) H _ := hV
  refine x_putF F hin hW 0 rfl ff_X4_18 rfl rfl (Nat.le_of_ble_eq_true rfl) (ws' := [(a, .inr (3, [.ref (q9 0), .ref (q20 0), .null, .null, .null, .null, .null]))] ++ cLD G q9 iLD ++ cLD G q20 iLD) rfl dX4_init_23 (fun H locs hW => ?_)
  refine lv_aload_n hx hb dX4_init_26 rfl (lv_at hl 0 rfl) ?_
  refine x_newo (ci := 2) (C := RX3) (T := TX3) (N := 4) F hW rfl uw_X3 tyX3_ok df_X3 wd_88 wd_89 wd_4 (Nat.le_of_ble_eq_true rfl) (Nat.le_of_ble_eq_true rfl) dX4_init_27 (fun n27 H hW => ?_)
  refine lv_dup hx hb dX4_init_30 rfl ?_
  refine x_ctorN F hW (c_X3_init l G _) ci_X4_23 hl (Nat.le_of_ble_eq_true rfl) ⟨Nat.le_of_ble_eq_true rfl, Nat.le_of_ble_eq_true rfl⟩ ⟨Nat.le_of_ble_eq_true rfl, Nat.le_of_ble_eq_true rfl⟩ dX4_init_31 (fun q31 H locs h0 hV => ?_)
  clear hW; subst h0
  have hW : Wd G A0 s ([(a, .inr (3, [.ref (q9 0), .ref (q20 0), .null, .null, .null, .null, .null]))] ++ cLD G q9 iLD ++ cLD G q20 iLD ++ cSG G q31 iSG) H _ := hV
  refine x_putF F hin hW 0 rfl ff_X4_24 rfl rfl (Nat.le_of_ble_eq_true rfl) (ws' := [(a, .inr (3, [.ref (q9 0), .ref (q20 0), .ref (q31 0), .null, .null, .null, .null]))] ++ cLD G q9 iLD ++ cLD G q20 iLD ++ cSG G q31 iSG) rfl dX4_init_34 (fun H locs hW => ?_)
  refine lv_aload_n hx hb dX4_init_37 rfl (lv_at hl 0 rfl) ?_
  refine x_newo (ci := 2) (C := RX3) (T := TX3) (N := 4) F hW rfl uw_X3 tyX3_ok df_X3 wd_88 wd_89 wd_4 (Nat.le_of_ble_eq_true rfl) (Nat.le_of_ble_eq_true rfl) dX4_init_38 (fun n38 H hW => ?_)
  refine lv_dup hx hb dX4_init_41 rfl ?_
  refine x_ctorN F hW (c_X3_init l G _) ci_X4_23 hl (Nat.le_of_ble_eq_true rfl) ⟨Nat.le_of_ble_eq_true rfl, Nat.le_of_ble_eq_true rfl⟩ ⟨Nat.le_of_ble_eq_true rfl, Nat.le_of_ble_eq_true rfl⟩ dX4_init_42 (fun q42 H locs h0 hV => ?_)
  clear hW; subst h0
  have hW : Wd G A0 s ([(a, .inr (3, [.ref (q9 0), .ref (q20 0), .ref (q31 0), .null, .null, .null, .null]))] ++ cLD G q9 iLD ++ cLD G q20 iLD ++ cSG G q31 iSG ++ cSG G q42 iSG) H _ := hV
  refine x_putF F hin hW 0 rfl ff_X4_28 rfl rfl (Nat.le_of_ble_eq_true rfl) (ws' := [(a, .inr (3, [.ref (q9 0), .ref (q20 0), .ref (q31 0), .ref (q42 0), .null, .null, .null]))] ++ cLD G q9 iLD ++ cLD G q20 iLD ++ cSG G q31 iSG ++ cSG G q42 iSG) rfl dX4_init_45 (fun H locs hW => ?_)
  refine lv_aload_n hx hb dX4_init_48 rfl (lv_at hl 0 rfl) ?_
  refine lv_bipush (v := (8 : Int32)) hx hb dX4_init_49 (by decide) ?_
  refine x_newa F hW (N := 8) (by decide) (by decide) (Nat.le_of_ble_eq_true rfl) (Nat.le_of_ble_eq_true rfl) wd_87 dX4_init_51 (fun r51 H hW => ?_)
  have hW : Wd G A0 s ([(a, .inr (3, [.ref (q9 0), .ref (q20 0), .ref (q31 0), .ref (q42 0), .null, .null, .null]))] ++ cLD G q9 iLD ++ cLD G q20 iLD ++ cSG G q31 iSG ++ cSG G q42 iSG ++ [(r51, .inl (G.2.1, 8, .inl (fun _ => 0)))]) H _ := hW
  refine x_putF F hin hW 0 rfl ff_X4_31 rfl rfl (Nat.le_of_ble_eq_true rfl) (ws' := [(a, .inr (3, [.ref (q9 0), .ref (q20 0), .ref (q31 0), .ref (q42 0), .ref r51, .null, .null]))] ++ cLD G q9 iLD ++ cLD G q20 iLD ++ cSG G q31 iSG ++ cSG G q42 iSG ++ [(r51, .inl (G.2.1, 8, .inl (fun _ => 0)))]) rfl dX4_init_53 (fun H locs hW => ?_)
  refine lv_aload_n hx hb dX4_init_56 rfl (lv_at hl 0 rfl) ?_
  refine lv_iconst (v := (4 : Int32)) hx hb dX4_init_57 (by decide) ?_
  refine x_newa F hW (N := 4) (by decide) (by decide) (Nat.le_of_ble_eq_true rfl) (Nat.le_of_ble_eq_true rfl) wd_87 dX4_init_58 (fun r58 H hW => ?_)
  have hW : Wd G A0 s ([(a, .inr (3, [.ref (q9 0), .ref (q20 0), .ref (q31 0), .ref (q42 0), .ref r51, .null, .null]))] ++ cLD G q9 iLD ++ cLD G q20 iLD ++ cSG G q31 iSG ++ cSG G q42 iSG ++ [(r51, .inl (G.2.1, 8, .inl (fun _ => 0)))] ++ [(r58, .inl (G.2.1, 4, .inl (fun _ => 0)))]) H _ := hW
  refine x_putF F hin hW 0 rfl ff_X4_35 rfl rfl (Nat.le_of_ble_eq_true rfl) (ws' := [(a, .inr (3, [.ref (q9 0), .ref (q20 0), .ref (q31 0), .ref (q42 0), .ref r51, .ref r58, .null]))] ++ cLD G q9 iLD ++ cLD G q20 iLD ++ cSG G q31 iSG ++ cSG G q42 iSG ++ [(r51, .inl (G.2.1, 8, .inl (fun _ => 0)))] ++ [(r58, .inl (G.2.1, 4, .inl (fun _ => 0)))]) rfl dX4_init_60 (fun H locs hW => ?_)
  refine lv_aload_n hx hb dX4_init_63 rfl (lv_at hl 0 rfl) ?_
  refine lv_iconst (v := (4 : Int32)) hx hb dX4_init_64 (by decide) ?_
  refine x_newa F hW (N := 4) (by decide) (by decide) (Nat.le_of_ble_eq_true rfl) (Nat.le_of_ble_eq_true rfl) wd_87 dX4_init_65 (fun r65 H hW => ?_)
  have hW : Wd G A0 s ([(a, .inr (3, [.ref (q9 0), .ref (q20 0), .ref (q31 0), .ref (q42 0), .ref r51, .ref r58, .null]))] ++ cLD G q9 iLD ++ cLD G q20 iLD ++ cSG G q31 iSG ++ cSG G q42 iSG ++ [(r51, .inl (G.2.1, 8, .inl (fun _ => 0)))] ++ [(r58, .inl (G.2.1, 4, .inl (fun _ => 0)))] ++ [(r65, .inl (G.2.1, 4, .inl (fun _ => 0)))]) H _ := hW
  refine x_putF F hin hW 0 rfl ff_X4_38 rfl rfl (Nat.le_of_ble_eq_true rfl) (ws' := [(a, .inr (3, [.ref (q9 0), .ref (q20 0), .ref (q31 0), .ref (q42 0), .ref r51, .ref r58, .ref r65]))] ++ cLD G q9 iLD ++ cLD G q20 iLD ++ cSG G q31 iSG ++ cSG G q42 iSG ++ [(r51, .inl (G.2.1, 8, .inl (fun _ => 0)))] ++ [(r58, .inl (G.2.1, 4, .inl (fun _ => 0)))] ++ [(r65, .inl (G.2.1, 4, .inl (fun _ => 0)))]) rfl dX4_init_67 (fun H locs hW => ?_)
  exact x_retc F hr hW (fun i => [a, q9 0, q9 1, q9 2, q9 3, q9 4, q9 5, q20 0, q20 1, q20 2, q20 3, q20 4, q20 5, q31 0, q31 1, q31 2, q42 0, q42 1, q42 2, r51, r58, r65].getD i 0) rfl [0, 1, 2, 3, 4, 5, 6, 7, 8, 9, 10, 11, 12, 13, 14, 15, 16, 17, 18, 19, 20, 21] rfl rfl (by decide) dX4_init_70
theorem ci_X5_9 : CNI RX5 9 yX4_init RX5 cX4_init 1 := ⟨List.mem_of_getElem? (i := 0) rfl, wd_28, wd_2, wd_29, rfl, by decide +kernel, by decide +kernel, by decide +kernel⟩
abbrev rmX5_init : Room := { frames := 3, cells := 38, slots := 429, locals := 60 }
set_option maxRecDepth 100000 in
set_option maxHeartbeats 4000000 in
theorem c_X5_init (l : Launch) (G : EnT) (a : Nat) : Mc l yX5_init rmX5_init cX5_init 1 G a [(a, .inr (4, [.null, .null, .null, .null, .int 0, .null, .null, .int 0, .null]))] (fun q => cEW G q iEW) := by
  refine Mc_of (by decide) (Nat.le_of_ble_eq_true rfl) ?_
  intro p e s m below meth c A0 F hr hin hW ls hl
  obtain ⟨hx, hb, hml, hown, hts, hK, hNW, hlocks, hA, hSX⟩ := id F
  have hl : lv_has ls 1 [(0, .ref a)] := hl
  have hW : Wd G A0 s ([(a, .inr (4, [.null, .null, .null, .null, .int 0, .null, .null, .int 0, .null]))]) s.heap [] := hW
  refine lv_aload_n hx hb dX5_init_0 rfl (lv_at hl 0 rfl) ?_
  refine x_objInit F hl wd_22 wd_23 wd_24 dX5_init_1 (Nat.le_of_ble_eq_true rfl) (Nat.le_of_ble_eq_true rfl) ?_
  refine lv_aload_n hx hb dX5_init_4 rfl (lv_at hl 0 rfl) ?_
  refine x_newo (ci := 3) (C := RX4) (T := TX4) (N := 7) F hW rfl uw_X4 tyX4_ok df_X4 wd_25 wd_26 wd_2 (Nat.le_of_ble_eq_true rfl) (Nat.le_of_ble_eq_true rfl) dX5_init_5 (fun n5 H hW => ?_)
  refine lv_dup hx hb dX5_init_8 rfl ?_
  refine x_ctorN F hW (c_X4_init l G _) ci_X5_9 hl (Nat.le_of_ble_eq_true rfl) ⟨Nat.le_of_ble_eq_true rfl, Nat.le_of_ble_eq_true rfl⟩ ⟨Nat.le_of_ble_eq_true rfl, Nat.le_of_ble_eq_true rfl⟩ dX5_init_9 (fun q9 H locs h0 hV => ?_)
  clear hW; subst h0
  have hW : Wd G A0 s ([(a, .inr (4, [.null, .null, .null, .null, .int 0, .null, .null, .int 0, .null]))] ++ cTW G q9 iTW) H _ := hV
  refine x_putF F hin hW 0 rfl ff_X5_10 rfl rfl (Nat.le_of_ble_eq_true rfl) (ws' := [(a, .inr (4, [.ref (q9 0), .null, .null, .null, .int 0, .null, .null, .int 0, .null]))] ++ cTW G q9 iTW) rfl dX5_init_12 (fun H locs hW => ?_)
  refine lv_aload_n hx hb dX5_init_15 rfl (lv_at hl 0 rfl) ?_
  refine lv_aload_n hx hb dX5_init_16 rfl (lv_at hl 0 rfl) ?_
  refine x_get F hW 0 rfl fa_X5_10 rfl dX5_init_17 ?_
  refine x_get F hW 1 rfl fa_X5_16 rfl dX5_init_20 ?_
  refine x_putF F hin hW 0 rfl ff_X5_20 rfl rfl (Nat.le_of_ble_eq_true rfl) (ws' := [(a, .inr (4, [.ref (q9 0), .ref (q9 1), .null, .null, .int 0, .null, .null, .int 0, .null]))] ++ cTW G q9 iTW) rfl dX5_init_23 (fun H locs hW => ?_)
  refine lv_aload_n hx hb dX5_init_26 rfl (lv_at hl 0 rfl) ?_
  refine x_newo (ci := 0) (C := RX1) (T := TX1) (N := 9) F hW rfl uw_X1 tyX1_ok df_X1 wd_133 wd_32 wd_3 (Nat.le_of_ble_eq_true rfl) (Nat.le_of_ble_eq_true rfl) dX5_init_27 (fun n27 H hW => ?_)
  refine lv_dup hx hb dX5_init_30 rfl ?_
  refine x_ctorN F hW (c_X1_init l G _) ci_X5_23 hl (Nat.le_of_ble_eq_true rfl) ⟨Nat.le_of_ble_eq_true rfl, Nat.le_of_ble_eq_true rfl⟩ ⟨Nat.le_of_ble_eq_true rfl, Nat.le_of_ble_eq_true rfl⟩ dX5_init_31 (fun q31 H locs h0 hV => ?_)
  clear hW; subst h0
  have hW : Wd G A0 s ([(a, .inr (4, [.ref (q9 0), .ref (q9 1), .null, .null, .int 0, .null, .null, .int 0, .null]))] ++ cTW G q9 iTW ++ cLD G q31 iLD) H _ := hV
  refine x_putF F hin hW 0 rfl ff_X5_24 rfl rfl (Nat.le_of_ble_eq_true rfl) (ws' := [(a, .inr (4, [.ref (q9 0), .ref (q9 1), .ref (q31 0), .null, .int 0, .null, .null, .int 0, .null]))] ++ cTW G q9 iTW ++ cLD G q31 iLD) rfl dX5_init_34 (fun H locs hW => ?_)
  refine lv_aload_n hx hb dX5_init_37 rfl (lv_at hl 0 rfl) ?_
  refine x_newo (ci := 0) (C := RX1) (T := TX1) (N := 9) F hW rfl uw_X1 tyX1_ok df_X1 wd_133 wd_32 wd_3 (Nat.le_of_ble_eq_true rfl) (Nat.le_of_ble_eq_true rfl) dX5_init_38 (fun n38 H hW => ?_)
  refine lv_dup hx hb dX5_init_41 rfl ?_
  refine x_ctorN F hW (c_X1_init l G _) ci_X5_23 hl (Nat.le_of_ble_eq_true rfl) ⟨Nat.le_of_ble_eq_true rfl, Nat.le_of_ble_eq_true rfl⟩ ⟨Nat.le_of_ble_eq_true rfl, Nat.le_of_ble_eq_true rfl⟩ dX5_init_42 (fun q42 H locs h0 hV => ?_)
  clear hW; subst h0
  have hW : Wd G A0 s ([(a, .inr (4, [.ref (q9 0), .ref (q9 1), .ref (q31 0), .null, .int 0, .null, .null, .int 0, .null]))] ++ cTW G q9 iTW ++ cLD G q31 iLD ++ cLD G q42 iLD) H _ := hV
  refine x_putF F hin hW 0 rfl ff_X5_27 rfl rfl (Nat.le_of_ble_eq_true rfl) (ws' := [(a, .inr (4, [.ref (q9 0), .ref (q9 1), .ref (q31 0), .ref (q42 0), .int 0, .null, .null, .int 0, .null]))] ++ cTW G q9 iTW ++ cLD G q31 iLD ++ cLD G q42 iLD) rfl dX5_init_45 (fun H locs hW => ?_)
  refine lv_aload_n hx hb dX5_init_48 rfl (lv_at hl 0 rfl) ?_
  refine x_newo (ci := 1) (C := RX2) (T := TX2) (N := 3) F hW rfl uw_X2 tyX2_ok df_X2 wd_135 wd_136 wd_5 (Nat.le_of_ble_eq_true rfl) (Nat.le_of_ble_eq_true rfl) dX5_init_49 (fun n49 H hW => ?_)
  refine lv_dup hx hb dX5_init_52 rfl ?_
  refine x_ctorN F hW (c_X2_init l G _) ci_X5_32 hl (Nat.le_of_ble_eq_true rfl) ⟨Nat.le_of_ble_eq_true rfl, Nat.le_of_ble_eq_true rfl⟩ ⟨Nat.le_of_ble_eq_true rfl, Nat.le_of_ble_eq_true rfl⟩ dX5_init_53 (fun q53 H locs h0 hV => ?_)
  clear hW; subst h0
  have hW : Wd G A0 s ([(a, .inr (4, [.ref (q9 0), .ref (q9 1), .ref (q31 0), .ref (q42 0), .int 0, .null, .null, .int 0, .null]))] ++ cTW G q9 iTW ++ cLD G q31 iLD ++ cLD G q42 iLD ++ cLT G q53 iLT) H _ := hV
  refine x_putF F hin hW 0 rfl ff_X5_33 rfl rfl (Nat.le_of_ble_eq_true rfl) (ws' := [(a, .inr (4, [.ref (q9 0), .ref (q9 1), .ref (q31 0), .ref (q42 0), .int 0, .ref (q53 0), .null, .int 0, .null]))] ++ cTW G q9 iTW ++ cLD G q31 iLD ++ cLD G q42 iLD ++ cLT G q53 iLT) rfl dX5_init_56 (fun H locs hW => ?_)
  refine lv_aload_n hx hb dX5_init_59 rfl (lv_at hl 0 rfl) ?_
  refine lv_bipush (v := (16 : Int32)) hx hb dX5_init_60 (by decide) ?_
  refine x_newa F hW (N := 16) (by decide) (by decide) (Nat.le_of_ble_eq_true rfl) (Nat.le_of_ble_eq_true rfl) wd_87 dX5_init_62 (fun r62 H hW => ?_)
  have hW : Wd G A0 s ([(a, .inr (4, [.ref (q9 0), .ref (q9 1), .ref (q31 0), .ref (q42 0), .int 0, .ref (q53 0), .null, .int 0, .null]))] ++ cTW G q9 iTW ++ cLD G q31 iLD ++ cLD G q42 iLD ++ cLT G q53 iLT ++ [(r62, .inl (G.2.1, 16, .inl (fun _ => 0)))]) H _ := hW
  refine x_putF F hin hW 0 rfl ff_X5_37 rfl rfl (Nat.le_of_ble_eq_true rfl) (ws' := [(a, .inr (4, [.ref (q9 0), .ref (q9 1), .ref (q31 0), .ref (q42 0), .int 0, .ref (q53 0), .ref r62, .int 0, .null]))] ++ cTW G q9 iTW ++ cLD G q31 iLD ++ cLD G q42 iLD ++ cLT G q53 iLT ++ [(r62, .inl (G.2.1, 16, .inl (fun _ => 0)))]) rfl dX5_init_64 (fun H locs hW => ?_)
  refine lv_aload_n hx hb dX5_init_67 rfl (lv_at hl 0 rfl) ?_
  refine lv_bipush (v := (7 : Int32)) hx hb dX5_init_68 (by decide) ?_
  refine x_newa F hW (N := 7) (by decide) (by decide) (Nat.le_of_ble_eq_true rfl) (Nat.le_of_ble_eq_true rfl) wd_87 dX5_init_70 (fun r70 H hW => ?_)
  have hW : Wd G A0 s ([(a, .inr (4, [.ref (q9 0), .ref (q9 1), .ref (q31 0), .ref (q42 0), .int 0, .ref (q53 0), .ref r62, .int 0, .null]))] ++ cTW G q9 iTW ++ cLD G q31 iLD ++ cLD G q42 iLD ++ cLT G q53 iLT ++ [(r62, .inl (G.2.1, 16, .inl (fun _ => 0)))] ++ [(r70, .inl (G.2.1, 7, .inl (fun _ => 0)))]) H _ := hW
  refine x_putF F hin hW 0 rfl ff_X5_41 rfl rfl (Nat.le_of_ble_eq_true rfl) (ws' := [(a, .inr (4, [.ref (q9 0), .ref (q9 1), .ref (q31 0), .ref (q42 0), .int 0, .ref (q53 0), .ref r62, .int 0, .ref r70]))] ++ cTW G q9 iTW ++ cLD G q31 iLD ++ cLD G q42 iLD ++ cLT G q53 iLT ++ [(r62, .inl (G.2.1, 16, .inl (fun _ => 0)))] ++ [(r70, .inl (G.2.1, 7, .inl (fun _ => 0)))]) rfl dX5_init_72 (fun H locs hW => ?_)
  exact x_retc F hr hW (fun i => [a, q9 0, q9 1, q9 2, q9 3, q9 4, q9 5, q9 6, q9 7, q9 8, q9 9, q9 10, q9 11, q9 12, q9 13, q9 14, q9 15, q9 16, q9 17, q9 18, q9 19, q9 20, q9 21, q31 0, q31 1, q31 2, q31 3, q31 4, q31 5, q42 0, q42 1, q42 2, q42 3, q42 4, q42 5, q53 0, q53 1, r62, r70].getD i 0) rfl [0, 1, 2, 3, 4, 5, 6, 7, 8, 9, 10, 11, 12, 13, 14, 15, 16, 17, 18, 19, 20, 21, 22, 23, 24, 25, 26, 27, 28, 29, 30, 31, 32, 33, 34, 35, 36, 37, 38] rfl rfl (by decide) dX5_init_75
abbrev rmX6_init : Room := { frames := 1, cells := 9, slots := 413, locals := 20 }
set_option maxRecDepth 100000 in
set_option maxHeartbeats 4000000 in
theorem c_X6_init (l : Launch) (G : EnT) (a : Nat) : Mc l yX6_init rmX6_init cX6_init 1 G a [(a, .inr (5, [.null, .null, .null, .null, .int 0, .null, .null, .null, .int 0, .int 0, .int 0, .null, .null, .int 0]))] (fun q => cMW G q iMW) := by
  refine Mc_of (by decide) (Nat.le_of_ble_eq_true rfl) ?_
  intro p e s m below meth c A0 F hr hin hW ls hl
  obtain ⟨hx, hb, hml, hown, hts, hK, hNW, hlocks, hA, hSX⟩ := id F
  have hl : lv_has ls 1 [(0, .ref a)] := hl
  have hW : Wd G A0 s ([(a, .inr (5, [.null, .null, .null, .null, .int 0, .null, .null, .null, .int 0, .int 0, .int 0, .null, .null, .int 0]))]) s.heap [] := hW
  refine lv_aload_n hx hb dX6_init_0 rfl (lv_at hl 0 rfl) ?_
  refine x_objInit F hl wd_869 wd_23 wd_24 dX6_init_1 (Nat.le_of_ble_eq_true rfl) (Nat.le_of_ble_eq_true rfl) ?_
  refine lv_aload_n hx hb dX6_init_4 rfl (lv_at hl 0 rfl) ?_
  refine lv_bipush (v := (71 : Int32)) hx hb dX6_init_5 (by decide) ?_
  refine x_newa F hW (N := 71) (by decide) (by decide) (Nat.le_of_ble_eq_true rfl) (Nat.le_of_ble_eq_true rfl) wd_87 dX6_init_7 (fun r7 H hW => ?_)
  have hW : Wd G A0 s ([(a, .inr (5, [.null, .null, .null, .null, .int 0, .null, .null, .null, .int 0, .int 0, .int 0, .null, .null, .int 0]))] ++ [(r7, .inl (G.2.1, 71, .inl (fun _ => 0)))]) H _ := hW
  refine x_putF F hin hW 0 rfl ff_X6_9 rfl rfl (Nat.le_of_ble_eq_true rfl) (ws' := [(a, .inr (5, [.ref r7, .null, .null, .null, .int 0, .null, .null, .null, .int 0, .int 0, .int 0, .null, .null, .int 0]))] ++ [(r7, .inl (G.2.1, 71, .inl (fun _ => 0)))]) rfl dX6_init_9 (fun H locs hW => ?_)
  refine lv_aload_n hx hb dX6_init_12 rfl (lv_at hl 0 rfl) ?_
  refine lv_bipush (v := (71 : Int32)) hx hb dX6_init_13 (by decide) ?_
  refine x_newa F hW (N := 71) (by decide) (by decide) (Nat.le_of_ble_eq_true rfl) (Nat.le_of_ble_eq_true rfl) wd_87 dX6_init_15 (fun r15 H hW => ?_)
  have hW : Wd G A0 s ([(a, .inr (5, [.ref r7, .null, .null, .null, .int 0, .null, .null, .null, .int 0, .int 0, .int 0, .null, .null, .int 0]))] ++ [(r7, .inl (G.2.1, 71, .inl (fun _ => 0)))] ++ [(r15, .inl (G.2.1, 71, .inl (fun _ => 0)))]) H _ := hW
  refine x_putF F hin hW 0 rfl ff_X6_13 rfl rfl (Nat.le_of_ble_eq_true rfl) (ws' := [(a, .inr (5, [.ref r7, .ref r15, .null, .null, .int 0, .null, .null, .null, .int 0, .int 0, .int 0, .null, .null, .int 0]))] ++ [(r7, .inl (G.2.1, 71, .inl (fun _ => 0)))] ++ [(r15, .inl (G.2.1, 71, .inl (fun _ => 0)))]) rfl dX6_init_17 (fun H locs hW => ?_)
  refine lv_aload_n hx hb dX6_init_20 rfl (lv_at hl 0 rfl) ?_
  refine lv_bipush (v := (71 : Int32)) hx hb dX6_init_21 (by decide) ?_
  refine x_newa F hW (N := 71) (by decide) (by decide) (Nat.le_of_ble_eq_true rfl) (Nat.le_of_ble_eq_true rfl) wd_87 dX6_init_23 (fun r23 H hW => ?_)
  have hW : Wd G A0 s ([(a, .inr (5, [.ref r7, .ref r15, .null, .null, .int 0, .null, .null, .null, .int 0, .int 0, .int 0, .null, .null, .int 0]))] ++ [(r7, .inl (G.2.1, 71, .inl (fun _ => 0)))] ++ [(r15, .inl (G.2.1, 71, .inl (fun _ => 0)))] ++ [(r23, .inl (G.2.1, 71, .inl (fun _ => 0)))]) H _ := hW
  refine x_putF F hin hW 0 rfl ff_X6_16 rfl rfl (Nat.le_of_ble_eq_true rfl) (ws' := [(a, .inr (5, [.ref r7, .ref r15, .ref r23, .null, .int 0, .null, .null, .null, .int 0, .int 0, .int 0, .null, .null, .int 0]))] ++ [(r7, .inl (G.2.1, 71, .inl (fun _ => 0)))] ++ [(r15, .inl (G.2.1, 71, .inl (fun _ => 0)))] ++ [(r23, .inl (G.2.1, 71, .inl (fun _ => 0)))]) rfl dX6_init_25 (fun H locs hW => ?_)
  refine lv_aload_n hx hb dX6_init_28 rfl (lv_at hl 0 rfl) ?_
  refine lv_bipush (v := (71 : Int32)) hx hb dX6_init_29 (by decide) ?_
  refine x_newa F hW (N := 71) (by decide) (by decide) (Nat.le_of_ble_eq_true rfl) (Nat.le_of_ble_eq_true rfl) wd_87 dX6_init_31 (fun r31 H hW => ?_)
  have hW : Wd G A0 s ([(a, .inr (5, [.ref r7, .ref r15, .ref r23, .null, .int 0, .null, .null, .null, .int 0, .int 0, .int 0, .null, .null, .int 0]))] ++ [(r7, .inl (G.2.1, 71, .inl (fun _ => 0)))] ++ [(r15, .inl (G.2.1, 71, .inl (fun _ => 0)))] ++ [(r23, .inl (G.2.1, 71, .inl (fun _ => 0)))] ++ [(r31, .inl (G.2.1, 71, .inl (fun _ => 0)))]) H _ := hW
  refine x_putF F hin hW 0 rfl ff_X6_19 rfl rfl (Nat.le_of_ble_eq_true rfl) (ws' := [(a, .inr (5, [.ref r7, .ref r15, .ref r23, .ref r31, .int 0, .null, .null, .null, .int 0, .int 0, .int 0, .null, .null, .int 0]))] ++ [(r7, .inl (G.2.1, 71, .inl (fun _ => 0)))] ++ [(r15, .inl (G.2.1, 71, .inl (fun _ => 0)))] ++ [(r23, .inl (G.2.1, 71, .inl (fun _ => 0)))] ++ [(r31, .inl (G.2.1, 71, .inl (fun _ => 0)))]) rfl dX6_init_33 (fun H locs hW => ?_)
  refine lv_aload_n hx hb dX6_init_36 rfl (lv_at hl 0 rfl) ?_
  refine lv_bipush (v := (96 : Int32)) hx hb dX6_init_37 (by decide) ?_
  refine x_newa F hW (N := 96) (by decide) (by decide) (Nat.le_of_ble_eq_true rfl) (Nat.le_of_ble_eq_true rfl) wd_87 dX6_init_39 (fun r39 H hW => ?_)
  have hW : Wd G A0 s ([(a, .inr (5, [.ref r7, .ref r15, .ref r23, .ref r31, .int 0, .null, .null, .null, .int 0, .int 0, .int 0, .null, .null, .int 0]))] ++ [(r7, .inl (G.2.1, 71, .inl (fun _ => 0)))] ++ [(r15, .inl (G.2.1, 71, .inl (fun _ => 0)))] ++ [(r23, .inl (G.2.1, 71, .inl (fun _ => 0)))] ++ [(r31, .inl (G.2.1, 71, .inl (fun _ => 0)))] ++ [(r39, .inl (G.2.1, 96, .inl (fun _ => 0)))]) H _ := hW
  refine x_putF F hin hW 0 rfl ff_X6_22 rfl rfl (Nat.le_of_ble_eq_true rfl) (ws' := [(a, .inr (5, [.ref r7, .ref r15, .ref r23, .ref r31, .int 0, .ref r39, .null, .null, .int 0, .int 0, .int 0, .null, .null, .int 0]))] ++ [(r7, .inl (G.2.1, 71, .inl (fun _ => 0)))] ++ [(r15, .inl (G.2.1, 71, .inl (fun _ => 0)))] ++ [(r23, .inl (G.2.1, 71, .inl (fun _ => 0)))] ++ [(r31, .inl (G.2.1, 71, .inl (fun _ => 0)))] ++ [(r39, .inl (G.2.1, 96, .inl (fun _ => 0)))]) rfl dX6_init_41 (fun H locs hW => ?_)
  refine lv_aload_n hx hb dX6_init_44 rfl (lv_at hl 0 rfl) ?_
  refine lv_bipush (v := (16 : Int32)) hx hb dX6_init_45 (by decide) ?_
  refine x_newa F hW (N := 16) (by decide) (by decide) (Nat.le_of_ble_eq_true rfl) (Nat.le_of_ble_eq_true rfl) wd_87 dX6_init_47 (fun r47 H hW => ?_)
  have hW : Wd G A0 s ([(a, .inr (5, [.ref r7, .ref r15, .ref r23, .ref r31, .int 0, .ref r39, .null, .null, .int 0, .int 0, .int 0, .null, .null, .int 0]))] ++ [(r7, .inl (G.2.1, 71, .inl (fun _ => 0)))] ++ [(r15, .inl (G.2.1, 71, .inl (fun _ => 0)))] ++ [(r23, .inl (G.2.1, 71, .inl (fun _ => 0)))] ++ [(r31, .inl (G.2.1, 71, .inl (fun _ => 0)))] ++ [(r39, .inl (G.2.1, 96, .inl (fun _ => 0)))] ++ [(r47, .inl (G.2.1, 16, .inl (fun _ => 0)))]) H _ := hW
  refine x_putF F hin hW 0 rfl ff_X6_25 rfl rfl (Nat.le_of_ble_eq_true rfl) (ws' := [(a, .inr (5, [.ref r7, .ref r15, .ref r23, .ref r31, .int 0, .ref r39, .ref r47, .null, .int 0, .int 0, .int 0, .null, .null, .int 0]))] ++ [(r7, .inl (G.2.1, 71, .inl (fun _ => 0)))] ++ [(r15, .inl (G.2.1, 71, .inl (fun _ => 0)))] ++ [(r23, .inl (G.2.1, 71, .inl (fun _ => 0)))] ++ [(r31, .inl (G.2.1, 71, .inl (fun _ => 0)))] ++ [(r39, .inl (G.2.1, 96, .inl (fun _ => 0)))] ++ [(r47, .inl (G.2.1, 16, .inl (fun _ => 0)))]) rfl dX6_init_49 (fun H locs hW => ?_)
  refine lv_aload_n hx hb dX6_init_52 rfl (lv_at hl 0 rfl) ?_
  refine lv_bipush (v := (7 : Int32)) hx hb dX6_init_53 (by decide) ?_
  refine x_newa F hW (N := 7) (by decide) (by decide) (Nat.le_of_ble_eq_true rfl) (Nat.le_of_ble_eq_true rfl) wd_87 dX6_init_55 (fun r55 H hW => ?_)
  have hW : Wd G A0 s ([(a, .inr (5, [.ref r7, .ref r15, .ref r23, .ref r31, .int 0, .ref r39, .ref r47, .null, .int 0, .int 0, .int 0, .null, .null, .int 0]))] ++ [(r7, .inl (G.2.1, 71, .inl (fun _ => 0)))] ++ [(r15, .inl (G.2.1, 71, .inl (fun _ => 0)))] ++ [(r23, .inl (G.2.1, 71, .inl (fun _ => 0)))] ++ [(r31, .inl (G.2.1, 71, .inl (fun _ => 0)))] ++ [(r39, .inl (G.2.1, 96, .inl (fun _ => 0)))] ++ [(r47, .inl (G.2.1, 16, .inl (fun _ => 0)))] ++ [(r55, .inl (G.2.1, 7, .inl (fun _ => 0)))]) H _ := hW
  refine x_putF F hin hW 0 rfl ff_X6_28 rfl rfl (Nat.le_of_ble_eq_true rfl) (ws' := [(a, .inr (5, [.ref r7, .ref r15, .ref r23, .ref r31, .int 0, .ref r39, .ref r47, .ref r55, .int 0, .int 0, .int 0, .null, .null, .int 0]))] ++ [(r7, .inl (G.2.1, 71, .inl (fun _ => 0)))] ++ [(r15, .inl (G.2.1, 71, .inl (fun _ => 0)))] ++ [(r23, .inl (G.2.1, 71, .inl (fun _ => 0)))] ++ [(r31, .inl (G.2.1, 71, .inl (fun _ => 0)))] ++ [(r39, .inl (G.2.1, 96, .inl (fun _ => 0)))] ++ [(r47, .inl (G.2.1, 16, .inl (fun _ => 0)))] ++ [(r55, .inl (G.2.1, 7, .inl (fun _ => 0)))]) rfl dX6_init_57 (fun H locs hW => ?_)
  refine lv_aload_n hx hb dX6_init_60 rfl (lv_at hl 0 rfl) ?_
  refine lv_iconst (v := (3 : Int32)) hx hb dX6_init_61 (by decide) ?_
  refine x_newa F hW (N := 3) (by decide) (by decide) (Nat.le_of_ble_eq_true rfl) (Nat.le_of_ble_eq_true rfl) wd_87 dX6_init_62 (fun r62 H hW => ?_)
  have hW : Wd G A0 s ([(a, .inr (5, [.ref r7, .ref r15, .ref r23, .ref r31, .int 0, .ref r39, .ref r47, .ref r55, .int 0, .int 0, .int 0, .null, .null, .int 0]))] ++ [(r7, .inl (G.2.1, 71, .inl (fun _ => 0)))] ++ [(r15, .inl (G.2.1, 71, .inl (fun _ => 0)))] ++ [(r23, .inl (G.2.1, 71, .inl (fun _ => 0)))] ++ [(r31, .inl (G.2.1, 71, .inl (fun _ => 0)))] ++ [(r39, .inl (G.2.1, 96, .inl (fun _ => 0)))] ++ [(r47, .inl (G.2.1, 16, .inl (fun _ => 0)))] ++ [(r55, .inl (G.2.1, 7, .inl (fun _ => 0)))] ++ [(r62, .inl (G.2.1, 3, .inl (fun _ => 0)))]) H _ := hW
  refine x_putF F hin hW 0 rfl ff_X6_31 rfl rfl (Nat.le_of_ble_eq_true rfl) (ws' := [(a, .inr (5, [.ref r7, .ref r15, .ref r23, .ref r31, .int 0, .ref r39, .ref r47, .ref r55, .int 0, .int 0, .int 0, .ref r62, .null, .int 0]))] ++ [(r7, .inl (G.2.1, 71, .inl (fun _ => 0)))] ++ [(r15, .inl (G.2.1, 71, .inl (fun _ => 0)))] ++ [(r23, .inl (G.2.1, 71, .inl (fun _ => 0)))] ++ [(r31, .inl (G.2.1, 71, .inl (fun _ => 0)))] ++ [(r39, .inl (G.2.1, 96, .inl (fun _ => 0)))] ++ [(r47, .inl (G.2.1, 16, .inl (fun _ => 0)))] ++ [(r55, .inl (G.2.1, 7, .inl (fun _ => 0)))] ++ [(r62, .inl (G.2.1, 3, .inl (fun _ => 0)))]) rfl dX6_init_64 (fun H locs hW => ?_)
  refine lv_aload_n hx hb dX6_init_67 rfl (lv_at hl 0 rfl) ?_
  refine lv_bipush (v := (7 : Int32)) hx hb dX6_init_68 (by decide) ?_
  refine x_newa F hW (N := 7) (by decide) (by decide) (Nat.le_of_ble_eq_true rfl) (Nat.le_of_ble_eq_true rfl) wd_87 dX6_init_70 (fun r70 H hW => ?_)
  have hW : Wd G A0 s ([(a, .inr (5, [.ref r7, .ref r15, .ref r23, .ref r31, .int 0, .ref r39, .ref r47, .ref r55, .int 0, .int 0, .int 0, .ref r62, .null, .int 0]))] ++ [(r7, .inl (G.2.1, 71, .inl (fun _ => 0)))] ++ [(r15, .inl (G.2.1, 71, .inl (fun _ => 0)))] ++ [(r23, .inl (G.2.1, 71, .inl (fun _ => 0)))] ++ [(r31, .inl (G.2.1, 71, .inl (fun _ => 0)))] ++ [(r39, .inl (G.2.1, 96, .inl (fun _ => 0)))] ++ [(r47, .inl (G.2.1, 16, .inl (fun _ => 0)))] ++ [(r55, .inl (G.2.1, 7, .inl (fun _ => 0)))] ++ [(r62, .inl (G.2.1, 3, .inl (fun _ => 0)))] ++ [(r70, .inl (G.2.1, 7, .inl (fun _ => 0)))]) H _ := hW
  refine x_putF F hin hW 0 rfl ff_X6_34 rfl rfl (Nat.le_of_ble_eq_true rfl) (ws' := [(a, .inr (5, [.ref r7, .ref r15, .ref r23, .ref r31, .int 0, .ref r39, .ref r47, .ref r55, .int 0, .int 0, .int 0, .ref r62, .ref r70, .int 0]))] ++ [(r7, .inl (G.2.1, 71, .inl (fun _ => 0)))] ++ [(r15, .inl (G.2.1, 71, .inl (fun _ => 0)))] ++ [(r23, .inl (G.2.1, 71, .inl (fun _ => 0)))] ++ [(r31, .inl (G.2.1, 71, .inl (fun _ => 0)))] ++ [(r39, .inl (G.2.1, 96, .inl (fun _ => 0)))] ++ [(r47, .inl (G.2.1, 16, .inl (fun _ => 0)))] ++ [(r55, .inl (G.2.1, 7, .inl (fun _ => 0)))] ++ [(r62, .inl (G.2.1, 3, .inl (fun _ => 0)))] ++ [(r70, .inl (G.2.1, 7, .inl (fun _ => 0)))]) rfl dX6_init_72 (fun H locs hW => ?_)
  exact x_retc F hr hW (fun i => [a, r7, r15, r23, r31, r39, r47, r55, r62, r70].getD i 0) rfl [0, 1, 2, 3, 4, 5, 6, 7, 8, 9] rfl rfl (by decide) dX6_init_75
theorem ci_L_9 : CVI RL 9 yX5_init cX5_init 1 := ⟨wd_19, wd_20, wd_1, wd_21, rfl, by decide +kernel, by decide +kernel, by decide +kernel⟩
theorem ci_L_12 : CVI RL 12 yX6_init cX6_init 1 := ⟨wd_866, wd_867, wd_6, wd_868, rfl, by decide +kernel, by decide +kernel, by decide +kernel⟩
