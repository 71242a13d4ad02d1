/-! the environment of a contract: slots' tables, the class of int arrays, the addresses of the text constants and of their bytes -/
abbrev EnT : Type := va_G × ClassId × (Nat → Nat) × (Nat → Nat)
def NWl : List Cond := [.methodLinkNest RX5 9 ⟨RX4, "<init>", "()V"⟩ RX5, .methodLinkNest RX4 11 ⟨RX1, "<init>", "()V"⟩ RX5, .methodLinkNest RX4 23 ⟨RX3, "<init>", "()V"⟩ RX5, .methodLinkNest RX5 23 ⟨RX1, "<init>", "()V"⟩ RX5, .methodLinkNest RX5 32 ⟨RX2, "<init>", "()V"⟩ RX5, .methodLinkNest RX1 62 yX5_has RX5, .methodLinkNest RX3 68 yX5_has RX5, .methodLinkNest RX4 80 yX5_has RX5]
def NW (U : State) : Prop := ∀ w ∈ NWl, va_Nw w U
theorem NW_tab : ∀ w ∈ NWl, w.onTables = true := by decide +kernel
theorem NW_same {u U : State} (h : u.vm = U.vm) (x : NW u) : NW U := fun w hw => va_Nw.same (NW_tab w hw) h (x w hw)
theorem NW_warm {s U : State} (hW : s.WarmedH U.vm) (x : NW s) : NW U := by
  intro w hw
  have h1 := x w hw
  simp only [NWl, List.mem_cons, List.not_mem_nil, or_false] at hw
  rcases hw with rfl | rfl | rfl | rfl | rfl | rfl | rfl | rfl <;> exact va_Nw.warmM hW h1
/-! the text constants of the letters -/
def sIdx (i : Nat) : Nat := 23 + 2 * i
def sTxt (i : Nat) : String := ["ddd;", "kddd;", "d;", "dd;", "", "ctslmo"].getD i ""
def sLen : List Nat := [4, 5, 2, 3, 0, 6]
def sByt : List (List Int32) := [[100, 100, 100, 59], [107, 100, 100, 100, 59], [100, 59], [100, 100, 59], [], [99, 116, 115, 108, 109, 111]]
def SXc (ad av : Nat → Nat) (A : Nat → Prop) (U : State) (H : Heap) : Prop := vk_S 6 sLen sByt ad av A U H ∧ va_Z "java/lang/String" "COMPACT_STRINGS" "Z" (.int 1) A U H ∧ va_Zq "jdk/internal/util/Preconditions" "SIOOBE_FORMATTER" "Ljava/util/function/BiFunction;" A U H ∧ ∀ i : Nat, i < 6 → vk_R RX2 (sIdx i) (sTxt i) (ad i) U
def SX (b : Bool) (ad av : Nat → Nat) (A : Nat → Prop) (U : State) (H : Heap) : Prop := b = true → SXc ad av A U H
theorem SX_kept {b : Bool} {ad av : Nat → Nat} {A : Nat → Prop} {U : State} {H H1 : Heap} (h : SX b ad av A U H) (hq : ∀ a : Nat, a < H.size → ¬ A a → H1[a]? = H[a]?) : SX b ad av A U H1 := fun e => ⟨(h e).1.kept hq, (h e).2.1.kept hq, (h e).2.2.1.kept hq, (h e).2.2.2⟩
theorem SX_narrow {b : Bool} {ad av : Nat → Nat} {A B : Nat → Prop} {U : State} {H : Heap} (h : SX b ad av A U H) (hAB : ∀ q, B q → A q) : SX b ad av B U H := fun e => ⟨(h e).1.narrow hAB, (h e).2.1.narrow hAB, (h e).2.2.1.narrow hAB, (h e).2.2.2⟩
theorem SX_warm {b : Bool} {ad av : Nat → Nat} {A : Nat → Prop} {s U : State} {H : Heap} (hW : s.WarmedH U.vm) (h : SX b ad av A s H) : SX b ad av A U H := fun e => ⟨(h e).1.moved hW.alike, (h e).2.1.moved hW.alike, (h e).2.2.1.moved hW.alike, fun i hi => ((h e).2.2.2 i hi).warm hW⟩
theorem SX_same {b : Bool} {ad av : Nat → Nat} {A : Nat → Prop} {u U : State} {H : Heap} (hv : U.vm = u.vm) (h : SX b ad av A u H) : SX b ad av A U H := fun e => ⟨(h e).1.moved (by rw [hv]; exact Vm.Alike.refl _), (h e).2.1.moved (by rw [hv]; exact Vm.Alike.refl _), (h e).2.2.1.moved (by rw [hv]; exact Vm.Alike.refl _), fun i hi => ((h e).2.2.2 i hi).same hv⟩
theorem SX_le {b b' : Bool} {ad av : Nat → Nat} {A : Nat → Prop} {U : State} {H : Heap} (hb : b' = true → b = true) (h : SX b ad av A U H) : SX b' ad av A U H := fun e => h (hb e)
/-! a contract's start -/
def Pq (G : EnT) (b : Bool) (C0 : va_W) (sz : Nat) : State → Prop := fun U => U.heap.size = sz ∧ va_P G.1 vwCl C0 U.heap ∧ va_K G.1 vwCl [(G.2.1, .int)] U ∧ va_D (fun _ => True) C0 ∧ NW U ∧ SX b G.2.2.1 G.2.2.2 (va_A C0 sz) U U.heap
theorem Pq_blind {G : EnT} {b : Bool} {C0 : va_W} {sz : Nat} {av : List Value} : FrameBlind (va_Pc av (Pq G b C0 sz)) := by
  intro a U g mk q
  obtain ⟨q0, q1, q2, q3, q4, q5, q6⟩ := q
  exact ⟨q0, q1, q2, va_K.moved (u := U) (U := U.calling g mk a) (Vm.Alike.refl U.vm) q3, q4, NW_same (u := U) rfl q5, SX_same (u := U) rfl q6⟩
def Bk (G : EnT) (C1 : va_W) (A : Nat → Prop) : Unit → State → Prop := fun _ t => va_P G.1 vwCl C1 t.heap ∧ va_D A C1
/-! the contracts: from the world C0 and the arguments av the method returns r, and the world is C1 -/
def Mi (l : Launch) (y : MethodName) (rm : Room) (cc : ByteArray) (nL : Nat) (ret : Option FieldType) (G : EnT) (b : Bool) (av : List Value) (C0 : va_W) (r : Int32) (C1 : va_W) : Prop :=
  ∀ sz : Nat, Met l y (.code y cc nL ret :: GT) rm (va_Pc av (Pq G b C0 sz)) (va_Qi (fun (r' : Int32) (_ : Unit) => r' = r) (Bk G C1 (va_A C0 sz)) (va_A C0 sz)) 0 0 (va_A C0 sz)
def Ml (l : Launch) (y : MethodName) (rm : Room) (cc : ByteArray) (nL : Nat) (ret : Option FieldType) (G : EnT) (b : Bool) (av : List Value) (C0 : va_W) (r : Int64) (C1 : va_W) : Prop :=
  ∀ sz : Nat, Met l y (.code y cc nL ret :: GT) rm (va_Pc av (Pq G b C0 sz)) (va_Ql (fun (r' : Int64) (_ : Unit) => r' = r) (Bk G C1 (va_A C0 sz)) (va_A C0 sz)) 0 0 (va_A C0 sz)
def Mv (l : Launch) (y : MethodName) (rm : Room) (cc : ByteArray) (nL : Nat) (ret : Option FieldType) (G : EnT) (b : Bool) (av : List Value) (C0 : va_W) (C1 : va_W) : Prop :=
  ∀ sz : Nat, Met l y (.code y cc nL ret :: GT) rm (va_Pc av (Pq G b C0 sz)) (va_Qv (fun (_ : Unit) => True) (Bk G C1 (va_A C0 sz)) (va_A C0 sz)) 0 0 (va_A C0 sz)
/-- a method's answer is a reference: r says which -/
def Mr (l : Launch) (y : MethodName) (rm : Room) (cc : ByteArray) (nL : Nat) (ret : Option FieldType) (G : EnT) (b : Bool) (av : List Value) (C0 : va_W) (r : Nat) (C1 : va_W) : Prop :=
  ∀ sz : Nat, Met l y (.code y cc nL ret :: GT) rm (va_Pc av (Pq G b C0 sz)) (va_Qr (fun (_ : Unit) => True) (fun u a t => a = r ∧ Bk G C1 (va_A C0 sz) u t) (va_A C0 sz)) 0 0 (va_A C0 sz)
/-! what stays while a method runs, and the world now -/
def Fx (p : Program) (s : State) (m : MethodId) (args : Array Value) (meth : Method) (c : Code) (cc : ByteArray) (nL : Nat) (own : String) (G : EnT) (b : Bool) (A0 : Nat → Prop) : Prop :=
  p.tables.exec = Jvm.exec ∧ c.code = cc ∧ c.maxLocals = nL ∧ s.vm.findClass own = some m.cls ∧ (∀ w ∈ GT, w.before args s = true) ∧ va_K G.1 vwCl [(G.2.1, .int)] s ∧ NW s ∧ meth.locks = false ∧ (∀ q, s.heap.size ≤ q → A0 q) ∧ SX b G.2.2.1 G.2.2.2 A0 s s.heap
def Wd (G : EnT) (A0 : Nat → Prop) (s : State) (ws : va_W) (H : Heap) (locs : List Loc) : Prop := va_P G.1 vwCl ws H ∧ va_D A0 ws ∧ va_S A0 s.heap H locs
theorem GT_goodIn {ws : List Cond} (h : ∀ w ∈ ws, w ∈ GT) : GoodIn GT ws := goodIn_sub h (List.all_eq_true.mpr fun w hw => GT_good w (h w hw))
theorem GT_code {c : Cond} (h : c ∈ GT) : GoodIn GT (c :: GT) := GT_goodIn fun w hw => (List.mem_cons.mp hw).elim (fun e => by rw [e]; exact h) id
def wmk (ws C1 : va_W) : Nat → List (Option Nat) → List (Option (Nat × va_E))
  | _, [] => []
  | k, some j :: r => C1[j]? :: wmk ws C1 (k + 1) r
  | k, none :: r => ws[k]? :: wmk ws C1 (k + 1) r
def wchk (isC : List Nat) : Nat → List (Option Nat) → Bool
  | _, [] => true
  | k, some j :: r => decide (isC[j]? = some k) && wchk isC (k + 1) r
  | k, none :: r => decide (k ∉ isC) && wchk isC (k + 1) r
theorem wmk_get (ws C1 : va_W) (isC : List Nat) : ∀ (src : List (Option Nat)) (i k : Nat) (q : Nat × va_E), wchk isC i src = true → (wmk ws C1 i src)[k]? = some (some q) → (∃ j : Nat, isC[j]? = some (i + k) ∧ C1[j]? = some q) ∨ (i + k ∉ isC ∧ ws[i + k]? = some q)
  | [], i, k, q, _, h => by simp [wmk] at h
  | some j :: r, i, 0, q, hc, h => by
    simp only [wchk, Bool.and_eq_true, decide_eq_true_eq] at hc
    simp only [wmk, List.getElem?_cons_zero, Option.some.injEq] at h
    exact Or.inl ⟨j, hc.1, h⟩
  | none :: r, i, 0, q, hc, h => by
    simp only [wchk, Bool.and_eq_true, decide_eq_true_eq] at hc
    simp only [wmk, List.getElem?_cons_zero, Option.some.injEq] at h
    exact Or.inr ⟨hc.1, h⟩
  | some j :: r, i, k + 1, q, hc, h => by
    simp only [wchk, Bool.and_eq_true, decide_eq_true_eq] at hc
    simp only [wmk, List.getElem?_cons_succ] at h
    have := wmk_get ws C1 isC r (i + 1) k q hc.2 h
    rwa [show i + 1 + k = i + (k + 1) by omega] at this
  | none :: r, i, k + 1, q, hc, h => by
    simp only [wchk, Bool.and_eq_true, decide_eq_true_eq] at hc
    simp only [wmk, List.getElem?_cons_succ] at h
    have := wmk_get ws C1 isC r (i + 1) k q hc.2 h
    rwa [show i + 1 + k = i + (k + 1) by omega] at this
theorem frame_call {D : va_G} {cl : List vw_C} {A0 : Nat → Prop} {ws wc w1 ws' : va_W} {H H1 : Heap} (hP : va_P D cl ws H) (hD : va_D A0 ws) (isC : List Nat) (hC : isC.map (fun i => ws[i]?) = wc.map some) (ha : w1.map Prod.fst = wc.map Prod.fst) (src : List (Option Nat)) (hch : wchk isC 0 src = true) (hs : wmk ws w1 0 src = ws'.map some)
    (hk : ∀ q : Nat, q < H.size → ¬ va_A wc H.size q → H1[q]? = H[q]?) (hP1 : va_P D cl w1 H1) : va_P D cl ws' H1 ∧ va_D A0 ws' := by
  have pick : ∀ (k : Nat) (q : Nat × va_E), ws'[k]? = some q → (∃ j : Nat, isC[j]? = some k ∧ w1[j]? = some q) ∨ (k ∉ isC ∧ ws[k]? = some q) := by
    intro k q hq
    have h1 : (wmk ws w1 0 src)[k]? = some (some q) := by rw [hs, List.getElem?_map, hq]; rfl
    have := wmk_get ws w1 isC src 0 k q hch h1
    rwa [Nat.zero_add] at this
  have hpl : ∀ (j k : Nat), isC[j]? = some k → ∃ z, wc[j]? = some z ∧ ws[k]? = some z := by
    intro j k hj
    have h1 : (isC.map (fun i => ws[i]?))[j]? = some (ws[k]?) := by rw [List.getElem?_map, hj]; rfl
    rw [hC, List.getElem?_map] at h1
    cases hz : wc[j]? with
    | none => rw [hz] at h1; cases h1
    | some z => rw [hz] at h1; exact ⟨z, rfl, (Option.some.inj h1).symm⟩
  have had : ∀ (j : Nat) (q : Nat × va_E), w1[j]? = some q → ∃ z, wc[j]? = some z ∧ z.1 = q.1 := by
    intro j q hj
    have h1 : (w1.map Prod.fst)[j]? = some q.1 := by rw [List.getElem?_map, hj]; rfl
    rw [ha, List.getElem?_map] at h1
    cases hz : wc[j]? with
    | none => rw [hz] at h1; cases h1
    | some z => rw [hz] at h1; exact ⟨z, rfl, Option.some.inj h1⟩
  have key : ∀ (k : Nat) (q : Nat × va_E), ws'[k]? = some q → ∃ q0, ws[k]? = some q0 ∧ q0.1 = q.1 := by
    intro k q hq
    rcases pick k q hq with ⟨j, h1, h2⟩ | ⟨h1, h2⟩
    · obtain ⟨z, g1, g2⟩ := hpl j k h1
      obtain ⟨z', g3, g4⟩ := had j q h2
      cases g1.symm.trans g3
      exact ⟨z, g2, g4⟩
    · exact ⟨q, h2, rfl⟩
  refine ⟨fun k q hq => ?_, ⟨fun i j x y hi hj hxy => ?_, fun k q hq => ?_⟩⟩
  · rcases pick k q hq with ⟨j, h1, h2⟩ | ⟨h1, h2⟩
    · exact hP1 j q h2
    · refine (hP k q h2).kept (hk q.1 (hP k q h2).lt ?_)
      intro hA
      rcases hA with ⟨j, e, hj⟩ | hA
      · have hj2 : j < isC.length := by
          have h3 := (List.getElem?_eq_some_iff.mp hj).1
          have h4 := congrArg List.length hC
          simp only [List.length_map] at h4
          omega
        obtain ⟨i, hi⟩ : ∃ i, isC[j]? = some i := ⟨_, List.getElem?_eq_getElem hj2⟩
        obtain ⟨z, g1, g2⟩ := hpl j i hi
        cases g1.symm.trans hj
        have := hD.1 k i q _ h2 g2 rfl
        subst this
        exact h1 (List.mem_of_getElem? hi)
      · have := (hP k q h2).lt
        omega
  · obtain ⟨x0, h1, h2⟩ := key i x hi
    obtain ⟨y0, h3, h4⟩ := key j y hj
    exact hD.1 i j x0 y0 h1 h3 (h2.trans (hxy.trans h4.symm))
  · obtain ⟨q0, h1, h2⟩ := key k q hq
    rw [← h2]
    exact hD.2 k q0 h1
/-! the pure side: guards, branches, calls, as a proof reads them off a hypothesis -/
def nm {α β : Type} (e : α) (k : α → β) : β := k e
theorem of_nm {α β : Type} {e : α} {k : α → Option β} {o : β} (h : nm e k = some o) : ∃ x, x = e ∧ k x = some o := ⟨e, rfl, h⟩
theorem of_ite {β : Type} {c : Prop} [Decidable c] {a b : Option β} {o : β} (h : (if c then a else b) = some o) : (c → a = some o) ∧ (¬ c → b = some o) := ⟨fun q => by rwa [if_pos q] at h, fun q => by rwa [if_neg q] at h⟩
theorem of_guard {β : Type} {c : Prop} [Decidable c] {a : Option β} {o : β} (h : (if c then a else none) = some o) : c ∧ a = some o := by
  by_cases q : c
  · rw [if_pos q] at h; exact ⟨q, h⟩
  · rw [if_neg q] at h; cases h
theorem of_bind {α β : Type} {x : Option α} {k : α → Option β} {o : β} (h : Option.bind x k = some o) : ∃ y, x = some y ∧ k y = some o := by
  cases x with
  | none => cases h
  | some y => exact ⟨y, rfl, h⟩
/-- a place of an array: in it or not -/
def inR (i : Int32) (n : Nat) : Bool := !(decide (i < 0)) && decide (i.toNatClampNeg < n)
theorem inR_vp {i : Int32} {n : Nat} (h : inR i n = true) : vp_in i n := by
  simp only [inR, Bool.and_eq_true, Bool.not_eq_true', decide_eq_false_iff_not, decide_eq_true_eq] at h
  intro q
  rcases q with q | q
  · exact h.1 q
  · omega
/-! the rows of the kit over Fx and Wd -/
section XR
variable {p : Program} {l : Launch} {e : Env} {R : Room} {s : State} {m : MethodId} {args : Array Value} {below : List Frame} {meth : Method} {c : Code} {H : Heap} {locs : List Loc} {cells slots : Nat} {Q : State → Prop}
variable {pc : Nat} {ls : Array Slot} {rest st0 : List Value} {A0 : Nat → Prop} {G : EnT} {b : Bool} {cc : ByteArray} {nL : Nat} {own : String} {ws : va_W} {a : Nat}
/-- a field's words: class ci of vwCl, its k-th field, by entry index of own -/
def FA (ci : Nat) (own : String) (index k : Nat) : Prop := ∃ (C : String) (T : u_T) (N : Nat) (ty : Nat → FieldType), vwCl[ci]? = some (C, T, N) ∧ k < N ∧ (∀ w ∈ u_ws C T N, w ∈ GT) ∧ Cond.fieldLink own index C (T k).2.1 (T k).2.2.1 ∈ GT ∧ (T k).1 = C ∧ (∀ k, k < N → parseFieldDescriptor (T k).2.2.1 = some (ty k)) ∧ (∀ a, a < N → ∀ b, b < N → a ≠ b → (T a).2.1 ≠ (T b).2.1)
def FP (ci : Nat) (own : String) (index k : Nat) (t : FieldType) : Prop := ∃ (C : String) (T : u_T) (N : Nat) (ty : Nat → FieldType), vwCl[ci]? = some (C, T, N) ∧ k < N ∧ (∀ w ∈ u_ws C T N, w ∈ GT) ∧ Cond.fieldLink own index C (T k).2.1 (T k).2.2.1 ∈ GT ∧ (T k).1 = C ∧ (∀ k, k < N → parseFieldDescriptor (T k).2.2.1 = some (ty k)) ∧ (∀ a, a < N → ∀ b, b < N → a ≠ b → (T a).2.1 ≠ (T b).2.1) ∧ (T k).2.2.2 = false ∧ parseFieldDescriptor (T k).2.2.1 = some t
theorem x_get (F : Fx p s m args meth c cc nL own G b A0) (hW : Wd G A0 s ws H locs) (q0 : Nat) {ci index k : Nat} {fs : List Value} (he : ws[q0]? = some (a, .inr (ci, fs))) (fa : FA ci own index k) {v : Value} (hv : fs[k]? = some v) (hdg : decode cc pc = .ok (.getfield index, 3))
    (kk : W p l e R s m args below meth c H locs cells slots Q (F0 m (pc + 3) ls (v :: rest))) : W p l e R s m args below meth c H locs cells slots Q (F0 m pc ls (.ref a :: rest)) := by
  obtain ⟨hx, hb, hml, hown, hts, hK, -⟩ := F
  obtain ⟨C, T, N, ty, f1, f2, f3, f4, f5, f6, f7⟩ := fa
  exact va_get (D := G.1) (ci := ci) (v := v) (C := C) (T := T) (N := N) hx hb hts f3 hown hK hW.1 q0 he f1 k f2 (hts _ f4) (fun x h => by rw [f5] at h; exact h) hv hdg kk
theorem x_put (F : Fx p s m args meth c cc nL own G b A0) (hW : Wd G A0 s ws H locs) (q0 : Nat) {ci index k : Nat} {fs : List Value} (he : ws[q0]? = some (a, .inr (ci, fs))) {t : FieldType} (fa : FP ci own index k t) {v : Value} (hn : narrow t v = v) (hfit : fits t v = true) (hl : k < fs.length) {ws' : va_W} (hs : ws.set q0 (a, .inr (ci, fs.set k v)) = ws') (hdg : decode cc pc = .ok (.putfield index, 3))
    (kk : ∀ (H1 : Heap) (locs1 : List Loc), Wd G A0 s ws' H1 locs1 → W p l e R s m args below meth c H1 locs1 cells slots Q (F0 m (pc + 3) ls rest)) : W p l e R s m args below meth c H locs cells slots Q (F0 m pc ls (v :: .ref a :: rest)) := by
  obtain ⟨hx, hb, hml, hown, hts, hK, -⟩ := F
  obtain ⟨C, T, N, ty, f1, f2, f3, f4, f5, f6, f7, f8, f9⟩ := fa
  refine va_put (D := G.1) (ci := ci) (v := v) (ty := t) (C := C) (T := T) (N := N) hx hb hts f3 ty f6 f7 hown hK hW.1 hW.2.1 hW.2.2 q0 he f1 k f2 (hts _ f4) (fun x h => by rw [f5] at h; exact h) f8 f9 hn hfit hl hdg (fun H1 locs1 h1 h2 h3 => kk H1 locs1 ⟨hs ▸ h1, hs ▸ h2, h3⟩)
theorem x_iald (F : Fx p s m args meth c cc nL own G b A0) (hW : Wd G A0 s ws H locs) (q0 : Nat) {n : Nat} {f : Nat → Int32} (he : ws[q0]? = some (a, .inl (G.2.1, n, .inl f))) {i : Int32} (hin : inR i n = true) (hdg : decode cc pc = .ok (.iaload, 1))
    (kk : W p l e R s m args below meth c H locs cells slots Q (F0 m (pc + 1) ls (.int (f i.toNatClampNeg) :: rest))) : W p l e R s m args below meth c H locs cells slots Q (F0 m pc ls (.int i :: .ref a :: rest)) := by
  obtain ⟨hx, hb, hml, hown, hts, hK, -⟩ := F
  exact va_iald hx hb hK hW.1 q0 0 he rfl (inR_vp hin) hdg kk
theorem x_iast (F : Fx p s m args meth c cc nL own G b A0) (hW : Wd G A0 s ws H locs) (q0 : Nat) {n : Nat} {f : Nat → Int32} (he : ws[q0]? = some (a, .inl (G.2.1, n, .inl f))) {i x : Int32} (hin : inR i n = true) {ws' : va_W} (hs : ws.set q0 (a, .inl (G.2.1, n, .inl (upd f i.toNatClampNeg x))) = ws') (hdg : decode cc pc = .ok (.iastore, 1))
    (kk : ∀ (H1 : Heap) (locs1 : List Loc), Wd G A0 s ws' H1 locs1 → W p l e R s m args below meth c H1 locs1 cells slots Q (F0 m (pc + 1) ls rest)) : W p l e R s m args below meth c H locs cells slots Q (F0 m pc ls (.int x :: .int i :: .ref a :: rest)) := by
  obtain ⟨hx, hb, hml, hown, hts, hK, -⟩ := F
  exact va_iast hx hb hK hW.1 hW.2.1 hW.2.2 q0 0 he rfl (inR_vp hin) hdg (fun H1 locs1 h1 h2 h3 => kk H1 locs1 ⟨hs ▸ h1, hs ▸ h2, h3⟩)
theorem x_alen (F : Fx p s m args meth c cc nL own G b A0) (hW : Wd G A0 s ws H locs) (q0 : Nat) {n : Nat} {f : Nat → Int32} (he : ws[q0]? = some (a, .inl (G.2.1, n, .inl f))) {v : Int32} (hv : Int32.ofNat n = v) (hdg : decode cc pc = .ok (.arraylength, 1))
    (kk : W p l e R s m args below meth c H locs cells slots Q (F0 m (pc + 1) ls (.int v :: rest))) : W p l e R s m args below meth c H locs cells slots Q (F0 m pc ls (.ref a :: rest)) := by
  obtain ⟨hx, hb, hml, hown, hts, hK, -⟩ := F
  exact va_alen hx hb hK hW.1 q0 0 he rfl hv hdg kk
theorem x_topi {x y : Int32} (ex : y = x) (k : W p l e R s m args below meth c H locs cells slots Q (F0 m pc ls (.int y :: rest))) : W p l e R s m args below meth c H locs cells slots Q (F0 m pc ls (.int x :: rest)) := ex ▸ k
theorem x_topl {x y : Int64} (ex : y = x) (k : W p l e R s m args below meth c H locs cells slots Q (F0 m pc ls (.long y :: rest))) : W p l e R s m args below meth c H locs cells slots Q (F0 m pc ls (.long x :: rest)) := ex ▸ k
/-- a method's last row -/
theorem x_reti (F : Fx p s m args meth c cc nL own G b A0) (hr : meth.sig.returnType = some .int) {v r : Int32} {C1 : va_W} (hW : Wd G A0 s C1 H locs) (hv : v = r) (hdg : decode cc pc = .ok (.ireturn, 1)) : W p l e R s m args below meth c H locs 0 0 (MQ below (va_Qi (fun (r' : Int32) (_ : Unit) => r' = r) (Bk G C1 A0) A0) args s 0 0 A0) (F0 m pc ls [.int v]) := by
  obtain ⟨hx, hb, hml, hown, hts, hK, hN, hlocks, -⟩ := F
  exact W.iret hx hb hr (fun t ht hw => ⟨⟨v, (), rfl, hv, by rw [ht]; exact hW.1, hW.2.1⟩, hW.2.2.F ht⟩) hW.2.2.2.2 hdg
theorem x_retz (F : Fx p s m args meth c cc nL own G b A0) (hr : meth.sig.returnType = some .boolean) {v r : Int32} {C1 : va_W} (hW : Wd G A0 s C1 H locs) (hz : v = 0 ∨ v = 1) (hv : v = r) (hdg : decode cc pc = .ok (.ireturn, 1)) : W p l e R s m args below meth c H locs 0 0 (MQ below (va_Qi (fun (r' : Int32) (_ : Unit) => r' = r) (Bk G C1 A0) A0) args s 0 0 A0) (F0 m pc ls [.int v]) := by
  obtain ⟨hx, hb, hml, hown, hts, hK, hN, hlocks, -⟩ := F
  exact W.zret (ty := .boolean) hx hb hr (by rcases hz with rfl | rfl <;> rfl) (fun t ht hw => ⟨⟨v, (), rfl, hv, by rw [ht]; exact hW.1, hW.2.1⟩, hW.2.2.F ht⟩) hW.2.2.2.2 hdg
theorem x_retl (F : Fx p s m args meth c cc nL own G b A0) (hr : meth.sig.returnType = some .long) {v r : Int64} {C1 : va_W} (hW : Wd G A0 s C1 H locs) (hv : v = r) (hdg : decode cc pc = .ok (.lreturn, 1)) : W p l e R s m args below meth c H locs 0 0 (MQ below (va_Ql (fun (r' : Int64) (_ : Unit) => r' = r) (Bk G C1 A0) A0) args s 0 0 A0) (F0 m pc ls [.long v]) := by
  obtain ⟨hx, hb, hml, hown, hts, hK, hN, hlocks, -⟩ := F
  exact W.lret hx hb hr (fun t ht hw => ⟨⟨v, (), rfl, hv, by rw [ht]; exact hW.1, hW.2.1⟩, hW.2.2.F ht⟩) hW.2.2.2.2 hdg
theorem x_retv (F : Fx p s m args meth c cc nL own G b A0) (hr : meth.sig.returnType = none) {C1 : va_W} (hW : Wd G A0 s C1 H locs) (hdg : decode cc pc = .ok (.return_, 1)) : W p l e R s m args below meth c H locs 0 0 (MQ below (va_Qv (fun (_ : Unit) => True) (Bk G C1 A0) A0) args s 0 0 A0) (F0 m pc ls []) := by
  obtain ⟨hx, hb, hml, hown, hts, hK, hN, hlocks, -⟩ := F
  exact W.vret hx hb hr (fun t ht hw => ⟨⟨(), rfl, trivial, by rw [ht]; exact hW.1, hW.2.1⟩, hW.2.2.F ht⟩) hW.2.2.2.2 hdg
end XR
/-! a contract from its body -/
section MO
variable {l : Launch} {y : MethodName} {rm : Room} {cc : ByteArray} {nL : Nat} {ret : Option FieldType} {G : EnT} {b : Bool} {av : List Value} {C0 C1 : va_W}
def Bd (l : Launch) (y : MethodName) (rm : Room) (cc : ByteArray) (nL : Nat) (ret : Option FieldType) (G : EnT) (b : Bool) (av : List Value) (C0 : va_W) (Qf : (Nat → Prop) → Array Value → State → Outcome → State → Prop) : Prop :=
  ∀ (p : Program) (e : Env) (s : State) (m : MethodId) (below : List Frame) (meth : Method) (c : Code) (A0 : Nat → Prop), Fx p s m av.toArray meth c cc nL y.cls G b A0 → meth.sig.returnType = ret → Wd G A0 s C0 s.heap [] → ∀ ls : Array Slot, lv_has ls nL (lv_args 0 av) →
    W p l e rm s m av.toArray below meth c s.heap [] 0 0 (MQ below (Qf A0) av.toArray s 0 0 A0) (F0 m 0 ls [])
theorem Met_of (hy : plainName y.cls = true) (hn : (lg_sl av).length ≤ nL) {Qf : (Nat → Prop) → Array Value → State → Outcome → State → Prop} (body : Bd l y rm cc nL ret G b av C0 Qf) (sz : Nat) :
    Met l y (.code y cc nL ret :: GT) rm (va_Pc av (Pq G b C0 sz)) (Qf (va_A C0 sz)) 0 0 (va_A C0 sz) := by
  refine Met.ofW (cc := cc) (maxL := nL) (ret := ret) hy rfl ?_
  intro p e s m args below meth c s₁ B hml hv
  obtain ⟨rfl, hsz, hP, hK, hD0, hNW, hSX⟩ := hv
  have hts := atoms_spec (ws := .code y cc nL ret :: GT) B.pre
  have hown : s.vm.findClass y.cls = some m.cls := findClass_of_methodNamed B.named
  subst hsz
  have hD := hD0.self (sz := s.heap.size)
  have hl := lv_entry av hn
  rw [lg_entry_eq]
  exact body p e s m below meth c (va_A C0 s.heap.size) ⟨B.exec, B.bytes, hml, hown, fun w hw => hts w (List.mem_cons_of_mem _ hw), hK, hNW, B.notSynchronized, fun q h => Or.inr h, hSX⟩ B.returns ⟨hP, hD, va_S.rf⟩ _ hl
theorem Mi_of {r : Int32} (hy : plainName y.cls = true) (hn : (lg_sl av).length ≤ nL) (body : Bd l y rm cc nL ret G b av C0 (fun A => va_Qi (fun (r' : Int32) (_ : Unit) => r' = r) (Bk G C1 A) A)) : Mi l y rm cc nL ret G b av C0 r C1 := fun sz => Met_of hy hn body sz
theorem Ml_of {r : Int64} (hy : plainName y.cls = true) (hn : (lg_sl av).length ≤ nL) (body : Bd l y rm cc nL ret G b av C0 (fun A => va_Ql (fun (r' : Int64) (_ : Unit) => r' = r) (Bk G C1 A) A)) : Ml l y rm cc nL ret G b av C0 r C1 := fun sz => Met_of hy hn body sz
theorem Mv_of (hy : plainName y.cls = true) (hn : (lg_sl av).length ≤ nL) (body : Bd l y rm cc nL ret G b av C0 (fun A => va_Qv (fun (_ : Unit) => True) (Bk G C1 A) A)) : Mv l y rm cc nL ret G b av C0 C1 := fun sz => Met_of hy hn body sz
theorem Mr_of {r : Nat} (hy : plainName y.cls = true) (hn : (lg_sl av).length ≤ nL) (body : Bd l y rm cc nL ret G b av C0 (fun A => va_Qr (fun (_ : Unit) => True) (fun u a t => a = r ∧ Bk G C1 A u t) A)) : Mr l y rm cc nL ret G b av C0 r C1 := fun sz => Met_of hy hn body sz
end MO
/-! calls -/
section XC
variable {p : Program} {l : Launch} {e : Env} {R : Room} {s : State} {m : MethodId} {args : Array Value} {below : List Frame} {meth : Method} {c : Code} {H : Heap} {locs : List Loc} {cells slots : Nat} {Q : State → Prop}
variable {pc : Nat} {ls : Array Slot} {rest st0 : List Value} {A0 : Nat → Prop} {G : EnT} {b b' : Bool} {cc : ByteArray} {nL : Nat} {own : String} {ws ws' C0 C1 : va_W} {lv : List (Nat × Value)}
variable {y : MethodName} {rm : Room} {bytes : ByteArray} {maxL : Nat} {ret : Option FieldType} {av As : List Value} {index : Nat}
/-- the words of a call by entry index of own, of n arguments -/
def CV (own : String) (index : Nat) (y : MethodName) (bytes : ByteArray) (maxL : Nat) (ret : Option FieldType) (n : Nat) : Prop := Cond.methodLink own index y ∈ GT ∧ Cond.instanceMethod y ∈ GT ∧ Cond.selects y.cls y y ∈ GT ∧ Cond.initialized y.cls ∈ GT ∧ Cond.code y bytes maxL ret ∈ GT ∧ y.cls ≠ "java/lang/invoke/MethodHandle" ∧ y.cls ≠ "java/lang/invoke/VarHandle" ∧ (parseMethodDescriptor y.desc).map (fun d => d.parameters.length) = some n
def CS (own : String) (index : Nat) (y : MethodName) (bytes : ByteArray) (maxL : Nat) (ret : Option FieldType) (n : Nat) : Prop := Cond.methodLink own index y ∈ GT ∧ Cond.static y ∈ GT ∧ Cond.initialized y.cls ∈ GT ∧ Cond.code y bytes maxL ret ∈ GT ∧ y.cls ≠ "java/lang/invoke/MethodHandle" ∧ y.cls ≠ "java/lang/invoke/VarHandle" ∧ (parseMethodDescriptor y.desc).map (fun d => d.parameters.length) = some n
def CN (own : String) (index : Nat) (y : MethodName) (host : String) (bytes : ByteArray) (maxL : Nat) (ret : Option FieldType) (n : Nat) : Prop := Cond.methodLinkNest own index y host ∈ NWl ∧ Cond.static y ∈ GT ∧ Cond.initialized y.cls ∈ GT ∧ Cond.code y bytes maxL ret ∈ GT ∧ y.cls ≠ "java/lang/invoke/MethodHandle" ∧ y.cls ≠ "java/lang/invoke/VarHandle" ∧ (parseMethodDescriptor y.desc).map (fun d => d.parameters.length) = some n
theorem x_pre (F : Fx p s m args meth c cc nL own G b A0) (hW : Wd G A0 s ws H locs) (isC : List Nat) (hC : isC.map (fun i => ws[i]?) = C0.map some) (hn : va_nd isC = true) (hb : b' = true → b = true) :
    ∀ U : State, U.heap = H → s.WarmedH U.vm → Pq G b' C0 H.size U := by
  obtain ⟨hx, hb', hml, hown, hts, hK, hN, hlocks, hA, hSX⟩ := F
  intro U hU hw
  have hF := va_free (wc := C0) hW.2.1 hW.2.2 hA isC hC
  have hP : va_P G.1 vwCl C0 H := by
    intro k q hk
    have h1 : (isC.map (fun i => ws[i]?))[k]? = some (some q) := by rw [hC, List.getElem?_map, hk]; rfl
    rw [List.getElem?_map] at h1
    cases hi : isC[k]? with
    | none => rw [hi] at h1; cases h1
    | some i => rw [hi] at h1; exact hW.1 i q (Option.some.inj h1)
  refine ⟨by rw [hU], by rw [hU]; exact hP, va_K.moved hw.alike hK, (hW.2.1.sub isC hn hC).weaken (fun _ _ _ _ => trivial), NW_warm hw hN, ?_⟩
  have h1 : SX b' G.2.2.1 G.2.2.2 A0 s H := SX_le hb (SX_kept hSX (fun q h1 h2 => hW.2.2.2.1 q h1 h2))
  rw [hU]
  exact SX_warm hw (SX_narrow h1 hF)
theorem x_runV (F : Fx p s m args meth c cc nL own G b A0) (hW : Wd G A0 s ws H locs) (isC : List Nat) (hC : isC.map (fun i => ws[i]?) = C0.map some) (hn : va_nd isC = true) (hb : b' = true → b = true)
    {b0 ci : Nat} {fs : List Value} {n : Nat} (hcv : CV own index y bytes maxL ret n) (hrecv : C0[0]? = some (b0, .inr (ci, fs))) (hci : ∃ q : vw_C, vwCl[ci]? = some q ∧ q.1 = y.cls) (hav : av = .ref b0 :: As) (hlen : As.length = n) (hst : st0 = As.reverse ++ .ref b0 :: rest) (hl : lv_has ls nL lv) (hro : (rest.map fun v => v.category).sum ≤ 8)
    (hR : rm.frames + 1 ≤ R.frames ∧ 8 + (maxL + 11) + rm.locals ≤ R.locals) (hrc : rm.cells = 0 ∧ rm.slots = 0) (hcs : cells ≤ R.cells ∧ slots ≤ R.slots) (hdg : decode cc pc = .ok (.invokevirtual index, 3))
    {Qc : Array Value → State → Outcome → State → Prop} (hM : Met l y (.code y bytes maxL ret :: GT) rm (va_Pc av (Pq G b' C0 H.size)) Qc 0 0 (va_A C0 H.size)) :
    va_Run p l e R s m args below meth c H locs cells slots 0 0 (F0 m pc ls st0) rest (Qc av.toArray) (va_A C0 H.size) := by
  have hpre := x_pre F hW isC hC hn hb
  obtain ⟨hx, hb', hml, hown, hts, hK, hN, hlocks, hA, hSX⟩ := F
  obtain ⟨w1, w2, w3, w4, w5, w6, w7, w8⟩ := hcv
  obtain ⟨q, hq, hqc⟩ := hci
  subst hav
  have cw : CallW R s args own y.cls index y bytes maxL ret (.code y bytes maxL ret :: GT) rm 0 0 n := by
    refine cwV n hts (GT_goodIn ?_) rfl hrc.1 hrc.2 ⟨rfl, w6, w7, w8⟩ hR
    intro w hw
    unfold wsV at hw
    simp only [List.mem_append, List.mem_cons, List.not_mem_nil, or_false] at hw
    rcases hw with (rfl | rfl | rfl | rfl) | rfl | hw
    · exact w1
    · exact w2
    · exact w3
    · exact w4
    · exact w5
    · exact hw
  have hP : va_P G.1 vwCl C0 H := by
    intro k z hk
    have h1 : (isC.map (fun i => ws[i]?))[k]? = some (some z) := by rw [hC, List.getElem?_map, hk]; rfl
    rw [List.getElem?_map] at h1
    cases hi : isC[k]? with
    | none => rw [hi] at h1; cases h1
    | some i => rw [hi] at h1; exact hW.1 i z (Option.some.inj h1)
  refine va_runV (As := As) (rest := rest) (Ts := GT) ⟨hx, hb', hml, hown, hts⟩ hM cw ⟨Pq_blind, ?_, fun U hU hw => ⟨rfl, hpre U hU hw⟩⟩ rfl hlen hl.1 hst (lv_room hro) hdg ⟨hcs.1, hcs.2⟩
  rw [← hqc]
  exact va_recv hK hP hq hrecv
theorem x_runS (F : Fx p s m args meth c cc nL own G b A0) (hW : Wd G A0 s ws H locs) (isC : List Nat) (hC : isC.map (fun i => ws[i]?) = C0.map some) (hn : va_nd isC = true) (hb : b' = true → b = true)
    {n : Nat} (hcv : CS own index y bytes maxL ret n) (hlen : av.length = n) (hst : st0 = av.reverse ++ rest) (hl : lv_has ls nL lv) (hro : (rest.map fun v => v.category).sum ≤ 8)
    (hR : rm.frames + 1 ≤ R.frames ∧ 8 + (maxL + 11) + rm.locals ≤ R.locals) (hrc : rm.cells = 0 ∧ rm.slots = 0) (hcs : cells ≤ R.cells ∧ slots ≤ R.slots) (hdg : decode cc pc = .ok (.invokestatic index, 3))
    {Qc : Array Value → State → Outcome → State → Prop} (hM : Met l y (.code y bytes maxL ret :: GT) rm (va_Pc av (Pq G b' C0 H.size)) Qc 0 0 (va_A C0 H.size)) :
    va_Run p l e R s m args below meth c H locs cells slots 0 0 (F0 m pc ls st0) rest (Qc av.toArray) (va_A C0 H.size) := by
  have hpre := x_pre F hW isC hC hn hb
  obtain ⟨hx, hb', hml, hown, hts, hK, hN, hlocks, hA, hSX⟩ := F
  obtain ⟨w1, w2, w4, w5, w6, w7, w8⟩ := hcv
  have cw : CallB R s args own index y bytes maxL ret (.code y bytes maxL ret :: GT) rm 0 0 n ∧ (Cond.static y).before args s = true := by
    refine va_cwS n hts (GT_goodIn ?_) rfl hrc.1 hrc.2 ⟨w6, w7, w8⟩ hR
    intro w hw
    unfold va_wsS at hw
    simp only [List.mem_append, List.mem_cons, List.not_mem_nil, or_false] at hw
    rcases hw with (rfl | rfl | rfl) | rfl | hw
    · exact w1
    · exact w2
    · exact w4
    · exact w5
    · exact hw
  exact va_runS (As := av) (rest := rest) (Ts := GT) ⟨hx, hb', hml, hown, hts⟩ hM cw ⟨Pq_blind, fun U hU hw => ⟨rfl, hpre U hU hw⟩⟩ rfl hlen hl.1 hst (lv_room hro) hdg ⟨hcs.1, hcs.2⟩
theorem x_runN {host : String} (F : Fx p s m args meth c cc nL own G b A0) (hW : Wd G A0 s ws H locs) (isC : List Nat) (hC : isC.map (fun i => ws[i]?) = C0.map some) (hn : va_nd isC = true) (hb : b' = true → b = true)
    {n : Nat} (hcv : CN own index y host bytes maxL ret n) (hlen : av.length = n) (hst : st0 = av.reverse ++ rest) (hl : lv_has ls nL lv) (hro : (rest.map fun v => v.category).sum ≤ 8)
    (hR : rm.frames + 1 ≤ R.frames ∧ 8 + (maxL + 11) + rm.locals ≤ R.locals) (hrc : rm.cells = 0 ∧ rm.slots = 0) (hcs : cells ≤ R.cells ∧ slots ≤ R.slots) (hdg : decode cc pc = .ok (.invokestatic index, 3))
    {Qc : Array Value → State → Outcome → State → Prop} (hM : Met l y (.code y bytes maxL ret :: GT) rm (va_Pc av (Pq G b' C0 H.size)) Qc 0 0 (va_A C0 H.size)) :
    va_Run p l e R s m args below meth c H locs cells slots 0 0 (F0 m pc ls st0) rest (Qc av.toArray) (va_A C0 H.size) := by
  have hpre := x_pre F hW isC hC hn hb
  obtain ⟨hx, hb', hml, hown, hts, hK, hN, hlocks, hA, hSX⟩ := F
  obtain ⟨w1, w2, w4, w5, w6, w7, w8⟩ := hcv
  have cw := va_cnB (R := R) (args := args) (mc := 0) (ms := 0) n hts (GT_code w5) rfl hrc.1 hrc.2 (hN _ w1) (hts _ w4) ⟨w6, w7, w8⟩ hR
  exact va_runSN (As := av) (rest := rest) (Ts := GT) ⟨hx, hb', hml, hown, hts⟩ hM ⟨cw, hts _ w2, trivial⟩ ⟨Pq_blind, fun U hU hw => ⟨rfl, hpre U hU hw⟩⟩ rfl hlen hl.1 hst (lv_room hro) hdg ⟨hcs.1, hcs.2⟩
/-- behind a call: the world with the callee's cells as it left them -/
theorem x_after {H1 : Heap} {locs1 : List Loc} (hW : Wd G A0 s ws H locs) (isC : List Nat) (hC : isC.map (fun i => ws[i]?) = C0.map some) (ha : C1.map Prod.fst = C0.map Prod.fst) (src : List (Option Nat)) (hch : wchk isC 0 src = true) (hs : wmk ws C1 0 src = ws'.map some) (hk : ∀ q : Nat, q < H.size → ¬ va_A C0 H.size q → H1[q]? = H[q]?) (hP1 : va_P G.1 vwCl C1 H1) (hS : va_S A0 s.heap H1 locs1) : Wd G A0 s ws' H1 locs1 := by
  obtain ⟨h1, h2⟩ := frame_call hW.1 hW.2.1 isC hC ha src hch hs hk hP1
  exact ⟨h1, h2, hS⟩
theorem x_ci {r : Int32} (F : Fx p s m args meth c cc nL own G b A0) (hW : Wd G A0 s ws H locs) (isC : List Nat) (hC : isC.map (fun i => ws[i]?) = C0.map some) (ha : C1.map Prod.fst = C0.map Prod.fst) (src : List (Option Nat)) (hch : wchk isC 0 src = true) (hs : wmk ws C1 0 src = ws'.map some)
    (hr : va_Run p l e R s m args below meth c H locs cells slots 0 0 (F0 m pc ls st0) rest ((va_Qi (fun (r' : Int32) (_ : Unit) => r' = r) (Bk G C1 (va_A C0 H.size)) (va_A C0 H.size)) av.toArray) (va_A C0 H.size))
    (kk : ∀ (H1 : Heap) (locs1 : List Loc), Wd G A0 s ws' H1 locs1 → W p l e R s m args below meth c H1 locs1 cells slots Q (F0 m (pc + 3) ls (.int r :: rest))) : W p l e R s m args below meth c H locs cells slots Q (F0 m pc ls st0) := by
  have hF := va_free (wc := C0) hW.2.1 hW.2.2 F.2.2.2.2.2.2.2.2.1 isC hC
  refine va_calli hr hW.2.2 (fun q _ h => hF q h) hF (fun r2 u t H1 locs1 ht hvm hw hB hz hk hS => ?_)
  subst hw
  exact kk H1 locs1 (x_after hW isC hC ha src hch hs hk (by rw [← ht]; exact hB.1) hS)
theorem x_Vi {r : Int32} (F : Fx p s m args meth c cc nL own G b A0) (hW : Wd G A0 s ws H locs) (hM : Mi l y rm bytes maxL ret G b' av C0 r C1) (isC : List Nat) (hC : isC.map (fun i => ws[i]?) = C0.map some) (hn : va_nd isC = true) (hb : b' = true → b = true)
    {b0 ci : Nat} {fs : List Value} {n : Nat} (hcv : CV own index y bytes maxL ret n) (hrecv : C0[0]? = some (b0, .inr (ci, fs))) (hci : ∃ q : vw_C, vwCl[ci]? = some q ∧ q.1 = y.cls) (hav : av = .ref b0 :: As) (hlen : As.length = n) (hst : st0 = As.reverse ++ .ref b0 :: rest) (hl : lv_has ls nL lv) (hro : (rest.map fun v => v.category).sum ≤ 8)
    (hR : rm.frames + 1 ≤ R.frames ∧ 8 + (maxL + 11) + rm.locals ≤ R.locals) (hrc : rm.cells = 0 ∧ rm.slots = 0) (hcs : cells ≤ R.cells ∧ slots ≤ R.slots) (hdg : decode cc pc = .ok (.invokevirtual index, 3)) (ha : C1.map Prod.fst = C0.map Prod.fst) (src : List (Option Nat)) (hch : wchk isC 0 src = true) (hs : wmk ws C1 0 src = ws'.map some)
    (kk : ∀ (H1 : Heap) (locs1 : List Loc), Wd G A0 s ws' H1 locs1 → W p l e R s m args below meth c H1 locs1 cells slots Q (F0 m (pc + 3) ls (.int r :: rest))) : W p l e R s m args below meth c H locs cells slots Q (F0 m pc ls st0) :=
  x_ci F hW isC hC ha src hch hs (x_runV F hW isC hC hn hb hcv hrecv hci hav hlen hst hl hro hR hrc hcs hdg (hM H.size)) kk
theorem x_Si {r : Int32} (F : Fx p s m args meth c cc nL own G b A0) (hW : Wd G A0 s ws H locs) (hM : Mi l y rm bytes maxL ret G b' av C0 r C1) (isC : List Nat) (hC : isC.map (fun i => ws[i]?) = C0.map some) (hn : va_nd isC = true) (hb : b' = true → b = true)
    {n : Nat} (hcv : CS own index y bytes maxL ret n) (hlen : av.length = n) (hst : st0 = av.reverse ++ rest) (hl : lv_has ls nL lv) (hro : (rest.map fun v => v.category).sum ≤ 8)
    (hR : rm.frames + 1 ≤ R.frames ∧ 8 + (maxL + 11) + rm.locals ≤ R.locals) (hrc : rm.cells = 0 ∧ rm.slots = 0) (hcs : cells ≤ R.cells ∧ slots ≤ R.slots) (hdg : decode cc pc = .ok (.invokestatic index, 3)) (ha : C1.map Prod.fst = C0.map Prod.fst) (src : List (Option Nat)) (hch : wchk isC 0 src = true) (hs : wmk ws C1 0 src = ws'.map some)
    (kk : ∀ (H1 : Heap) (locs1 : List Loc), Wd G A0 s ws' H1 locs1 → W p l e R s m args below meth c H1 locs1 cells slots Q (F0 m (pc + 3) ls (.int r :: rest))) : W p l e R s m args below meth c H locs cells slots Q (F0 m pc ls st0) :=
  x_ci F hW isC hC ha src hch hs (x_runS F hW isC hC hn hb hcv hlen hst hl hro hR hrc hcs hdg (hM H.size)) kk
theorem x_Ni {r : Int32} {host : String} (F : Fx p s m args meth c cc nL own G b A0) (hW : Wd G A0 s ws H locs) (hM : Mi l y rm bytes maxL ret G b' av C0 r C1) (isC : List Nat) (hC : isC.map (fun i => ws[i]?) = C0.map some) (hn : va_nd isC = true) (hb : b' = true → b = true)
    {n : Nat} (hcv : CN own index y host bytes maxL ret n) (hlen : av.length = n) (hst : st0 = av.reverse ++ rest) (hl : lv_has ls nL lv) (hro : (rest.map fun v => v.category).sum ≤ 8)
    (hR : rm.frames + 1 ≤ R.frames ∧ 8 + (maxL + 11) + rm.locals ≤ R.locals) (hrc : rm.cells = 0 ∧ rm.slots = 0) (hcs : cells ≤ R.cells ∧ slots ≤ R.slots) (hdg : decode cc pc = .ok (.invokestatic index, 3)) (ha : C1.map Prod.fst = C0.map Prod.fst) (src : List (Option Nat)) (hch : wchk isC 0 src = true) (hs : wmk ws C1 0 src = ws'.map some)
    (kk : ∀ (H1 : Heap) (locs1 : List Loc), Wd G A0 s ws' H1 locs1 → W p l e R s m args below meth c H1 locs1 cells slots Q (F0 m (pc + 3) ls (.int r :: rest))) : W p l e R s m args below meth c H locs cells slots Q (F0 m pc ls st0) :=
  x_ci F hW isC hC ha src hch hs (x_runN F hW isC hC hn hb hcv hlen hst hl hro hR hrc hcs hdg (hM H.size)) kk
theorem x_cl {r : Int64} (F : Fx p s m args meth c cc nL own G b A0) (hW : Wd G A0 s ws H locs) (isC : List Nat) (hC : isC.map (fun i => ws[i]?) = C0.map some) (ha : C1.map Prod.fst = C0.map Prod.fst) (src : List (Option Nat)) (hch : wchk isC 0 src = true) (hs : wmk ws C1 0 src = ws'.map some)
    (hr : va_Run p l e R s m args below meth c H locs cells slots 0 0 (F0 m pc ls st0) rest ((va_Ql (fun (r' : Int64) (_ : Unit) => r' = r) (Bk G C1 (va_A C0 H.size)) (va_A C0 H.size)) av.toArray) (va_A C0 H.size))
    (kk : ∀ (H1 : Heap) (locs1 : List Loc), Wd G A0 s ws' H1 locs1 → W p l e R s m args below meth c H1 locs1 cells slots Q (F0 m (pc + 3) ls (.long r :: rest))) : W p l e R s m args below meth c H locs cells slots Q (F0 m pc ls st0) := by
  have hF := va_free (wc := C0) hW.2.1 hW.2.2 F.2.2.2.2.2.2.2.2.1 isC hC
  refine va_calll hr hW.2.2 (fun q _ h => hF q h) hF (fun r2 u t H1 locs1 ht hvm hw hB hz hk hS => ?_)
  subst hw
  exact kk H1 locs1 (x_after hW isC hC ha src hch hs hk (by rw [← ht]; exact hB.1) hS)
theorem x_Vl {r : Int64} (F : Fx p s m args meth c cc nL own G b A0) (hW : Wd G A0 s ws H locs) (hM : Ml l y rm bytes maxL ret G b' av C0 r C1) (isC : List Nat) (hC : isC.map (fun i => ws[i]?) = C0.map some) (hn : va_nd isC = true) (hb : b' = true → b = true)
    {b0 ci : Nat} {fs : List Value} {n : Nat} (hcv : CV own index y bytes maxL ret n) (hrecv : C0[0]? = some (b0, .inr (ci, fs))) (hci : ∃ q : vw_C, vwCl[ci]? = some q ∧ q.1 = y.cls) (hav : av = .ref b0 :: As) (hlen : As.length = n) (hst : st0 = As.reverse ++ .ref b0 :: rest) (hl : lv_has ls nL lv) (hro : (rest.map fun v => v.category).sum ≤ 8)
    (hR : rm.frames + 1 ≤ R.frames ∧ 8 + (maxL + 11) + rm.locals ≤ R.locals) (hrc : rm.cells = 0 ∧ rm.slots = 0) (hcs : cells ≤ R.cells ∧ slots ≤ R.slots) (hdg : decode cc pc = .ok (.invokevirtual index, 3)) (ha : C1.map Prod.fst = C0.map Prod.fst) (src : List (Option Nat)) (hch : wchk isC 0 src = true) (hs : wmk ws C1 0 src = ws'.map some)
    (kk : ∀ (H1 : Heap) (locs1 : List Loc), Wd G A0 s ws' H1 locs1 → W p l e R s m args below meth c H1 locs1 cells slots Q (F0 m (pc + 3) ls (.long r :: rest))) : W p l e R s m args below meth c H locs cells slots Q (F0 m pc ls st0) :=
  x_cl F hW isC hC ha src hch hs (x_runV F hW isC hC hn hb hcv hrecv hci hav hlen hst hl hro hR hrc hcs hdg (hM H.size)) kk
theorem x_Sl {r : Int64} (F : Fx p s m args meth c cc nL own G b A0) (hW : Wd G A0 s ws H locs) (hM : Ml l y rm bytes maxL ret G b' av C0 r C1) (isC : List Nat) (hC : isC.map (fun i => ws[i]?) = C0.map some) (hn : va_nd isC = true) (hb : b' = true → b = true)
    {n : Nat} (hcv : CS own index y bytes maxL ret n) (hlen : av.length = n) (hst : st0 = av.reverse ++ rest) (hl : lv_has ls nL lv) (hro : (rest.map fun v => v.category).sum ≤ 8)
    (hR : rm.frames + 1 ≤ R.frames ∧ 8 + (maxL + 11) + rm.locals ≤ R.locals) (hrc : rm.cells = 0 ∧ rm.slots = 0) (hcs : cells ≤ R.cells ∧ slots ≤ R.slots) (hdg : decode cc pc = .ok (.invokestatic index, 3)) (ha : C1.map Prod.fst = C0.map Prod.fst) (src : List (Option Nat)) (hch : wchk isC 0 src = true) (hs : wmk ws C1 0 src = ws'.map some)
    (kk : ∀ (H1 : Heap) (locs1 : List Loc), Wd G A0 s ws' H1 locs1 → W p l e R s m args below meth c H1 locs1 cells slots Q (F0 m (pc + 3) ls (.long r :: rest))) : W p l e R s m args below meth c H locs cells slots Q (F0 m pc ls st0) :=
  x_cl F hW isC hC ha src hch hs (x_runS F hW isC hC hn hb hcv hlen hst hl hro hR hrc hcs hdg (hM H.size)) kk
theorem x_Nl {r : Int64} {host : String} (F : Fx p s m args meth c cc nL own G b A0) (hW : Wd G A0 s ws H locs) (hM : Ml l y rm bytes maxL ret G b' av C0 r C1) (isC : List Nat) (hC : isC.map (fun i => ws[i]?) = C0.map some) (hn : va_nd isC = true) (hb : b' = true → b = true)
    {n : Nat} (hcv : CN own index y host bytes maxL ret n) (hlen : av.length = n) (hst : st0 = av.reverse ++ rest) (hl : lv_has ls nL lv) (hro : (rest.map fun v => v.category).sum ≤ 8)
    (hR : rm.frames + 1 ≤ R.frames ∧ 8 + (maxL + 11) + rm.locals ≤ R.locals) (hrc : rm.cells = 0 ∧ rm.slots = 0) (hcs : cells ≤ R.cells ∧ slots ≤ R.slots) (hdg : decode cc pc = .ok (.invokestatic index, 3)) (ha : C1.map Prod.fst = C0.map Prod.fst) (src : List (Option Nat)) (hch : wchk isC 0 src = true) (hs : wmk ws C1 0 src = ws'.map some)
    (kk : ∀ (H1 : Heap) (locs1 : List Loc), Wd G A0 s ws' H1 locs1 → W p l e R s m args below meth c H1 locs1 cells slots Q (F0 m (pc + 3) ls (.long r :: rest))) : W p l e R s m args below meth c H locs cells slots Q (F0 m pc ls st0) :=
  x_cl F hW isC hC ha src hch hs (x_runN F hW isC hC hn hb hcv hlen hst hl hro hR hrc hcs hdg (hM H.size)) kk
theorem x_cv  (F : Fx p s m args meth c cc nL own G b A0) (hW : Wd G A0 s ws H locs) (isC : List Nat) (hC : isC.map (fun i => ws[i]?) = C0.map some) (ha : C1.map Prod.fst = C0.map Prod.fst) (src : List (Option Nat)) (hch : wchk isC 0 src = true) (hs : wmk ws C1 0 src = ws'.map some)
    (hr : va_Run p l e R s m args below meth c H locs cells slots 0 0 (F0 m pc ls st0) rest ((va_Qv (fun (_ : Unit) => True) (Bk G C1 (va_A C0 H.size)) (va_A C0 H.size)) av.toArray) (va_A C0 H.size))
    (kk : ∀ (H1 : Heap) (locs1 : List Loc), Wd G A0 s ws' H1 locs1 → W p l e R s m args below meth c H1 locs1 cells slots Q (F0 m (pc + 3) ls (rest))) : W p l e R s m args below meth c H locs cells slots Q (F0 m pc ls st0) := by
  have hF := va_free (wc := C0) hW.2.1 hW.2.2 F.2.2.2.2.2.2.2.2.1 isC hC
  refine va_callv hr hW.2.2 (fun q _ h => hF q h) hF (fun u t H1 locs1 ht hvm hw hB hz hk hS => ?_)
  skip
  exact kk H1 locs1 (x_after hW isC hC ha src hch hs hk (by rw [← ht]; exact hB.1) hS)
theorem x_Vv  (F : Fx p s m args meth c cc nL own G b A0) (hW : Wd G A0 s ws H locs) (hM : Mv l y rm bytes maxL ret G b' av C0 C1) (isC : List Nat) (hC : isC.map (fun i => ws[i]?) = C0.map some) (hn : va_nd isC = true) (hb : b' = true → b = true)
    {b0 ci : Nat} {fs : List Value} {n : Nat} (hcv : CV own index y bytes maxL ret n) (hrecv : C0[0]? = some (b0, .inr (ci, fs))) (hci : ∃ q : vw_C, vwCl[ci]? = some q ∧ q.1 = y.cls) (hav : av = .ref b0 :: As) (hlen : As.length = n) (hst : st0 = As.reverse ++ .ref b0 :: rest) (hl : lv_has ls nL lv) (hro : (rest.map fun v => v.category).sum ≤ 8)
    (hR : rm.frames + 1 ≤ R.frames ∧ 8 + (maxL + 11) + rm.locals ≤ R.locals) (hrc : rm.cells = 0 ∧ rm.slots = 0) (hcs : cells ≤ R.cells ∧ slots ≤ R.slots) (hdg : decode cc pc = .ok (.invokevirtual index, 3)) (ha : C1.map Prod.fst = C0.map Prod.fst) (src : List (Option Nat)) (hch : wchk isC 0 src = true) (hs : wmk ws C1 0 src = ws'.map some)
    (kk : ∀ (H1 : Heap) (locs1 : List Loc), Wd G A0 s ws' H1 locs1 → W p l e R s m args below meth c H1 locs1 cells slots Q (F0 m (pc + 3) ls (rest))) : W p l e R s m args below meth c H locs cells slots Q (F0 m pc ls st0) :=
  x_cv F hW isC hC ha src hch hs (x_runV F hW isC hC hn hb hcv hrecv hci hav hlen hst hl hro hR hrc hcs hdg (hM H.size)) kk
theorem x_Sv  (F : Fx p s m args meth c cc nL own G b A0) (hW : Wd G A0 s ws H locs) (hM : Mv l y rm bytes maxL ret G b' av C0 C1) (isC : List Nat) (hC : isC.map (fun i => ws[i]?) = C0.map some) (hn : va_nd isC = true) (hb : b' = true → b = true)
    {n : Nat} (hcv : CS own index y bytes maxL ret n) (hlen : av.length = n) (hst : st0 = av.reverse ++ rest) (hl : lv_has ls nL lv) (hro : (rest.map fun v => v.category).sum ≤ 8)
    (hR : rm.frames + 1 ≤ R.frames ∧ 8 + (maxL + 11) + rm.locals ≤ R.locals) (hrc : rm.cells = 0 ∧ rm.slots = 0) (hcs : cells ≤ R.cells ∧ slots ≤ R.slots) (hdg : decode cc pc = .ok (.invokestatic index, 3)) (ha : C1.map Prod.fst = C0.map Prod.fst) (src : List (Option Nat)) (hch : wchk isC 0 src = true) (hs : wmk ws C1 0 src = ws'.map some)
    (kk : ∀ (H1 : Heap) (locs1 : List Loc), Wd G A0 s ws' H1 locs1 → W p l e R s m args below meth c H1 locs1 cells slots Q (F0 m (pc + 3) ls (rest))) : W p l e R s m args below meth c H locs cells slots Q (F0 m pc ls st0) :=
  x_cv F hW isC hC ha src hch hs (x_runS F hW isC hC hn hb hcv hlen hst hl hro hR hrc hcs hdg (hM H.size)) kk
theorem x_Nv  {host : String} (F : Fx p s m args meth c cc nL own G b A0) (hW : Wd G A0 s ws H locs) (hM : Mv l y rm bytes maxL ret G b' av C0 C1) (isC : List Nat) (hC : isC.map (fun i => ws[i]?) = C0.map some) (hn : va_nd isC = true) (hb : b' = true → b = true)
    {n : Nat} (hcv : CN own index y host bytes maxL ret n) (hlen : av.length = n) (hst : st0 = av.reverse ++ rest) (hl : lv_has ls nL lv) (hro : (rest.map fun v => v.category).sum ≤ 8)
    (hR : rm.frames + 1 ≤ R.frames ∧ 8 + (maxL + 11) + rm.locals ≤ R.locals) (hrc : rm.cells = 0 ∧ rm.slots = 0) (hcs : cells ≤ R.cells ∧ slots ≤ R.slots) (hdg : decode cc pc = .ok (.invokestatic index, 3)) (ha : C1.map Prod.fst = C0.map Prod.fst) (src : List (Option Nat)) (hch : wchk isC 0 src = true) (hs : wmk ws C1 0 src = ws'.map some)
    (kk : ∀ (H1 : Heap) (locs1 : List Loc), Wd G A0 s ws' H1 locs1 → W p l e R s m args below meth c H1 locs1 cells slots Q (F0 m (pc + 3) ls (rest))) : W p l e R s m args below meth c H locs cells slots Q (F0 m pc ls st0) :=
  x_cv F hW isC hC ha src hch hs (x_runN F hW isC hC hn hb hcv hlen hst hl hro hR hrc hcs hdg (hM H.size)) kk
end XC
