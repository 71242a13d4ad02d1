def f_X6_readsStatement_236 (v2_236 : Int32) (w_236 : MW) : Option (Int32 × MW) :=
  if v2_236 = 0 then
    some ((0 : Int32), w_236)
    else
    Option.bind (f_X6_here w_236) fun p_241 =>
    if p_241 = (59 : Int32) then
    some ((1 : Int32), (w_236.1, w_236.2.1, w_236.2.2.1, w_236.2.2.2.1, w_236.2.2.2.2.1, w_236.2.2.2.2.2.1, w_236.2.2.2.2.2.2.1, w_236.2.2.2.2.2.2.2.1, w_236.2.2.2.2.2.2.2.2.1, w_236.2.2.2.2.2.2.2.2.2.1, w_236.2.2.2.2.2.2.2.2.2.2.1, w_236.2.2.2.2.2.2.2.2.2.2.2.1, (w_236.2.2.2.2.2.2.2.2.2.2.2.2.1 + (1 : Int32)), w_236.2.2.2.2.2.2.2.2.2.2.2.2.2))
    else
    some ((0 : Int32), w_236)
def f_X6_readsStatement_139 (t0_139 : Int32) (w_139 : MW) : Option (Int32 × MW) :=
  f_X6_readsStatement_236 t0_139 w_139
def f_X6_readsStatement_138 (w_138 : MW) : Option (Int32 × MW) :=
  f_X6_readsStatement_139 (0 : Int32) w_138
def f_X6_readsStatement_173 (t0_173 : Int32) (w_173 : MW) : Option (Int32 × MW) :=
  f_X6_readsStatement_236 t0_173 w_173
def f_X6_readsStatement_172 (w_172 : MW) : Option (Int32 × MW) :=
  f_X6_readsStatement_173 (0 : Int32) w_172
def f_X6_readsStatement_200 (t0_200 : Int32) (w_200 : MW) : Option (Int32 × MW) :=
  f_X6_readsStatement_236 t0_200 w_200
def f_X6_readsStatement_199 (w_199 : MW) : Option (Int32 × MW) :=
  f_X6_readsStatement_200 (0 : Int32) w_199
def f_X6_readsStatement (w : MW) : Option (Int32 × MW) :=
  Option.bind (f_X6_here w) fun p_1 =>
    if p_1 = (99 : Int32) then
    Option.bind (f_X6_readsNumber (w.1, w.2.1, w.2.2.1, w.2.2.2.1, w.2.2.2.2.1, w.2.2.2.2.2.1, w.2.2.2.2.2.2.1, w.2.2.2.2.2.2.2.1, w.2.2.2.2.2.2.2.2.1, w.2.2.2.2.2.2.2.2.2.1, w.2.2.2.2.2.2.2.2.2.2.1, w.2.2.2.2.2.2.2.2.2.2.2.1, (w.2.2.2.2.2.2.2.2.2.2.2.2.1 + (1 : Int32)), w.2.2.2.2.2.2.2.2.2.2.2.2.2) (0 : Int32) (2 : Int32)) fun p_119 =>
    if p_119.1 = 0 then
    f_X6_readsStatement_138 p_119.2
    else
    Option.bind (f_X6_readsNumber p_119.2 (1 : Int32) (1 : Int32)) fun p_128 =>
    if p_128.1 = 0 then
    f_X6_readsStatement_138 p_128.2
    else
    f_X6_readsStatement_139 (1 : Int32) p_128.2
    else
    if p_1 = (100 : Int32) then
    some ((0 : Int32), (w.1, w.2.1, w.2.2.1, w.2.2.2.1, w.2.2.2.2.1, w.2.2.2.2.2.1, w.2.2.2.2.2.2.1, w.2.2.2.2.2.2.2.1, w.2.2.2.2.2.2.2.2.1, w.2.2.2.2.2.2.2.2.2.1, w.2.2.2.2.2.2.2.2.2.2.1, w.2.2.2.2.2.2.2.2.2.2.2.1, ((w.2.2.2.2.2.2.2.2.2.2.2.2.1 + (1 : Int32)) - (1 : Int32)), w.2.2.2.2.2.2.2.2.2.2.2.2.2))
    else
    if p_1 = (101 : Int32) then
    some ((0 : Int32), (w.1, w.2.1, w.2.2.1, w.2.2.2.1, w.2.2.2.2.1, w.2.2.2.2.2.1, w.2.2.2.2.2.2.1, w.2.2.2.2.2.2.2.1, w.2.2.2.2.2.2.2.2.1, w.2.2.2.2.2.2.2.2.2.1, w.2.2.2.2.2.2.2.2.2.2.1, w.2.2.2.2.2.2.2.2.2.2.2.1, ((w.2.2.2.2.2.2.2.2.2.2.2.2.1 + (1 : Int32)) - (1 : Int32)), w.2.2.2.2.2.2.2.2.2.2.2.2.2))
    else
    if p_1 = (102 : Int32) then
    Option.bind (f_X6_readsNumber (w.1, w.2.1, w.2.2.1, w.2.2.2.1, w.2.2.2.2.1, w.2.2.2.2.2.1, w.2.2.2.2.2.2.1, w.2.2.2.2.2.2.2.1, w.2.2.2.2.2.2.2.2.1, w.2.2.2.2.2.2.2.2.2.1, w.2.2.2.2.2.2.2.2.2.2.1, w.2.2.2.2.2.2.2.2.2.2.2.1, (w.2.2.2.2.2.2.2.2.2.2.2.2.1 + (1 : Int32)), w.2.2.2.2.2.2.2.2.2.2.2.2.2) (0 : Int32) (1 : Int32)) fun p_207 =>
    nm p_207.1 fun x_210 =>
    f_X6_readsStatement_236 x_210 p_207.2
    else
    if p_1 = (103 : Int32) then
    some ((0 : Int32), (w.1, w.2.1, w.2.2.1, w.2.2.2.1, w.2.2.2.2.1, w.2.2.2.2.2.1, w.2.2.2.2.2.2.1, w.2.2.2.2.2.2.2.1, w.2.2.2.2.2.2.2.2.1, w.2.2.2.2.2.2.2.2.2.1, w.2.2.2.2.2.2.2.2.2.2.1, w.2.2.2.2.2.2.2.2.2.2.2.1, ((w.2.2.2.2.2.2.2.2.2.2.2.2.1 + (1 : Int32)) - (1 : Int32)), w.2.2.2.2.2.2.2.2.2.2.2.2.2))
    else
    if p_1 = (104 : Int32) then
    Option.bind (f_X6_readsKind (w.1, w.2.1, w.2.2.1, w.2.2.2.1, w.2.2.2.2.1, w.2.2.2.2.2.1, w.2.2.2.2.2.2.1, w.2.2.2.2.2.2.2.1, w.2.2.2.2.2.2.2.2.1, w.2.2.2.2.2.2.2.2.2.1, w.2.2.2.2.2.2.2.2.2.2.1, w.2.2.2.2.2.2.2.2.2.2.2.1, (w.2.2.2.2.2.2.2.2.2.2.2.2.1 + (1 : Int32)), w.2.2.2.2.2.2.2.2.2.2.2.2.2)) fun p_144 =>
    if p_144.1 = 0 then
    f_X6_readsStatement_172 p_144.2
    else
    Option.bind (f_X6_readsNumber p_144.2 (1 : Int32) (1 : Int32)) fun p_153 =>
    if p_153.1 = 0 then
    f_X6_readsStatement_172 p_153.2
    else
    Option.bind (f_X6_readsNumber p_153.2 (2 : Int32) (2 : Int32)) fun p_162 =>
    if p_162.1 = 0 then
    f_X6_readsStatement_172 p_162.2
    else
    f_X6_readsStatement_173 (1 : Int32) p_162.2
    else
    if p_1 = (105 : Int32) then
    some ((0 : Int32), (w.1, w.2.1, w.2.2.1, w.2.2.2.1, w.2.2.2.2.1, w.2.2.2.2.2.1, w.2.2.2.2.2.2.1, w.2.2.2.2.2.2.2.1, w.2.2.2.2.2.2.2.2.1, w.2.2.2.2.2.2.2.2.2.1, w.2.2.2.2.2.2.2.2.2.2.1, w.2.2.2.2.2.2.2.2.2.2.2.1, ((w.2.2.2.2.2.2.2.2.2.2.2.2.1 + (1 : Int32)) - (1 : Int32)), w.2.2.2.2.2.2.2.2.2.2.2.2.2))
    else
    if p_1 = (106 : Int32) then
    some ((0 : Int32), (w.1, w.2.1, w.2.2.1, w.2.2.2.1, w.2.2.2.2.1, w.2.2.2.2.2.1, w.2.2.2.2.2.2.1, w.2.2.2.2.2.2.2.1, w.2.2.2.2.2.2.2.2.1, w.2.2.2.2.2.2.2.2.2.1, w.2.2.2.2.2.2.2.2.2.2.1, w.2.2.2.2.2.2.2.2.2.2.2.1, ((w.2.2.2.2.2.2.2.2.2.2.2.2.1 + (1 : Int32)) - (1 : Int32)), w.2.2.2.2.2.2.2.2.2.2.2.2.2))
    else
    if p_1 = (107 : Int32) then
    some ((0 : Int32), (w.1, w.2.1, w.2.2.1, w.2.2.2.1, w.2.2.2.2.1, w.2.2.2.2.2.1, w.2.2.2.2.2.2.1, w.2.2.2.2.2.2.2.1, w.2.2.2.2.2.2.2.2.1, w.2.2.2.2.2.2.2.2.2.1, w.2.2.2.2.2.2.2.2.2.2.1, w.2.2.2.2.2.2.2.2.2.2.2.1, ((w.2.2.2.2.2.2.2.2.2.2.2.2.1 + (1 : Int32)) - (1 : Int32)), w.2.2.2.2.2.2.2.2.2.2.2.2.2))
    else
    if p_1 = (108 : Int32) then
    some ((0 : Int32), (w.1, w.2.1, w.2.2.1, w.2.2.2.1, w.2.2.2.2.1, w.2.2.2.2.2.1, w.2.2.2.2.2.2.1, w.2.2.2.2.2.2.2.1, w.2.2.2.2.2.2.2.2.1, w.2.2.2.2.2.2.2.2.2.1, w.2.2.2.2.2.2.2.2.2.2.1, w.2.2.2.2.2.2.2.2.2.2.2.1, ((w.2.2.2.2.2.2.2.2.2.2.2.2.1 + (1 : Int32)) - (1 : Int32)), w.2.2.2.2.2.2.2.2.2.2.2.2.2))
    else
    if p_1 = (109 : Int32) then
    Option.bind (f_X6_readsNumber (w.1, w.2.1, w.2.2.1, w.2.2.2.1, w.2.2.2.2.1, w.2.2.2.2.2.1, w.2.2.2.2.2.2.1, w.2.2.2.2.2.2.2.1, w.2.2.2.2.2.2.2.2.1, w.2.2.2.2.2.2.2.2.2.1, w.2.2.2.2.2.2.2.2.2.2.1, w.2.2.2.2.2.2.2.2.2.2.2.1, (w.2.2.2.2.2.2.2.2.2.2.2.2.1 + (1 : Int32)), w.2.2.2.2.2.2.2.2.2.2.2.2.2) (0 : Int32) (1 : Int32)) fun p_180 =>
    if p_180.1 = 0 then
    f_X6_readsStatement_199 p_180.2
    else
    Option.bind (f_X6_readsNumber p_180.2 (1 : Int32) (2 : Int32)) fun p_189 =>
    if p_189.1 = 0 then
    f_X6_readsStatement_199 p_189.2
    else
    f_X6_readsStatement_200 (1 : Int32) p_189.2
    else
    if p_1 = (110 : Int32) then
    Option.bind (f_X6_readsNumber (w.1, w.2.1, w.2.2.1, w.2.2.2.1, w.2.2.2.2.1, w.2.2.2.2.2.1, w.2.2.2.2.2.2.1, w.2.2.2.2.2.2.2.1, w.2.2.2.2.2.2.2.2.1, w.2.2.2.2.2.2.2.2.2.1, w.2.2.2.2.2.2.2.2.2.2.1, w.2.2.2.2.2.2.2.2.2.2.2.1, (w.2.2.2.2.2.2.2.2.2.2.2.2.1 + (1 : Int32)), w.2.2.2.2.2.2.2.2.2.2.2.2.2) (0 : Int32) (2 : Int32)) fun p_217 =>
    nm p_217.1 fun x_220 =>
    f_X6_readsStatement_236 x_220 p_217.2
    else
    if p_1 = (111 : Int32) then
    some ((0 : Int32), (w.1, w.2.1, w.2.2.1, w.2.2.2.1, w.2.2.2.2.1, w.2.2.2.2.2.1, w.2.2.2.2.2.2.1, w.2.2.2.2.2.2.2.1, w.2.2.2.2.2.2.2.2.1, w.2.2.2.2.2.2.2.2.2.1, w.2.2.2.2.2.2.2.2.2.2.1, w.2.2.2.2.2.2.2.2.2.2.2.1, ((w.2.2.2.2.2.2.2.2.2.2.2.2.1 + (1 : Int32)) - (1 : Int32)), w.2.2.2.2.2.2.2.2.2.2.2.2.2))
    else
    if p_1 = (112 : Int32) then
    some ((0 : Int32), (w.1, w.2.1, w.2.2.1, w.2.2.2.1, w.2.2.2.2.1, w.2.2.2.2.2.1, w.2.2.2.2.2.2.1, w.2.2.2.2.2.2.2.1, w.2.2.2.2.2.2.2.2.1, w.2.2.2.2.2.2.2.2.2.1, w.2.2.2.2.2.2.2.2.2.2.1, w.2.2.2.2.2.2.2.2.2.2.2.1, ((w.2.2.2.2.2.2.2.2.2.2.2.2.1 + (1 : Int32)) - (1 : Int32)), w.2.2.2.2.2.2.2.2.2.2.2.2.2))
    else
    if p_1 = (113 : Int32) then
    some ((0 : Int32), (w.1, w.2.1, w.2.2.1, w.2.2.2.1, w.2.2.2.2.1, w.2.2.2.2.2.1, w.2.2.2.2.2.2.1, w.2.2.2.2.2.2.2.1, w.2.2.2.2.2.2.2.2.1, w.2.2.2.2.2.2.2.2.2.1, w.2.2.2.2.2.2.2.2.2.2.1, w.2.2.2.2.2.2.2.2.2.2.2.1, ((w.2.2.2.2.2.2.2.2.2.2.2.2.1 + (1 : Int32)) - (1 : Int32)), w.2.2.2.2.2.2.2.2.2.2.2.2.2))
    else
    if p_1 = (114 : Int32) then
    some ((0 : Int32), (w.1, w.2.1, w.2.2.1, w.2.2.2.1, w.2.2.2.2.1, w.2.2.2.2.2.1, w.2.2.2.2.2.2.1, w.2.2.2.2.2.2.2.1, w.2.2.2.2.2.2.2.2.1, w.2.2.2.2.2.2.2.2.2.1, w.2.2.2.2.2.2.2.2.2.2.1, w.2.2.2.2.2.2.2.2.2.2.2.1, ((w.2.2.2.2.2.2.2.2.2.2.2.2.1 + (1 : Int32)) - (1 : Int32)), w.2.2.2.2.2.2.2.2.2.2.2.2.2))
    else
    if p_1 = (115 : Int32) then
    some ((0 : Int32), (w.1, w.2.1, w.2.2.1, w.2.2.2.1, w.2.2.2.2.1, w.2.2.2.2.2.1, w.2.2.2.2.2.2.1, w.2.2.2.2.2.2.2.1, w.2.2.2.2.2.2.2.2.1, w.2.2.2.2.2.2.2.2.2.1, w.2.2.2.2.2.2.2.2.2.2.1, w.2.2.2.2.2.2.2.2.2.2.2.1, ((w.2.2.2.2.2.2.2.2.2.2.2.2.1 + (1 : Int32)) - (1 : Int32)), w.2.2.2.2.2.2.2.2.2.2.2.2.2))
    else
    if p_1 = (116 : Int32) then
    some ((0 : Int32), (w.1, w.2.1, w.2.2.1, w.2.2.2.1, w.2.2.2.2.1, w.2.2.2.2.2.1, w.2.2.2.2.2.2.1, w.2.2.2.2.2.2.2.1, w.2.2.2.2.2.2.2.2.1, w.2.2.2.2.2.2.2.2.2.1, w.2.2.2.2.2.2.2.2.2.2.1, w.2.2.2.2.2.2.2.2.2.2.2.1, ((w.2.2.2.2.2.2.2.2.2.2.2.2.1 + (1 : Int32)) - (1 : Int32)), w.2.2.2.2.2.2.2.2.2.2.2.2.2))
    else
    if p_1 = (117 : Int32) then
    Option.bind (f_X6_readsNumber (w.1, w.2.1, w.2.2.1, w.2.2.2.1, w.2.2.2.2.1, w.2.2.2.2.2.1, w.2.2.2.2.2.2.1, w.2.2.2.2.2.2.2.1, w.2.2.2.2.2.2.2.2.1, w.2.2.2.2.2.2.2.2.2.1, w.2.2.2.2.2.2.2.2.2.2.1, w.2.2.2.2.2.2.2.2.2.2.2.1, (w.2.2.2.2.2.2.2.2.2.2.2.2.1 + (1 : Int32)), w.2.2.2.2.2.2.2.2.2.2.2.2.2) (0 : Int32) (1 : Int32)) fun p_207_2 =>
    nm p_207_2.1 fun x_210_2 =>
    f_X6_readsStatement_236 x_210_2 p_207_2.2
    else
    if p_1 = (118 : Int32) then
    some ((0 : Int32), (w.1, w.2.1, w.2.2.1, w.2.2.2.1, w.2.2.2.2.1, w.2.2.2.2.2.1, w.2.2.2.2.2.2.1, w.2.2.2.2.2.2.2.1, w.2.2.2.2.2.2.2.2.1, w.2.2.2.2.2.2.2.2.2.1, w.2.2.2.2.2.2.2.2.2.2.1, w.2.2.2.2.2.2.2.2.2.2.2.1, ((w.2.2.2.2.2.2.2.2.2.2.2.2.1 + (1 : Int32)) - (1 : Int32)), w.2.2.2.2.2.2.2.2.2.2.2.2.2))
    else
    if p_1 = (119 : Int32) then
    Option.bind (f_X6_readsNumber (w.1, w.2.1, w.2.2.1, w.2.2.2.1, w.2.2.2.2.1, w.2.2.2.2.2.1, w.2.2.2.2.2.2.1, w.2.2.2.2.2.2.2.1, w.2.2.2.2.2.2.2.2.1, w.2.2.2.2.2.2.2.2.2.1, w.2.2.2.2.2.2.2.2.2.2.1, w.2.2.2.2.2.2.2.2.2.2.2.1, (w.2.2.2.2.2.2.2.2.2.2.2.2.1 + (1 : Int32)), w.2.2.2.2.2.2.2.2.2.2.2.2.2) (0 : Int32) (1 : Int32)) fun p_180_2 =>
    if p_180_2.1 = 0 then
    f_X6_readsStatement_199 p_180_2.2
    else
    Option.bind (f_X6_readsNumber p_180_2.2 (1 : Int32) (2 : Int32)) fun p_189_2 =>
    if p_189_2.1 = 0 then
    f_X6_readsStatement_199 p_189_2.2
    else
    f_X6_readsStatement_200 (1 : Int32) p_189_2.2
    else
    some ((0 : Int32), (w.1, w.2.1, w.2.2.1, w.2.2.2.1, w.2.2.2.2.1, w.2.2.2.2.2.1, w.2.2.2.2.2.2.1, w.2.2.2.2.2.2.2.1, w.2.2.2.2.2.2.2.2.1, w.2.2.2.2.2.2.2.2.2.1, w.2.2.2.2.2.2.2.2.2.2.1, w.2.2.2.2.2.2.2.2.2.2.2.1, ((w.2.2.2.2.2.2.2.2.2.2.2.2.1 + (1 : Int32)) - (1 : Int32)), w.2.2.2.2.2.2.2.2.2.2.2.2.2))
abbrev rmX6_readsStatement : Room := { frames := 2, cells := 0, slots := 0, locals := 45 }
set_option maxRecDepth 100000 in
set_option maxHeartbeats 4000000 in
theorem c_X6_readsStatement (l : Launch) (G : EnT) (q : Nat → Nat) (w : MW) (o : Int32 × MW) (h : f_X6_readsStatement w = some o) : Mi l yX6_readsStatement rmX6_readsStatement cX6_readsStatement 3 (some .boolean) G false [.ref (q 0)] (cMW G q w) o.1 (cMW G q o.2) := by
  refine Mi_of (by decide) (Nat.le_of_ble_eq_true rfl) ?_
  intro p e s m below meth c A0 F hr hW ls hl
  obtain ⟨hx, hb, hml, hown, hts, hK, hNW, hlocks, hA, hSX⟩ := id F
  have hl : lv_has ls 3 [(0, .ref (q 0))] := hl
  have hW : Wd G A0 s (cMW G q w) s.heap [] := hW
  show W p l e rmX6_readsStatement s m ([.ref (q 0)] : List Value).toArray below meth c s.heap [] 0 0 (Qi below G (cMW G q o.2) o.1 A0 ([.ref (q 0)] : List Value).toArray s) (F0 m 0 ls [])
  have J0 : ∀ (v2_236 : Int32) (w_236 : MW) (H : Heap) (locs : List Loc) (ls : Array Slot), f_X6_readsStatement_236 v2_236 w_236 = some o → Wd G A0 s (cMW G q w_236) H locs → lv_has ls 3 [(2, .int v2_236), (0, .ref (q 0))] → W p l e rmX6_readsStatement s m ([.ref (q 0)] : List Value).toArray below meth c H locs 0 0 (Qi below G (cMW G q o.2) o.1 A0 ([.ref (q 0)] : List Value).toArray s) (F0 m 236 ls []) := by
    intro v2_236 w_236 H locs ls h hW hl
    refine lv_iload_n hx hb dX6_readsStatement_236 rfl (lv_at hl 0 rfl) ?_
    obtain ⟨ht_237, hf_237⟩ := of_ite h
    refine lv_if_eq (tgt := 249) hx hb dX6_readsStatement_237 (by decide) (fun c_237 => ?_) (fun c_237 => ?_)
    · have h := ht_237 c_237
      refine lv_iconst (v := (0 : Int32)) hx hb dX6_readsStatement_249 (by decide) ?_
      obtain rfl := Option.some.inj h
      exact x_retz F hr hW (Or.inl rfl) rfl dX6_readsStatement_250
    · have h := hf_237 c_237
      refine lv_aload_n hx hb dX6_readsStatement_240 rfl (lv_at hl 1 rfl) ?_
      obtain ⟨p_241, hc_241, h⟩ := of_bind h
      refine x_Vi (av := [.ref (q 0)]) (As := []) F hW (c_X6_here l G q w_236 _ hc_241) [0, 1, 2, 3, 4, 5, 6, 7, 8, 9] rfl rfl (by intro q; cases q) cv_X6_100 rfl ⟨_, rfl, rfl⟩ rfl rfl rfl hl (Nat.le_of_ble_eq_true rfl) ⟨Nat.le_of_ble_eq_true rfl, Nat.le_of_ble_eq_true rfl⟩ ⟨rfl, rfl⟩ ⟨Nat.le_of_ble_eq_true rfl, Nat.le_of_ble_eq_true rfl⟩ dX6_readsStatement_241 rfl [some 0, some 1, some 2, some 3, some 4, some 5, some 6, some 7, some 8, some 9] rfl (ws' := cMW G q w_236) rfl (fun H locs hW => ?_)
      refine lv_bipush (v := (59 : Int32)) hx hb dX6_readsStatement_244 (by decide) ?_
      obtain ⟨ht_246, hf_246⟩ := of_ite h
      refine lv_icmp_eq (tgt := 251) hx hb dX6_readsStatement_246 (by decide) (fun c_246 => ?_) (fun c_246 => ?_)
      · have h := ht_246 c_246
        refine lv_aload_n hx hb dX6_readsStatement_251 rfl (lv_at hl 1 rfl) ?_
        refine lv_dup hx hb dX6_readsStatement_252 rfl ?_
        refine x_get F hW 0 rfl fa_X6_97 rfl dX6_readsStatement_253 ?_
        refine lv_iconst (v := (1 : Int32)) hx hb dX6_readsStatement_256 (by decide) ?_
        refine lv_iadd hx hb dX6_readsStatement_257 ?_
        refine x_put F hW 0 rfl fp_X6_97 rfl rfl (Nat.le_of_ble_eq_true rfl) (ws' := cMW G q (w_236.1, w_236.2.1, w_236.2.2.1, w_236.2.2.2.1, w_236.2.2.2.2.1, w_236.2.2.2.2.2.1, w_236.2.2.2.2.2.2.1, w_236.2.2.2.2.2.2.2.1, w_236.2.2.2.2.2.2.2.2.1, w_236.2.2.2.2.2.2.2.2.2.1, w_236.2.2.2.2.2.2.2.2.2.2.1, w_236.2.2.2.2.2.2.2.2.2.2.2.1, (w_236.2.2.2.2.2.2.2.2.2.2.2.2.1 + (1 : Int32)), w_236.2.2.2.2.2.2.2.2.2.2.2.2.2)) rfl dX6_readsStatement_258 (fun H locs hW => ?_)
        refine lv_iconst (v := (1 : Int32)) hx hb dX6_readsStatement_261 (by decide) ?_
        obtain rfl := Option.some.inj h
        exact x_retz F hr hW (Or.inr rfl) rfl dX6_readsStatement_262
      · have h := hf_246 c_246
        refine lv_iconst (v := (0 : Int32)) hx hb dX6_readsStatement_249 (by decide) ?_
        obtain rfl := Option.some.inj h
        exact x_retz F hr hW (Or.inl rfl) rfl dX6_readsStatement_250
  have J1 : ∀ (t0_139 : Int32) (w_139 : MW) (H : Heap) (locs : List Loc) (ls : Array Slot), f_X6_readsStatement_139 t0_139 w_139 = some o → Wd G A0 s (cMW G q w_139) H locs → lv_has ls 3 [(0, .ref (q 0))] → W p l e rmX6_readsStatement s m ([.ref (q 0)] : List Value).toArray below meth c H locs 0 0 (Qi below G (cMW G q o.2) o.1 A0 ([.ref (q 0)] : List Value).toArray s) (F0 m 139 ls [.int t0_139]) := by
    intro t0_139 w_139 H locs ls h hW hl
    refine lv_istore_n (lv' := [(2, .int t0_139), (0, .ref (q 0))]) hx hb dX6_readsStatement_139 rfl hl (by decide) rfl (fun ls hl => ?_)
    refine lv_goto (tgt := 236) hx hb dX6_readsStatement_140 (by decide) ?_
    exact J0 t0_139 w_139 _ _ _ h hW (lv_sub hl [0, 1] rfl)
  have J2 : ∀ (w_138 : MW) (H : Heap) (locs : List Loc) (ls : Array Slot), f_X6_readsStatement_138 w_138 = some o → Wd G A0 s (cMW G q w_138) H locs → lv_has ls 3 [(0, .ref (q 0))] → W p l e rmX6_readsStatement s m ([.ref (q 0)] : List Value).toArray below meth c H locs 0 0 (Qi below G (cMW G q o.2) o.1 A0 ([.ref (q 0)] : List Value).toArray s) (F0 m 138 ls []) := by
    intro w_138 H locs ls h hW hl
    refine lv_iconst (v := (0 : Int32)) hx hb dX6_readsStatement_138 (by decide) ?_
    exact J1 (0 : Int32) w_138 _ _ _ h hW (lv_sub hl [0] rfl)
  have J3 : ∀ (t0_173 : Int32) (w_173 : MW) (H : Heap) (locs : List Loc) (ls : Array Slot), f_X6_readsStatement_173 t0_173 w_173 = some o → Wd G A0 s (cMW G q w_173) H locs → lv_has ls 3 [(0, .ref (q 0))] → W p l e rmX6_readsStatement s m ([.ref (q 0)] : List Value).toArray below meth c H locs 0 0 (Qi below G (cMW G q o.2) o.1 A0 ([.ref (q 0)] : List Value).toArray s) (F0 m 173 ls [.int t0_173]) := by
    intro t0_173 w_173 H locs ls h hW hl
    refine lv_istore_n (lv' := [(2, .int t0_173), (0, .ref (q 0))]) hx hb dX6_readsStatement_173 rfl hl (by decide) rfl (fun ls hl => ?_)
    refine lv_goto (tgt := 236) hx hb dX6_readsStatement_174 (by decide) ?_
    exact J0 t0_173 w_173 _ _ _ h hW (lv_sub hl [0, 1] rfl)
  have J4 : ∀ (w_172 : MW) (H : Heap) (locs : List Loc) (ls : Array Slot), f_X6_readsStatement_172 w_172 = some o → Wd G A0 s (cMW G q w_172) H locs → lv_has ls 3 [(0, .ref (q 0))] → W p l e rmX6_readsStatement s m ([.ref (q 0)] : List Value).toArray below meth c H locs 0 0 (Qi below G (cMW G q o.2) o.1 A0 ([.ref (q 0)] : List Value).toArray s) (F0 m 172 ls []) := by
    intro w_172 H locs ls h hW hl
    refine lv_iconst (v := (0 : Int32)) hx hb dX6_readsStatement_172 (by decide) ?_
    exact J3 (0 : Int32) w_172 _ _ _ h hW (lv_sub hl [0] rfl)
  have J5 : ∀ (t0_200 : Int32) (w_200 : MW) (H : Heap) (locs : List Loc) (ls : Array Slot), f_X6_readsStatement_200 t0_200 w_200 = some o → Wd G A0 s (cMW G q w_200) H locs → lv_has ls 3 [(0, .ref (q 0))] → W p l e rmX6_readsStatement s m ([.ref (q 0)] : List Value).toArray below meth c H locs 0 0 (Qi below G (cMW G q o.2) o.1 A0 ([.ref (q 0)] : List Value).toArray s) (F0 m 200 ls [.int t0_200]) := by
    intro t0_200 w_200 H locs ls h hW hl
    refine lv_istore_n (lv' := [(2, .int t0_200), (0, .ref (q 0))]) hx hb dX6_readsStatement_200 rfl hl (by decide) rfl (fun ls hl => ?_)
    refine lv_goto (tgt := 236) hx hb dX6_readsStatement_201 (by decide) ?_
    exact J0 t0_200 w_200 _ _ _ h hW (lv_sub hl [0, 1] rfl)
  have J6 : ∀ (w_199 : MW) (H : Heap) (locs : List Loc) (ls : Array Slot), f_X6_readsStatement_199 w_199 = some o → Wd G A0 s (cMW G q w_199) H locs → lv_has ls 3 [(0, .ref (q 0))] → W p l e rmX6_readsStatement s m ([.ref (q 0)] : List Value).toArray below meth c H locs 0 0 (Qi below G (cMW G q o.2) o.1 A0 ([.ref (q 0)] : List Value).toArray s) (F0 m 199 ls []) := by
    intro w_199 H locs ls h hW hl
    refine lv_iconst (v := (0 : Int32)) hx hb dX6_readsStatement_199 (by decide) ?_
    exact J5 (0 : Int32) w_199 _ _ _ h hW (lv_sub hl [0] rfl)
  refine lv_aload_n hx hb dX6_readsStatement_0 rfl (lv_at hl 0 rfl) ?_
  obtain ⟨p_1, hc_1, h⟩ := of_bind h
  refine x_Vi (av := [.ref (q 0)]) (As := []) F hW (c_X6_here l G q w _ hc_1) [0, 1, 2, 3, 4, 5, 6, 7, 8, 9] rfl rfl (by intro q; cases q) cv_X6_100 rfl ⟨_, rfl, rfl⟩ rfl rfl rfl hl (Nat.le_of_ble_eq_true rfl) ⟨Nat.le_of_ble_eq_true rfl, Nat.le_of_ble_eq_true rfl⟩ ⟨rfl, rfl⟩ ⟨Nat.le_of_ble_eq_true rfl, Nat.le_of_ble_eq_true rfl⟩ dX6_readsStatement_1 rfl [some 0, some 1, some 2, some 3, some 4, some 5, some 6, some 7, some 8, some 9] rfl (ws' := cMW G q w) rfl (fun H locs hW => ?_)
  refine lv_istore_n (lv' := [(1, .int p_1), (0, .ref (q 0))]) hx hb dX6_readsStatement_4 rfl hl (by decide) rfl (fun ls hl => ?_)
  refine lv_aload_n hx hb dX6_readsStatement_5 rfl (lv_at hl 1 rfl) ?_
  refine lv_dup hx hb dX6_readsStatement_6 rfl ?_
  refine x_get F hW 0 rfl fa_X6_97 rfl dX6_readsStatement_7 ?_
  refine lv_iconst (v := (1 : Int32)) hx hb dX6_readsStatement_10 (by decide) ?_
  refine lv_iadd hx hb dX6_readsStatement_11 ?_
  refine x_put F hW 0 rfl fp_X6_97 rfl rfl (Nat.le_of_ble_eq_true rfl) (ws' := cMW G q (w.1, w.2.1, w.2.2.1, w.2.2.2.1, w.2.2.2.2.1, w.2.2.2.2.2.1, w.2.2.2.2.2.2.1, w.2.2.2.2.2.2.2.1, w.2.2.2.2.2.2.2.2.1, w.2.2.2.2.2.2.2.2.2.1, w.2.2.2.2.2.2.2.2.2.2.1, w.2.2.2.2.2.2.2.2.2.2.2.1, (w.2.2.2.2.2.2.2.2.2.2.2.2.1 + (1 : Int32)), w.2.2.2.2.2.2.2.2.2.2.2.2.2)) rfl dX6_readsStatement_12 (fun H locs hW => ?_)
  refine lv_iload_n hx hb dX6_readsStatement_15 rfl (lv_at hl 0 rfl) ?_
  obtain ⟨ht_16_0, h⟩ := of_ite h
  by_cases c_16_0 : p_1 = (99 : Int32)
  · have h := ht_16_0 c_16_0
    refine x_tableIn c_16_0 hx hb dX6_readsStatement_16 (by decide) (by decide) (off := (100)) rfl (tgt := 116) (by decide) ?_
    refine lv_aload_n hx hb dX6_readsStatement_116 rfl (lv_at hl 1 rfl) ?_
    refine lv_iconst (v := (0 : Int32)) hx hb dX6_readsStatement_117 (by decide) ?_
    refine lv_iconst (v := (2 : Int32)) hx hb dX6_readsStatement_118 (by decide) ?_
    obtain ⟨p_119, hc_119, h⟩ := of_bind h
    refine x_Vi (av := [.ref (q 0), .int (0 : Int32), .int (2 : Int32)]) (As := [.int (0 : Int32), .int (2 : Int32)]) F hW (c_X6_readsNumber l G q (w.1, w.2.1, w.2.2.1, w.2.2.2.1, w.2.2.2.2.1, w.2.2.2.2.2.1, w.2.2.2.2.2.2.1, w.2.2.2.2.2.2.2.1, w.2.2.2.2.2.2.2.2.1, w.2.2.2.2.2.2.2.2.2.1, w.2.2.2.2.2.2.2.2.2.2.1, w.2.2.2.2.2.2.2.2.2.2.2.1, (w.2.2.2.2.2.2.2.2.2.2.2.2.1 + (1 : Int32)), w.2.2.2.2.2.2.2.2.2.2.2.2.2) (0 : Int32) (2 : Int32) _ hc_119) [0, 1, 2, 3, 4, 5, 6, 7, 8, 9] rfl rfl (by intro q; cases q) cv_X6_107 rfl ⟨_, rfl, rfl⟩ rfl rfl rfl hl (Nat.le_of_ble_eq_true rfl) ⟨Nat.le_of_ble_eq_true rfl, Nat.le_of_ble_eq_true rfl⟩ ⟨rfl, rfl⟩ ⟨Nat.le_of_ble_eq_true rfl, Nat.le_of_ble_eq_true rfl⟩ dX6_readsStatement_119 rfl [some 0, some 1, some 2, some 3, some 4, some 5, some 6, some 7, some 8, some 9] rfl (ws' := cMW G q p_119.2) rfl (fun H locs hW => ?_)
    obtain ⟨ht_122, hf_122⟩ := of_ite h
    refine lv_if_eq (tgt := 138) hx hb dX6_readsStatement_122 (by decide) (fun c_122 => ?_) (fun c_122 => ?_)
    · have h := ht_122 c_122
      exact J2 p_119.2 _ _ _ h hW (lv_sub hl [1] rfl)
    · have h := hf_122 c_122
      refine lv_aload_n hx hb dX6_readsStatement_125 rfl (lv_at hl 1 rfl) ?_
      refine lv_iconst (v := (1 : Int32)) hx hb dX6_readsStatement_126 (by decide) ?_
      refine lv_iconst (v := (1 : Int32)) hx hb dX6_readsStatement_127 (by decide) ?_
      obtain ⟨p_128, hc_128, h⟩ := of_bind h
      refine x_Vi (av := [.ref (q 0), .int (1 : Int32), .int (1 : Int32)]) (As := [.int (1 : Int32), .int (1 : Int32)]) F hW (c_X6_readsNumber l G q p_119.2 (1 : Int32) (1 : Int32) _ hc_128) [0, 1, 2, 3, 4, 5, 6, 7, 8, 9] rfl rfl (by intro q; cases q) cv_X6_107 rfl ⟨_, rfl, rfl⟩ rfl rfl rfl hl (Nat.le_of_ble_eq_true rfl) ⟨Nat.le_of_ble_eq_true rfl, Nat.le_of_ble_eq_true rfl⟩ ⟨rfl, rfl⟩ ⟨Nat.le_of_ble_eq_true rfl, Nat.le_of_ble_eq_true rfl⟩ dX6_readsStatement_128 rfl [some 0, some 1, some 2, some 3, some 4, some 5, some 6, some 7, some 8, some 9] rfl (ws' := cMW G q p_128.2) rfl (fun H locs hW => ?_)
      obtain ⟨ht_131, hf_131⟩ := of_ite h
      refine lv_if_eq (tgt := 138) hx hb dX6_readsStatement_131 (by decide) (fun c_131 => ?_) (fun c_131 => ?_)
      · have h := ht_131 c_131
        exact J2 p_128.2 _ _ _ h hW (lv_sub hl [1] rfl)
      · have h := hf_131 c_131
        refine lv_iconst (v := (1 : Int32)) hx hb dX6_readsStatement_134 (by decide) ?_
        refine lv_goto (tgt := 139) hx hb dX6_readsStatement_135 (by decide) ?_
        exact J1 (1 : Int32) p_128.2 _ _ _ h hW (lv_sub hl [1] rfl)
  have h := h c_16_0
  obtain ⟨ht_16_1, h⟩ := of_ite h
  by_cases c_16_1 : p_1 = (100 : Int32)
  · have h := ht_16_1 c_16_1
    refine x_tableIn c_16_1 hx hb dX6_readsStatement_16 (by decide) (by decide) (off := (208)) rfl (tgt := 224) (by decide) ?_
    refine lv_aload_n hx hb dX6_readsStatement_224 rfl (lv_at hl 1 rfl) ?_
    refine lv_dup hx hb dX6_readsStatement_225 rfl ?_
    refine x_get F hW 0 rfl fa_X6_97 rfl dX6_readsStatement_226 ?_
    refine lv_iconst (v := (1 : Int32)) hx hb dX6_readsStatement_229 (by decide) ?_
    refine lv_isub hx hb dX6_readsStatement_230 ?_
    refine x_put F hW 0 rfl fp_X6_97 rfl rfl (Nat.le_of_ble_eq_true rfl) (ws' := cMW G q (w.1, w.2.1, w.2.2.1, w.2.2.2.1, w.2.2.2.2.1, w.2.2.2.2.2.1, w.2.2.2.2.2.2.1, w.2.2.2.2.2.2.2.1, w.2.2.2.2.2.2.2.2.1, w.2.2.2.2.2.2.2.2.2.1, w.2.2.2.2.2.2.2.2.2.2.1, w.2.2.2.2.2.2.2.2.2.2.2.1, ((w.2.2.2.2.2.2.2.2.2.2.2.2.1 + (1 : Int32)) - (1 : Int32)), w.2.2.2.2.2.2.2.2.2.2.2.2.2)) rfl dX6_readsStatement_231 (fun H locs hW => ?_)
    refine lv_iconst (v := (0 : Int32)) hx hb dX6_readsStatement_234 (by decide) ?_
    obtain rfl := Option.some.inj h
    exact x_retz F hr hW (Or.inl rfl) rfl dX6_readsStatement_235
  have h := h c_16_1
  obtain ⟨ht_16_2, h⟩ := of_ite h
  by_cases c_16_2 : p_1 = (101 : Int32)
  · have h := ht_16_2 c_16_2
    refine x_tableIn c_16_2 hx hb dX6_readsStatement_16 (by decide) (by decide) (off := (208)) rfl (tgt := 224) (by decide) ?_
    refine lv_aload_n hx hb dX6_readsStatement_224 rfl (lv_at hl 1 rfl) ?_
    refine lv_dup hx hb dX6_readsStatement_225 rfl ?_
    refine x_get F hW 0 rfl fa_X6_97 rfl dX6_readsStatement_226 ?_
    refine lv_iconst (v := (1 : Int32)) hx hb dX6_readsStatement_229 (by decide) ?_
    refine lv_isub hx hb dX6_readsStatement_230 ?_
    refine x_put F hW 0 rfl fp_X6_97 rfl rfl (Nat.le_of_ble_eq_true rfl) (ws' := cMW G q (w.1, w.2.1, w.2.2.1, w.2.2.2.1, w.2.2.2.2.1, w.2.2.2.2.2.1, w.2.2.2.2.2.2.1, w.2.2.2.2.2.2.2.1, w.2.2.2.2.2.2.2.2.1, w.2.2.2.2.2.2.2.2.2.1, w.2.2.2.2.2.2.2.2.2.2.1, w.2.2.2.2.2.2.2.2.2.2.2.1, ((w.2.2.2.2.2.2.2.2.2.2.2.2.1 + (1 : Int32)) - (1 : Int32)), w.2.2.2.2.2.2.2.2.2.2.2.2.2)) rfl dX6_readsStatement_231 (fun H locs hW => ?_)
    refine lv_iconst (v := (0 : Int32)) hx hb dX6_readsStatement_234 (by decide) ?_
    obtain rfl := Option.some.inj h
    exact x_retz F hr hW (Or.inl rfl) rfl dX6_readsStatement_235
  have h := h c_16_2
  obtain ⟨ht_16_3, h⟩ := of_ite h
  by_cases c_16_3 : p_1 = (102 : Int32)
  · have h := ht_16_3 c_16_3
    refine x_tableIn c_16_3 hx hb dX6_readsStatement_16 (by decide) (by decide) (off := (188)) rfl (tgt := 204) (by decide) ?_
    refine lv_aload_n hx hb dX6_readsStatement_204 rfl (lv_at hl 1 rfl) ?_
    refine lv_iconst (v := (0 : Int32)) hx hb dX6_readsStatement_205 (by decide) ?_
    refine lv_iconst (v := (1 : Int32)) hx hb dX6_readsStatement_206 (by decide) ?_
    obtain ⟨p_207, hc_207, h⟩ := of_bind h
    refine x_Vi (av := [.ref (q 0), .int (0 : Int32), .int (1 : Int32)]) (As := [.int (0 : Int32), .int (1 : Int32)]) F hW (c_X6_readsNumber l G q (w.1, w.2.1, w.2.2.1, w.2.2.2.1, w.2.2.2.2.1, w.2.2.2.2.2.1, w.2.2.2.2.2.2.1, w.2.2.2.2.2.2.2.1, w.2.2.2.2.2.2.2.2.1, w.2.2.2.2.2.2.2.2.2.1, w.2.2.2.2.2.2.2.2.2.2.1, w.2.2.2.2.2.2.2.2.2.2.2.1, (w.2.2.2.2.2.2.2.2.2.2.2.2.1 + (1 : Int32)), w.2.2.2.2.2.2.2.2.2.2.2.2.2) (0 : Int32) (1 : Int32) _ hc_207) [0, 1, 2, 3, 4, 5, 6, 7, 8, 9] rfl rfl (by intro q; cases q) cv_X6_107 rfl ⟨_, rfl, rfl⟩ rfl rfl rfl hl (Nat.le_of_ble_eq_true rfl) ⟨Nat.le_of_ble_eq_true rfl, Nat.le_of_ble_eq_true rfl⟩ ⟨rfl, rfl⟩ ⟨Nat.le_of_ble_eq_true rfl, Nat.le_of_ble_eq_true rfl⟩ dX6_readsStatement_207 rfl [some 0, some 1, some 2, some 3, some 4, some 5, some 6, some 7, some 8, some 9] rfl (ws' := cMW G q p_207.2) rfl (fun H locs hW => ?_)
    obtain ⟨x_210, e_x_210, h⟩ := of_nm h
    refine x_topi e_x_210 ?_
    refine lv_istore_n (lv' := [(2, .int x_210), (1, .int p_1), (0, .ref (q 0))]) hx hb dX6_readsStatement_210 rfl hl (by decide) rfl (fun ls hl => ?_)
    refine lv_goto (tgt := 236) hx hb dX6_readsStatement_211 (by decide) ?_
    exact J0 x_210 p_207.2 _ _ _ h hW (lv_sub hl [0, 2] rfl)
  have h := h c_16_3
  obtain ⟨ht_16_4, h⟩ := of_ite h
  by_cases c_16_4 : p_1 = (103 : Int32)
  · have h := ht_16_4 c_16_4
    refine x_tableIn c_16_4 hx hb dX6_readsStatement_16 (by decide) (by decide) (off := (208)) rfl (tgt := 224) (by decide) ?_
    refine lv_aload_n hx hb dX6_readsStatement_224 rfl (lv_at hl 1 rfl) ?_
    refine lv_dup hx hb dX6_readsStatement_225 rfl ?_
    refine x_get F hW 0 rfl fa_X6_97 rfl dX6_readsStatement_226 ?_
    refine lv_iconst (v := (1 : Int32)) hx hb dX6_readsStatement_229 (by decide) ?_
    refine lv_isub hx hb dX6_readsStatement_230 ?_
    refine x_put F hW 0 rfl fp_X6_97 rfl rfl (Nat.le_of_ble_eq_true rfl) (ws' := cMW G q (w.1, w.2.1, w.2.2.1, w.2.2.2.1, w.2.2.2.2.1, w.2.2.2.2.2.1, w.2.2.2.2.2.2.1, w.2.2.2.2.2.2.2.1, w.2.2.2.2.2.2.2.2.1, w.2.2.2.2.2.2.2.2.2.1, w.2.2.2.2.2.2.2.2.2.2.1, w.2.2.2.2.2.2.2.2.2.2.2.1, ((w.2.2.2.2.2.2.2.2.2.2.2.2.1 + (1 : Int32)) - (1 : Int32)), w.2.2.2.2.2.2.2.2.2.2.2.2.2)) rfl dX6_readsStatement_231 (fun H locs hW => ?_)
    refine lv_iconst (v := (0 : Int32)) hx hb dX6_readsStatement_234 (by decide) ?_
    obtain rfl := Option.some.inj h
    exact x_retz F hr hW (Or.inl rfl) rfl dX6_readsStatement_235
  have h := h c_16_4
  obtain ⟨ht_16_5, h⟩ := of_ite h
  by_cases c_16_5 : p_1 = (104 : Int32)
  · have h := ht_16_5 c_16_5
    refine x_tableIn c_16_5 hx hb dX6_readsStatement_16 (by decide) (by decide) (off := (127)) rfl (tgt := 143) (by decide) ?_
    refine lv_aload_n hx hb dX6_readsStatement_143 rfl (lv_at hl 1 rfl) ?_
    obtain ⟨p_144, hc_144, h⟩ := of_bind h
    refine x_Vi (av := [.ref (q 0)]) (As := []) F hW (c_X6_readsKind l G q (w.1, w.2.1, w.2.2.1, w.2.2.2.1, w.2.2.2.2.1, w.2.2.2.2.2.1, w.2.2.2.2.2.2.1, w.2.2.2.2.2.2.2.1, w.2.2.2.2.2.2.2.2.1, w.2.2.2.2.2.2.2.2.2.1, w.2.2.2.2.2.2.2.2.2.2.1, w.2.2.2.2.2.2.2.2.2.2.2.1, (w.2.2.2.2.2.2.2.2.2.2.2.2.1 + (1 : Int32)), w.2.2.2.2.2.2.2.2.2.2.2.2.2) _ hc_144) [0, 1, 2, 3, 4, 5, 6, 7, 8, 9] rfl rfl (by intro q; cases q) cv_X6_110 rfl ⟨_, rfl, rfl⟩ rfl rfl rfl hl (Nat.le_of_ble_eq_true rfl) ⟨Nat.le_of_ble_eq_true rfl, Nat.le_of_ble_eq_true rfl⟩ ⟨rfl, rfl⟩ ⟨Nat.le_of_ble_eq_true rfl, Nat.le_of_ble_eq_true rfl⟩ dX6_readsStatement_144 rfl [some 0, some 1, some 2, some 3, some 4, some 5, some 6, some 7, some 8, some 9] rfl (ws' := cMW G q p_144.2) rfl (fun H locs hW => ?_)
    obtain ⟨ht_147, hf_147⟩ := of_ite h
    refine lv_if_eq (tgt := 172) hx hb dX6_readsStatement_147 (by decide) (fun c_147 => ?_) (fun c_147 => ?_)
    · have h := ht_147 c_147
      exact J4 p_144.2 _ _ _ h hW (lv_sub hl [1] rfl)
    · have h := hf_147 c_147
      refine lv_aload_n hx hb dX6_readsStatement_150 rfl (lv_at hl 1 rfl) ?_
      refine lv_iconst (v := (1 : Int32)) hx hb dX6_readsStatement_151 (by decide) ?_
      refine lv_iconst (v := (1 : Int32)) hx hb dX6_readsStatement_152 (by decide) ?_
      obtain ⟨p_153, hc_153, h⟩ := of_bind h
      refine x_Vi (av := [.ref (q 0), .int (1 : Int32), .int (1 : Int32)]) (As := [.int (1 : Int32), .int (1 : Int32)]) F hW (c_X6_readsNumber l G q p_144.2 (1 : Int32) (1 : Int32) _ hc_153) [0, 1, 2, 3, 4, 5, 6, 7, 8, 9] rfl rfl (by intro q; cases q) cv_X6_107 rfl ⟨_, rfl, rfl⟩ rfl rfl rfl hl (Nat.le_of_ble_eq_true rfl) ⟨Nat.le_of_ble_eq_true rfl, Nat.le_of_ble_eq_true rfl⟩ ⟨rfl, rfl⟩ ⟨Nat.le_of_ble_eq_true rfl, Nat.le_of_ble_eq_true rfl⟩ dX6_readsStatement_153 rfl [some 0, some 1, some 2, some 3, some 4, some 5, some 6, some 7, some 8, some 9] rfl (ws' := cMW G q p_153.2) rfl (fun H locs hW => ?_)
      obtain ⟨ht_156, hf_156⟩ := of_ite h
      refine lv_if_eq (tgt := 172) hx hb dX6_readsStatement_156 (by decide) (fun c_156 => ?_) (fun c_156 => ?_)
      · have h := ht_156 c_156
        exact J4 p_153.2 _ _ _ h hW (lv_sub hl [1] rfl)
      · have h := hf_156 c_156
        refine lv_aload_n hx hb dX6_readsStatement_159 rfl (lv_at hl 1 rfl) ?_
        refine lv_iconst (v := (2 : Int32)) hx hb dX6_readsStatement_160 (by decide) ?_
        refine lv_iconst (v := (2 : Int32)) hx hb dX6_readsStatement_161 (by decide) ?_
        obtain ⟨p_162, hc_162, h⟩ := of_bind h
        refine x_Vi (av := [.ref (q 0), .int (2 : Int32), .int (2 : Int32)]) (As := [.int (2 : Int32), .int (2 : Int32)]) F hW (c_X6_readsNumber l G q p_153.2 (2 : Int32) (2 : Int32) _ hc_162) [0, 1, 2, 3, 4, 5, 6, 7, 8, 9] rfl rfl (by intro q; cases q) cv_X6_107 rfl ⟨_, rfl, rfl⟩ rfl rfl rfl hl (Nat.le_of_ble_eq_true rfl) ⟨Nat.le_of_ble_eq_true rfl, Nat.le_of_ble_eq_true rfl⟩ ⟨rfl, rfl⟩ ⟨Nat.le_of_ble_eq_true rfl, Nat.le_of_ble_eq_true rfl⟩ dX6_readsStatement_162 rfl [some 0, some 1, some 2, some 3, some 4, some 5, some 6, some 7, some 8, some 9] rfl (ws' := cMW G q p_162.2) rfl (fun H locs hW => ?_)
        obtain ⟨ht_165, hf_165⟩ := of_ite h
        refine lv_if_eq (tgt := 172) hx hb dX6_readsStatement_165 (by decide) (fun c_165 => ?_) (fun c_165 => ?_)
        · have h := ht_165 c_165
          exact J4 p_162.2 _ _ _ h hW (lv_sub hl [1] rfl)
        · have h := hf_165 c_165
          refine lv_iconst (v := (1 : Int32)) hx hb dX6_readsStatement_168 (by decide) ?_
          refine lv_goto (tgt := 173) hx hb dX6_readsStatement_169 (by decide) ?_
          exact J3 (1 : Int32) p_162.2 _ _ _ h hW (lv_sub hl [1] rfl)
  have h := h c_16_5
  obtain ⟨ht_16_6, h⟩ := of_ite h
  by_cases c_16_6 : p_1 = (105 : Int32)
  · have h := ht_16_6 c_16_6
    refine x_tableIn c_16_6 hx hb dX6_readsStatement_16 (by decide) (by decide) (off := (208)) rfl (tgt := 224) (by decide) ?_
    refine lv_aload_n hx hb dX6_readsStatement_224 rfl (lv_at hl 1 rfl) ?_
    refine lv_dup hx hb dX6_readsStatement_225 rfl ?_
    refine x_get F hW 0 rfl fa_X6_97 rfl dX6_readsStatement_226 ?_
    refine lv_iconst (v := (1 : Int32)) hx hb dX6_readsStatement_229 (by decide) ?_
    refine lv_isub hx hb dX6_readsStatement_230 ?_
    refine x_put F hW 0 rfl fp_X6_97 rfl rfl (Nat.le_of_ble_eq_true rfl) (ws' := cMW G q (w.1, w.2.1, w.2.2.1, w.2.2.2.1, w.2.2.2.2.1, w.2.2.2.2.2.1, w.2.2.2.2.2.2.1, w.2.2.2.2.2.2.2.1, w.2.2.2.2.2.2.2.2.1, w.2.2.2.2.2.2.2.2.2.1, w.2.2.2.2.2.2.2.2.2.2.1, w.2.2.2.2.2.2.2.2.2.2.2.1, ((w.2.2.2.2.2.2.2.2.2.2.2.2.1 + (1 : Int32)) - (1 : Int32)), w.2.2.2.2.2.2.2.2.2.2.2.2.2)) rfl dX6_readsStatement_231 (fun H locs hW => ?_)
    refine lv_iconst (v := (0 : Int32)) hx hb dX6_readsStatement_234 (by decide) ?_
    obtain rfl := Option.some.inj h
    exact x_retz F hr hW (Or.inl rfl) rfl dX6_readsStatement_235
  have h := h c_16_6
  obtain ⟨ht_16_7, h⟩ := of_ite h
  by_cases c_16_7 : p_1 = (106 : Int32)
  · have h := ht_16_7 c_16_7
    refine x_tableIn c_16_7 hx hb dX6_readsStatement_16 (by decide) (by decide) (off := (208)) rfl (tgt := 224) (by decide) ?_
    refine lv_aload_n hx hb dX6_readsStatement_224 rfl (lv_at hl 1 rfl) ?_
    refine lv_dup hx hb dX6_readsStatement_225 rfl ?_
    refine x_get F hW 0 rfl fa_X6_97 rfl dX6_readsStatement_226 ?_
    refine lv_iconst (v := (1 : Int32)) hx hb dX6_readsStatement_229 (by decide) ?_
    refine lv_isub hx hb dX6_readsStatement_230 ?_
    refine x_put F hW 0 rfl fp_X6_97 rfl rfl (Nat.le_of_ble_eq_true rfl) (ws' := cMW G q (w.1, w.2.1, w.2.2.1, w.2.2.2.1, w.2.2.2.2.1, w.2.2.2.2.2.1, w.2.2.2.2.2.2.1, w.2.2.2.2.2.2.2.1, w.2.2.2.2.2.2.2.2.1, w.2.2.2.2.2.2.2.2.2.1, w.2.2.2.2.2.2.2.2.2.2.1, w.2.2.2.2.2.2.2.2.2.2.2.1, ((w.2.2.2.2.2.2.2.2.2.2.2.2.1 + (1 : Int32)) - (1 : Int32)), w.2.2.2.2.2.2.2.2.2.2.2.2.2)) rfl dX6_readsStatement_231 (fun H locs hW => ?_)
    refine lv_iconst (v := (0 : Int32)) hx hb dX6_readsStatement_234 (by decide) ?_
    obtain rfl := Option.some.inj h
    exact x_retz F hr hW (Or.inl rfl) rfl dX6_readsStatement_235
  have h := h c_16_7
  obtain ⟨ht_16_8, h⟩ := of_ite h
  by_cases c_16_8 : p_1 = (107 : Int32)
  · have h := ht_16_8 c_16_8
    refine x_tableIn c_16_8 hx hb dX6_readsStatement_16 (by decide) (by decide) (off := (208)) rfl (tgt := 224) (by decide) ?_
    refine lv_aload_n hx hb dX6_readsStatement_224 rfl (lv_at hl 1 rfl) ?_
    refine lv_dup hx hb dX6_readsStatement_225 rfl ?_
    refine x_get F hW 0 rfl fa_X6_97 rfl dX6_readsStatement_226 ?_
    refine lv_iconst (v := (1 : Int32)) hx hb dX6_readsStatement_229 (by decide) ?_
    refine lv_isub hx hb dX6_readsStatement_230 ?_
    refine x_put F hW 0 rfl fp_X6_97 rfl rfl (Nat.le_of_ble_eq_true rfl) (ws' := cMW G q (w.1, w.2.1, w.2.2.1, w.2.2.2.1, w.2.2.2.2.1, w.2.2.2.2.2.1, w.2.2.2.2.2.2.1, w.2.2.2.2.2.2.2.1, w.2.2.2.2.2.2.2.2.1, w.2.2.2.2.2.2.2.2.2.1, w.2.2.2.2.2.2.2.2.2.2.1, w.2.2.2.2.2.2.2.2.2.2.2.1, ((w.2.2.2.2.2.2.2.2.2.2.2.2.1 + (1 : Int32)) - (1 : Int32)), w.2.2.2.2.2.2.2.2.2.2.2.2.2)) rfl dX6_readsStatement_231 (fun H locs hW => ?_)
    refine lv_iconst (v := (0 : Int32)) hx hb dX6_readsStatement_234 (by decide) ?_
    obtain rfl := Option.some.inj h
    exact x_retz F hr hW (Or.inl rfl) rfl dX6_readsStatement_235
  have h := h c_16_8
  obtain ⟨ht_16_9, h⟩ := of_ite h
  by_cases c_16_9 : p_1 = (108 : Int32)
  · have h := ht_16_9 c_16_9
    refine x_tableIn c_16_9 hx hb dX6_readsStatement_16 (by decide) (by decide) (off := (208)) rfl (tgt := 224) (by decide) ?_
    refine lv_aload_n hx hb dX6_readsStatement_224 rfl (lv_at hl 1 rfl) ?_
    refine lv_dup hx hb dX6_readsStatement_225 rfl ?_
    refine x_get F hW 0 rfl fa_X6_97 rfl dX6_readsStatement_226 ?_
    refine lv_iconst (v := (1 : Int32)) hx hb dX6_readsStatement_229 (by decide) ?_
    refine lv_isub hx hb dX6_readsStatement_230 ?_
    refine x_put F hW 0 rfl fp_X6_97 rfl rfl (Nat.le_of_ble_eq_true rfl) (ws' := cMW G q (w.1, w.2.1, w.2.2.1, w.2.2.2.1, w.2.2.2.2.1, w.2.2.2.2.2.1, w.2.2.2.2.2.2.1, w.2.2.2.2.2.2.2.1, w.2.2.2.2.2.2.2.2.1, w.2.2.2.2.2.2.2.2.2.1, w.2.2.2.2.2.2.2.2.2.2.1, w.2.2.2.2.2.2.2.2.2.2.2.1, ((w.2.2.2.2.2.2.2.2.2.2.2.2.1 + (1 : Int32)) - (1 : Int32)), w.2.2.2.2.2.2.2.2.2.2.2.2.2)) rfl dX6_readsStatement_231 (fun H locs hW => ?_)
    refine lv_iconst (v := (0 : Int32)) hx hb dX6_readsStatement_234 (by decide) ?_
    obtain rfl := Option.some.inj h
    exact x_retz F hr hW (Or.inl rfl) rfl dX6_readsStatement_235
  have h := h c_16_9
  obtain ⟨ht_16_10, h⟩ := of_ite h
  by_cases c_16_10 : p_1 = (109 : Int32)
  · have h := ht_16_10 c_16_10
    refine x_tableIn c_16_10 hx hb dX6_readsStatement_16 (by decide) (by decide) (off := (161)) rfl (tgt := 177) (by decide) ?_
    refine lv_aload_n hx hb dX6_readsStatement_177 rfl (lv_at hl 1 rfl) ?_
    refine lv_iconst (v := (0 : Int32)) hx hb dX6_readsStatement_178 (by decide) ?_
    refine lv_iconst (v := (1 : Int32)) hx hb dX6_readsStatement_179 (by decide) ?_
    obtain ⟨p_180, hc_180, h⟩ := of_bind h
    refine x_Vi (av := [.ref (q 0), .int (0 : Int32), .int (1 : Int32)]) (As := [.int (0 : Int32), .int (1 : Int32)]) F hW (c_X6_readsNumber l G q (w.1, w.2.1, w.2.2.1, w.2.2.2.1, w.2.2.2.2.1, w.2.2.2.2.2.1, w.2.2.2.2.2.2.1, w.2.2.2.2.2.2.2.1, w.2.2.2.2.2.2.2.2.1, w.2.2.2.2.2.2.2.2.2.1, w.2.2.2.2.2.2.2.2.2.2.1, w.2.2.2.2.2.2.2.2.2.2.2.1, (w.2.2.2.2.2.2.2.2.2.2.2.2.1 + (1 : Int32)), w.2.2.2.2.2.2.2.2.2.2.2.2.2) (0 : Int32) (1 : Int32) _ hc_180) [0, 1, 2, 3, 4, 5, 6, 7, 8, 9] rfl rfl (by intro q; cases q) cv_X6_107 rfl ⟨_, rfl, rfl⟩ rfl rfl rfl hl (Nat.le_of_ble_eq_true rfl) ⟨Nat.le_of_ble_eq_true rfl, Nat.le_of_ble_eq_true rfl⟩ ⟨rfl, rfl⟩ ⟨Nat.le_of_ble_eq_true rfl, Nat.le_of_ble_eq_true rfl⟩ dX6_readsStatement_180 rfl [some 0, some 1, some 2, some 3, some 4, some 5, some 6, some 7, some 8, some 9] rfl (ws' := cMW G q p_180.2) rfl (fun H locs hW => ?_)
    obtain ⟨ht_183, hf_183⟩ := of_ite h
    refine lv_if_eq (tgt := 199) hx hb dX6_readsStatement_183 (by decide) (fun c_183 => ?_) (fun c_183 => ?_)
    · have h := ht_183 c_183
      exact J6 p_180.2 _ _ _ h hW (lv_sub hl [1] rfl)
    · have h := hf_183 c_183
      refine lv_aload_n hx hb dX6_readsStatement_186 rfl (lv_at hl 1 rfl) ?_
      refine lv_iconst (v := (1 : Int32)) hx hb dX6_readsStatement_187 (by decide) ?_
      refine lv_iconst (v := (2 : Int32)) hx hb dX6_readsStatement_188 (by decide) ?_
      obtain ⟨p_189, hc_189, h⟩ := of_bind h
      refine x_Vi (av := [.ref (q 0), .int (1 : Int32), .int (2 : Int32)]) (As := [.int (1 : Int32), .int (2 : Int32)]) F hW (c_X6_readsNumber l G q p_180.2 (1 : Int32) (2 : Int32) _ hc_189) [0, 1, 2, 3, 4, 5, 6, 7, 8, 9] rfl rfl (by intro q; cases q) cv_X6_107 rfl ⟨_, rfl, rfl⟩ rfl rfl rfl hl (Nat.le_of_ble_eq_true rfl) ⟨Nat.le_of_ble_eq_true rfl, Nat.le_of_ble_eq_true rfl⟩ ⟨rfl, rfl⟩ ⟨Nat.le_of_ble_eq_true rfl, Nat.le_of_ble_eq_true rfl⟩ dX6_readsStatement_189 rfl [some 0, some 1, some 2, some 3, some 4, some 5, some 6, some 7, some 8, some 9] rfl (ws' := cMW G q p_189.2) rfl (fun H locs hW => ?_)
      obtain ⟨ht_192, hf_192⟩ := of_ite h
      refine lv_if_eq (tgt := 199) hx hb dX6_readsStatement_192 (by decide) (fun c_192 => ?_) (fun c_192 => ?_)
      · have h := ht_192 c_192
        exact J6 p_189.2 _ _ _ h hW (lv_sub hl [1] rfl)
      · have h := hf_192 c_192
        refine lv_iconst (v := (1 : Int32)) hx hb dX6_readsStatement_195 (by decide) ?_
        refine lv_goto (tgt := 200) hx hb dX6_readsStatement_196 (by decide) ?_
        exact J5 (1 : Int32) p_189.2 _ _ _ h hW (lv_sub hl [1] rfl)
  have h := h c_16_10
  obtain ⟨ht_16_11, h⟩ := of_ite h
  by_cases c_16_11 : p_1 = (110 : Int32)
  · have h := ht_16_11 c_16_11
    refine x_tableIn c_16_11 hx hb dX6_readsStatement_16 (by decide) (by decide) (off := (198)) rfl (tgt := 214) (by decide) ?_
    refine lv_aload_n hx hb dX6_readsStatement_214 rfl (lv_at hl 1 rfl) ?_
    refine lv_iconst (v := (0 : Int32)) hx hb dX6_readsStatement_215 (by decide) ?_
    refine lv_iconst (v := (2 : Int32)) hx hb dX6_readsStatement_216 (by decide) ?_
    obtain ⟨p_217, hc_217, h⟩ := of_bind h
    refine x_Vi (av := [.ref (q 0), .int (0 : Int32), .int (2 : Int32)]) (As := [.int (0 : Int32), .int (2 : Int32)]) F hW (c_X6_readsNumber l G q (w.1, w.2.1, w.2.2.1, w.2.2.2.1, w.2.2.2.2.1, w.2.2.2.2.2.1, w.2.2.2.2.2.2.1, w.2.2.2.2.2.2.2.1, w.2.2.2.2.2.2.2.2.1, w.2.2.2.2.2.2.2.2.2.1, w.2.2.2.2.2.2.2.2.2.2.1, w.2.2.2.2.2.2.2.2.2.2.2.1, (w.2.2.2.2.2.2.2.2.2.2.2.2.1 + (1 : Int32)), w.2.2.2.2.2.2.2.2.2.2.2.2.2) (0 : Int32) (2 : Int32) _ hc_217) [0, 1, 2, 3, 4, 5, 6, 7, 8, 9] rfl rfl (by intro q; cases q) cv_X6_107 rfl ⟨_, rfl, rfl⟩ rfl rfl rfl hl (Nat.le_of_ble_eq_true rfl) ⟨Nat.le_of_ble_eq_true rfl, Nat.le_of_ble_eq_true rfl⟩ ⟨rfl, rfl⟩ ⟨Nat.le_of_ble_eq_true rfl, Nat.le_of_ble_eq_true rfl⟩ dX6_readsStatement_217 rfl [some 0, some 1, some 2, some 3, some 4, some 5, some 6, some 7, some 8, some 9] rfl (ws' := cMW G q p_217.2) rfl (fun H locs hW => ?_)
    obtain ⟨x_220, e_x_220, h⟩ := of_nm h
    refine x_topi e_x_220 ?_
    refine lv_istore_n (lv' := [(2, .int x_220), (1, .int p_1), (0, .ref (q 0))]) hx hb dX6_readsStatement_220 rfl hl (by decide) rfl (fun ls hl => ?_)
    refine lv_goto (tgt := 236) hx hb dX6_readsStatement_221 (by decide) ?_
    exact J0 x_220 p_217.2 _ _ _ h hW (lv_sub hl [0, 2] rfl)
  have h := h c_16_11
  obtain ⟨ht_16_12, h⟩ := of_ite h
  by_cases c_16_12 : p_1 = (111 : Int32)
  · have h := ht_16_12 c_16_12
    refine x_tableIn c_16_12 hx hb dX6_readsStatement_16 (by decide) (by decide) (off := (208)) rfl (tgt := 224) (by decide) ?_
    refine lv_aload_n hx hb dX6_readsStatement_224 rfl (lv_at hl 1 rfl) ?_
    refine lv_dup hx hb dX6_readsStatement_225 rfl ?_
    refine x_get F hW 0 rfl fa_X6_97 rfl dX6_readsStatement_226 ?_
    refine lv_iconst (v := (1 : Int32)) hx hb dX6_readsStatement_229 (by decide) ?_
    refine lv_isub hx hb dX6_readsStatement_230 ?_
    refine x_put F hW 0 rfl fp_X6_97 rfl rfl (Nat.le_of_ble_eq_true rfl) (ws' := cMW G q (w.1, w.2.1, w.2.2.1, w.2.2.2.1, w.2.2.2.2.1, w.2.2.2.2.2.1, w.2.2.2.2.2.2.1, w.2.2.2.2.2.2.2.1, w.2.2.2.2.2.2.2.2.1, w.2.2.2.2.2.2.2.2.2.1, w.2.2.2.2.2.2.2.2.2.2.1, w.2.2.2.2.2.2.2.2.2.2.2.1, ((w.2.2.2.2.2.2.2.2.2.2.2.2.1 + (1 : Int32)) - (1 : Int32)), w.2.2.2.2.2.2.2.2.2.2.2.2.2)) rfl dX6_readsStatement_231 (fun H locs hW => ?_)
    refine lv_iconst (v := (0 : Int32)) hx hb dX6_readsStatement_234 (by decide) ?_
    obtain rfl := Option.some.inj h
    exact x_retz F hr hW (Or.inl rfl) rfl dX6_readsStatement_235
  have h := h c_16_12
  obtain ⟨ht_16_13, h⟩ := of_ite h
  by_cases c_16_13 : p_1 = (112 : Int32)
  · have h := ht_16_13 c_16_13
    refine x_tableIn c_16_13 hx hb dX6_readsStatement_16 (by decide) (by decide) (off := (208)) rfl (tgt := 224) (by decide) ?_
    refine lv_aload_n hx hb dX6_readsStatement_224 rfl (lv_at hl 1 rfl) ?_
    refine lv_dup hx hb dX6_readsStatement_225 rfl ?_
    refine x_get F hW 0 rfl fa_X6_97 rfl dX6_readsStatement_226 ?_
    refine lv_iconst (v := (1 : Int32)) hx hb dX6_readsStatement_229 (by decide) ?_
    refine lv_isub hx hb dX6_readsStatement_230 ?_
    refine x_put F hW 0 rfl fp_X6_97 rfl rfl (Nat.le_of_ble_eq_true rfl) (ws' := cMW G q (w.1, w.2.1, w.2.2.1, w.2.2.2.1, w.2.2.2.2.1, w.2.2.2.2.2.1, w.2.2.2.2.2.2.1, w.2.2.2.2.2.2.2.1, w.2.2.2.2.2.2.2.2.1, w.2.2.2.2.2.2.2.2.2.1, w.2.2.2.2.2.2.2.2.2.2.1, w.2.2.2.2.2.2.2.2.2.2.2.1, ((w.2.2.2.2.2.2.2.2.2.2.2.2.1 + (1 : Int32)) - (1 : Int32)), w.2.2.2.2.2.2.2.2.2.2.2.2.2)) rfl dX6_readsStatement_231 (fun H locs hW => ?_)
    refine lv_iconst (v := (0 : Int32)) hx hb dX6_readsStatement_234 (by decide) ?_
    obtain rfl := Option.some.inj h
    exact x_retz F hr hW (Or.inl rfl) rfl dX6_readsStatement_235
  have h := h c_16_13
  obtain ⟨ht_16_14, h⟩ := of_ite h
  by_cases c_16_14 : p_1 = (113 : Int32)
  · have h := ht_16_14 c_16_14
    refine x_tableIn c_16_14 hx hb dX6_readsStatement_16 (by decide) (by decide) (off := (208)) rfl (tgt := 224) (by decide) ?_
    refine lv_aload_n hx hb dX6_readsStatement_224 rfl (lv_at hl 1 rfl) ?_
    refine lv_dup hx hb dX6_readsStatement_225 rfl ?_
    refine x_get F hW 0 rfl fa_X6_97 rfl dX6_readsStatement_226 ?_
    refine lv_iconst (v := (1 : Int32)) hx hb dX6_readsStatement_229 (by decide) ?_
    refine lv_isub hx hb dX6_readsStatement_230 ?_
    refine x_put F hW 0 rfl fp_X6_97 rfl rfl (Nat.le_of_ble_eq_true rfl) (ws' := cMW G q (w.1, w.2.1, w.2.2.1, w.2.2.2.1, w.2.2.2.2.1, w.2.2.2.2.2.1, w.2.2.2.2.2.2.1, w.2.2.2.2.2.2.2.1, w.2.2.2.2.2.2.2.2.1, w.2.2.2.2.2.2.2.2.2.1, w.2.2.2.2.2.2.2.2.2.2.1, w.2.2.2.2.2.2.2.2.2.2.2.1, ((w.2.2.2.2.2.2.2.2.2.2.2.2.1 + (1 : Int32)) - (1 : Int32)), w.2.2.2.2.2.2.2.2.2.2.2.2.2)) rfl dX6_readsStatement_231 (fun H locs hW => ?_)
    refine lv_iconst (v := (0 : Int32)) hx hb dX6_readsStatement_234 (by decide) ?_
    obtain rfl := Option.some.inj h
    exact x_retz F hr hW (Or.inl rfl) rfl dX6_readsStatement_235
  have h := h c_16_14
  obtain ⟨ht_16_15, h⟩ := of_ite h
  by_cases c_16_15 : p_1 = (114 : Int32)
  · have h := ht_16_15 c_16_15
    refine x_tableIn c_16_15 hx hb dX6_readsStatement_16 (by decide) (by decide) (off := (208)) rfl (tgt := 224) (by decide) ?_
    refine lv_aload_n hx hb dX6_readsStatement_224 rfl (lv_at hl 1 rfl) ?_
    refine lv_dup hx hb dX6_readsStatement_225 rfl ?_
    refine x_get F hW 0 rfl fa_X6_97 rfl dX6_readsStatement_226 ?_
    refine lv_iconst (v := (1 : Int32)) hx hb dX6_readsStatement_229 (by decide) ?_
    refine lv_isub hx hb dX6_readsStatement_230 ?_
    refine x_put F hW 0 rfl fp_X6_97 rfl rfl (Nat.le_of_ble_eq_true rfl) (ws' := cMW G q (w.1, w.2.1, w.2.2.1, w.2.2.2.1, w.2.2.2.2.1, w.2.2.2.2.2.1, w.2.2.2.2.2.2.1, w.2.2.2.2.2.2.2.1, w.2.2.2.2.2.2.2.2.1, w.2.2.2.2.2.2.2.2.2.1, w.2.2.2.2.2.2.2.2.2.2.1, w.2.2.2.2.2.2.2.2.2.2.2.1, ((w.2.2.2.2.2.2.2.2.2.2.2.2.1 + (1 : Int32)) - (1 : Int32)), w.2.2.2.2.2.2.2.2.2.2.2.2.2)) rfl dX6_readsStatement_231 (fun H locs hW => ?_)
    refine lv_iconst (v := (0 : Int32)) hx hb dX6_readsStatement_234 (by decide) ?_
    obtain rfl := Option.some.inj h
    exact x_retz F hr hW (Or.inl rfl) rfl dX6_readsStatement_235
  have h := h c_16_15
  obtain ⟨ht_16_16, h⟩ := of_ite h
  by_cases c_16_16 : p_1 = (115 : Int32)
  · have h := ht_16_16 c_16_16
    refine x_tableIn c_16_16 hx hb dX6_readsStatement_16 (by decide) (by decide) (off := (208)) rfl (tgt := 224) (by decide) ?_
    refine lv_aload_n hx hb dX6_readsStatement_224 rfl (lv_at hl 1 rfl) ?_
    refine lv_dup hx hb dX6_readsStatement_225 rfl ?_
    refine x_get F hW 0 rfl fa_X6_97 rfl dX6_readsStatement_226 ?_
    refine lv_iconst (v := (1 : Int32)) hx hb dX6_readsStatement_229 (by decide) ?_
    refine lv_isub hx hb dX6_readsStatement_230 ?_
    refine x_put F hW 0 rfl fp_X6_97 rfl rfl (Nat.le_of_ble_eq_true rfl) (ws' := cMW G q (w.1, w.2.1, w.2.2.1, w.2.2.2.1, w.2.2.2.2.1, w.2.2.2.2.2.1, w.2.2.2.2.2.2.1, w.2.2.2.2.2.2.2.1, w.2.2.2.2.2.2.2.2.1, w.2.2.2.2.2.2.2.2.2.1, w.2.2.2.2.2.2.2.2.2.2.1, w.2.2.2.2.2.2.2.2.2.2.2.1, ((w.2.2.2.2.2.2.2.2.2.2.2.2.1 + (1 : Int32)) - (1 : Int32)), w.2.2.2.2.2.2.2.2.2.2.2.2.2)) rfl dX6_readsStatement_231 (fun H locs hW => ?_)
    refine lv_iconst (v := (0 : Int32)) hx hb dX6_readsStatement_234 (by decide) ?_
    obtain rfl := Option.some.inj h
    exact x_retz F hr hW (Or.inl rfl) rfl dX6_readsStatement_235
  have h := h c_16_16
  obtain ⟨ht_16_17, h⟩ := of_ite h
  by_cases c_16_17 : p_1 = (116 : Int32)
  · have h := ht_16_17 c_16_17
    refine x_tableIn c_16_17 hx hb dX6_readsStatement_16 (by decide) (by decide) (off := (208)) rfl (tgt := 224) (by decide) ?_
    refine lv_aload_n hx hb dX6_readsStatement_224 rfl (lv_at hl 1 rfl) ?_
    refine lv_dup hx hb dX6_readsStatement_225 rfl ?_
    refine x_get F hW 0 rfl fa_X6_97 rfl dX6_readsStatement_226 ?_
    refine lv_iconst (v := (1 : Int32)) hx hb dX6_readsStatement_229 (by decide) ?_
    refine lv_isub hx hb dX6_readsStatement_230 ?_
    refine x_put F hW 0 rfl fp_X6_97 rfl rfl (Nat.le_of_ble_eq_true rfl) (ws' := cMW G q (w.1, w.2.1, w.2.2.1, w.2.2.2.1, w.2.2.2.2.1, w.2.2.2.2.2.1, w.2.2.2.2.2.2.1, w.2.2.2.2.2.2.2.1, w.2.2.2.2.2.2.2.2.1, w.2.2.2.2.2.2.2.2.2.1, w.2.2.2.2.2.2.2.2.2.2.1, w.2.2.2.2.2.2.2.2.2.2.2.1, ((w.2.2.2.2.2.2.2.2.2.2.2.2.1 + (1 : Int32)) - (1 : Int32)), w.2.2.2.2.2.2.2.2.2.2.2.2.2)) rfl dX6_readsStatement_231 (fun H locs hW => ?_)
    refine lv_iconst (v := (0 : Int32)) hx hb dX6_readsStatement_234 (by decide) ?_
    obtain rfl := Option.some.inj h
    exact x_retz F hr hW (Or.inl rfl) rfl dX6_readsStatement_235
  have h := h c_16_17
  obtain ⟨ht_16_18, h⟩ := of_ite h
  by_cases c_16_18 : p_1 = (117 : Int32)
  · have h := ht_16_18 c_16_18
    refine x_tableIn c_16_18 hx hb dX6_readsStatement_16 (by decide) (by decide) (off := (188)) rfl (tgt := 204) (by decide) ?_
    refine lv_aload_n hx hb dX6_readsStatement_204 rfl (lv_at hl 1 rfl) ?_
    refine lv_iconst (v := (0 : Int32)) hx hb dX6_readsStatement_205 (by decide) ?_
    refine lv_iconst (v := (1 : Int32)) hx hb dX6_readsStatement_206 (by decide) ?_
    obtain ⟨p_207_2, hc_207, h⟩ := of_bind h
    refine x_Vi (av := [.ref (q 0), .int (0 : Int32), .int (1 : Int32)]) (As := [.int (0 : Int32), .int (1 : Int32)]) F hW (c_X6_readsNumber l G q (w.1, w.2.1, w.2.2.1, w.2.2.2.1, w.2.2.2.2.1, w.2.2.2.2.2.1, w.2.2.2.2.2.2.1, w.2.2.2.2.2.2.2.1, w.2.2.2.2.2.2.2.2.1, w.2.2.2.2.2.2.2.2.2.1, w.2.2.2.2.2.2.2.2.2.2.1, w.2.2.2.2.2.2.2.2.2.2.2.1, (w.2.2.2.2.2.2.2.2.2.2.2.2.1 + (1 : Int32)), w.2.2.2.2.2.2.2.2.2.2.2.2.2) (0 : Int32) (1 : Int32) _ hc_207) [0, 1, 2, 3, 4, 5, 6, 7, 8, 9] rfl rfl (by intro q; cases q) cv_X6_107 rfl ⟨_, rfl, rfl⟩ rfl rfl rfl hl (Nat.le_of_ble_eq_true rfl) ⟨Nat.le_of_ble_eq_true rfl, Nat.le_of_ble_eq_true rfl⟩ ⟨rfl, rfl⟩ ⟨Nat.le_of_ble_eq_true rfl, Nat.le_of_ble_eq_true rfl⟩ dX6_readsStatement_207 rfl [some 0, some 1, some 2, some 3, some 4, some 5, some 6, some 7, some 8, some 9] rfl (ws' := cMW G q p_207_2.2) rfl (fun H locs hW => ?_)
    obtain ⟨x_210_2, e_x_210_2, h⟩ := of_nm h
    refine x_topi e_x_210_2 ?_
    refine lv_istore_n (lv' := [(2, .int x_210_2), (1, .int p_1), (0, .ref (q 0))]) hx hb dX6_readsStatement_210 rfl hl (by decide) rfl (fun ls hl => ?_)
    refine lv_goto (tgt := 236) hx hb dX6_readsStatement_211 (by decide) ?_
    exact J0 x_210_2 p_207_2.2 _ _ _ h hW (lv_sub hl [0, 2] rfl)
  have h := h c_16_18
  obtain ⟨ht_16_19, h⟩ := of_ite h
  by_cases c_16_19 : p_1 = (118 : Int32)
  · have h := ht_16_19 c_16_19
    refine x_tableIn c_16_19 hx hb dX6_readsStatement_16 (by decide) (by decide) (off := (208)) rfl (tgt := 224) (by decide) ?_
    refine lv_aload_n hx hb dX6_readsStatement_224 rfl (lv_at hl 1 rfl) ?_
    refine lv_dup hx hb dX6_readsStatement_225 rfl ?_
    refine x_get F hW 0 rfl fa_X6_97 rfl dX6_readsStatement_226 ?_
    refine lv_iconst (v := (1 : Int32)) hx hb dX6_readsStatement_229 (by decide) ?_
    refine lv_isub hx hb dX6_readsStatement_230 ?_
    refine x_put F hW 0 rfl fp_X6_97 rfl rfl (Nat.le_of_ble_eq_true rfl) (ws' := cMW G q (w.1, w.2.1, w.2.2.1, w.2.2.2.1, w.2.2.2.2.1, w.2.2.2.2.2.1, w.2.2.2.2.2.2.1, w.2.2.2.2.2.2.2.1, w.2.2.2.2.2.2.2.2.1, w.2.2.2.2.2.2.2.2.2.1, w.2.2.2.2.2.2.2.2.2.2.1, w.2.2.2.2.2.2.2.2.2.2.2.1, ((w.2.2.2.2.2.2.2.2.2.2.2.2.1 + (1 : Int32)) - (1 : Int32)), w.2.2.2.2.2.2.2.2.2.2.2.2.2)) rfl dX6_readsStatement_231 (fun H locs hW => ?_)
    refine lv_iconst (v := (0 : Int32)) hx hb dX6_readsStatement_234 (by decide) ?_
    obtain rfl := Option.some.inj h
    exact x_retz F hr hW (Or.inl rfl) rfl dX6_readsStatement_235
  have h := h c_16_19
  obtain ⟨ht_16_20, h⟩ := of_ite h
  by_cases c_16_20 : p_1 = (119 : Int32)
  · have h := ht_16_20 c_16_20
    refine x_tableIn c_16_20 hx hb dX6_readsStatement_16 (by decide) (by decide) (off := (161)) rfl (tgt := 177) (by decide) ?_
    refine lv_aload_n hx hb dX6_readsStatement_177 rfl (lv_at hl 1 rfl) ?_
    refine lv_iconst (v := (0 : Int32)) hx hb dX6_readsStatement_178 (by decide) ?_
    refine lv_iconst (v := (1 : Int32)) hx hb dX6_readsStatement_179 (by decide) ?_
    obtain ⟨p_180_2, hc_180, h⟩ := of_bind h
    refine x_Vi (av := [.ref (q 0), .int (0 : Int32), .int (1 : Int32)]) (As := [.int (0 : Int32), .int (1 : Int32)]) F hW (c_X6_readsNumber l G q (w.1, w.2.1, w.2.2.1, w.2.2.2.1, w.2.2.2.2.1, w.2.2.2.2.2.1, w.2.2.2.2.2.2.1, w.2.2.2.2.2.2.2.1, w.2.2.2.2.2.2.2.2.1, w.2.2.2.2.2.2.2.2.2.1, w.2.2.2.2.2.2.2.2.2.2.1, w.2.2.2.2.2.2.2.2.2.2.2.1, (w.2.2.2.2.2.2.2.2.2.2.2.2.1 + (1 : Int32)), w.2.2.2.2.2.2.2.2.2.2.2.2.2) (0 : Int32) (1 : Int32) _ hc_180) [0, 1, 2, 3, 4, 5, 6, 7, 8, 9] rfl rfl (by intro q; cases q) cv_X6_107 rfl ⟨_, rfl, rfl⟩ rfl rfl rfl hl (Nat.le_of_ble_eq_true rfl) ⟨Nat.le_of_ble_eq_true rfl, Nat.le_of_ble_eq_true rfl⟩ ⟨rfl, rfl⟩ ⟨Nat.le_of_ble_eq_true rfl, Nat.le_of_ble_eq_true rfl⟩ dX6_readsStatement_180 rfl [some 0, some 1, some 2, some 3, some 4, some 5, some 6, some 7, some 8, some 9] rfl (ws' := cMW G q p_180_2.2) rfl (fun H locs hW => ?_)
    obtain ⟨ht_183, hf_183⟩ := of_ite h
    refine lv_if_eq (tgt := 199) hx hb dX6_readsStatement_183 (by decide) (fun c_183 => ?_) (fun c_183 => ?_)
    · have h := ht_183 c_183
      exact J6 p_180_2.2 _ _ _ h hW (lv_sub hl [1] rfl)
    · have h := hf_183 c_183
      refine lv_aload_n hx hb dX6_readsStatement_186 rfl (lv_at hl 1 rfl) ?_
      refine lv_iconst (v := (1 : Int32)) hx hb dX6_readsStatement_187 (by decide) ?_
      refine lv_iconst (v := (2 : Int32)) hx hb dX6_readsStatement_188 (by decide) ?_
      obtain ⟨p_189_2, hc_189, h⟩ := of_bind h
      refine x_Vi (av := [.ref (q 0), .int (1 : Int32), .int (2 : Int32)]) (As := [.int (1 : Int32), .int (2 : Int32)]) F hW (c_X6_readsNumber l G q p_180_2.2 (1 : Int32) (2 : Int32) _ hc_189) [0, 1, 2, 3, 4, 5, 6, 7, 8, 9] rfl rfl (by intro q; cases q) cv_X6_107 rfl ⟨_, rfl, rfl⟩ rfl rfl rfl hl (Nat.le_of_ble_eq_true rfl) ⟨Nat.le_of_ble_eq_true rfl, Nat.le_of_ble_eq_true rfl⟩ ⟨rfl, rfl⟩ ⟨Nat.le_of_ble_eq_true rfl, Nat.le_of_ble_eq_true rfl⟩ dX6_readsStatement_189 rfl [some 0, some 1, some 2, some 3, some 4, some 5, some 6, some 7, some 8, some 9] rfl (ws' := cMW G q p_189_2.2) rfl (fun H locs hW => ?_)
      obtain ⟨ht_192, hf_192⟩ := of_ite h
      refine lv_if_eq (tgt := 199) hx hb dX6_readsStatement_192 (by decide) (fun c_192 => ?_) (fun c_192 => ?_)
      · have h := ht_192 c_192
        exact J6 p_189_2.2 _ _ _ h hW (lv_sub hl [1] rfl)
      · have h := hf_192 c_192
        refine lv_iconst (v := (1 : Int32)) hx hb dX6_readsStatement_195 (by decide) ?_
        refine lv_goto (tgt := 200) hx hb dX6_readsStatement_196 (by decide) ?_
        exact J5 (1 : Int32) p_189_2.2 _ _ _ h hW (lv_sub hl [1] rfl)
  have h := h c_16_20
  refine lv_tableOut hx hb dX6_readsStatement_16 (by have z0 := x_ne c_16_0 (z := 99) (by decide); have z1 := x_ne c_16_1 (z := 100) (by decide); have z2 := x_ne c_16_2 (z := 101) (by decide); have z3 := x_ne c_16_3 (z := 102) (by decide); have z4 := x_ne c_16_4 (z := 103) (by decide); have z5 := x_ne c_16_5 (z := 104) (by decide); have z6 := x_ne c_16_6 (z := 105) (by decide); have z7 := x_ne c_16_7 (z := 106) (by decide); have z8 := x_ne c_16_8 (z := 107) (by decide); have z9 := x_ne c_16_9 (z := 108) (by decide); have z10 := x_ne c_16_10 (z := 109) (by decide); have z11 := x_ne c_16_11 (z := 110) (by decide); have z12 := x_ne c_16_12 (z := 111) (by decide); have z13 := x_ne c_16_13 (z := 112) (by decide); have z14 := x_ne c_16_14 (z := 113) (by decide); have z15 := x_ne c_16_15 (z := 114) (by decide); have z16 := x_ne c_16_16 (z := 115) (by decide); have z17 := x_ne c_16_17 (z := 116) (by decide); have z18 := x_ne c_16_18 (z := 117) (by decide); have z19 := x_ne c_16_19 (z := 118) (by decide); have z20 := x_ne c_16_20 (z := 119) (by decide); omega) (tgt := 224) (by decide) ?_
  refine lv_aload_n hx hb dX6_readsStatement_224 rfl (lv_at hl 1 rfl) ?_
  refine lv_dup hx hb dX6_readsStatement_225 rfl ?_
  refine x_get F hW 0 rfl fa_X6_97 rfl dX6_readsStatement_226 ?_
  refine lv_iconst (v := (1 : Int32)) hx hb dX6_readsStatement_229 (by decide) ?_
  refine lv_isub hx hb dX6_readsStatement_230 ?_
  refine x_put F hW 0 rfl fp_X6_97 rfl rfl (Nat.le_of_ble_eq_true rfl) (ws' := cMW G q (w.1, w.2.1, w.2.2.1, w.2.2.2.1, w.2.2.2.2.1, w.2.2.2.2.2.1, w.2.2.2.2.2.2.1, w.2.2.2.2.2.2.2.1, w.2.2.2.2.2.2.2.2.1, w.2.2.2.2.2.2.2.2.2.1, w.2.2.2.2.2.2.2.2.2.2.1, w.2.2.2.2.2.2.2.2.2.2.2.1, ((w.2.2.2.2.2.2.2.2.2.2.2.2.1 + (1 : Int32)) - (1 : Int32)), w.2.2.2.2.2.2.2.2.2.2.2.2.2)) rfl dX6_readsStatement_231 (fun H locs hW => ?_)
  refine lv_iconst (v := (0 : Int32)) hx hb dX6_readsStatement_234 (by decide) ?_
  obtain rfl := Option.some.inj h
  exact x_retz F hr hW (Or.inl rfl) rfl dX6_readsStatement_235
def f_X6_adds (w : (Nat → Int32)) (x1 : Int32) (x2 : Int32) (x3 : Int32) : Option ((Nat → Int32)) :=
  if inR (0 : Int32) 71 then
    nm (w (0 : Int32).toNatClampNeg) fun x_3 =>
    Option.bind (f_X6_of x_3 (0 : Int32)) fun p_9 =>
    if inR p_9 71 then
    Option.bind (f_X6_of x_3 (1 : Int32)) fun p_18 =>
    if inR p_18 71 then
    Option.bind (f_X6_of x_3 (2 : Int32)) fun p_27 =>
    if inR p_27 71 then
    Option.bind (f_X6_of x_3 (3 : Int32)) fun p_36 =>
    if inR p_36 71 then
    Option.bind (f_X6_of x_3 (4 : Int32)) fun p_46 =>
    if inR p_46 71 then
    Option.bind (f_X6_of x_3 (5 : Int32)) fun p_55 =>
    if inR p_55 71 then
    if inR (0 : Int32) 71 then
    if inR (0 : Int32) 71 then
    some (upd (upd (upd (upd (upd (upd (upd w p_9.toNatClampNeg x1) p_18.toNatClampNeg x2) p_27.toNatClampNeg x3) p_36.toNatClampNeg (20 : Int32)) p_46.toNatClampNeg (0 : Int32)) p_55.toNatClampNeg (0 : Int32)) (0 : Int32).toNatClampNeg (((upd (upd (upd (upd (upd (upd w p_9.toNatClampNeg x1) p_18.toNatClampNeg x2) p_27.toNatClampNeg x3) p_36.toNatClampNeg (20 : Int32)) p_46.toNatClampNeg (0 : Int32)) p_55.toNatClampNeg (0 : Int32)) (0 : Int32).toNatClampNeg) + (1 : Int32)))
    else none
    else none
    else none
    else none
    else none
    else none
    else none
    else none
    else none
abbrev rmX6_adds : Room := { frames := 1, cells := 0, slots := 0, locals := 21 }
set_option maxRecDepth 100000 in
set_option maxHeartbeats 4000000 in
theorem c_X6_adds (l : Launch) (G : EnT) (q : Nat → Nat) (w : (Nat → Int32)) (x1 : Int32) (x2 : Int32) (x3 : Int32) (o : (Nat → Int32)) (h : f_X6_adds w x1 x2 x3 = some o) : Mv l yX6_adds rmX6_adds cX6_adds 5 none G false [.ref (q 0), .int x1, .int x2, .int x3] (cAR G 71 q w) (cAR G 71 q o) := by
  refine Mv_of (by decide) (Nat.le_of_ble_eq_true rfl) ?_
  intro p e s m below meth c A0 F hr hW ls hl
  obtain ⟨hx, hb, hml, hown, hts, hK, hNW, hlocks, hA, hSX⟩ := id F
  have hl : lv_has ls 5 [(0, .ref (q 0)), (1, .int x1), (2, .int x2), (3, .int x3)] := hl
  have hW : Wd G A0 s (cAR G 71 q w) s.heap [] := hW
  show W p l e rmX6_adds s m ([.ref (q 0), .int x1, .int x2, .int x3] : List Value).toArray below meth c s.heap [] 0 0 (Qv below G (cAR G 71 q o) A0 ([.ref (q 0), .int x1, .int x2, .int x3] : List Value).toArray s) (F0 m 0 ls [])
  refine lv_aload_n hx hb dX6_adds_0 rfl (lv_at hl 0 rfl) ?_
  refine lv_iconst (v := (0 : Int32)) hx hb dX6_adds_1 (by decide) ?_
  obtain ⟨g_2, h⟩ := of_guard h
  refine x_iald F hW 0 rfl g_2 dX6_adds_2 ?_
  obtain ⟨x_3, e_x_3, h⟩ := of_nm h
  refine x_topi e_x_3 ?_
  refine lv_istore (lv' := [(4, .int x_3), (0, .ref (q 0)), (1, .int x1), (2, .int x2), (3, .int x3)]) hx hb dX6_adds_3 hl (by decide) rfl (fun ls hl => ?_)
  refine lv_aload_n hx hb dX6_adds_5 rfl (lv_at hl 1 rfl) ?_
  refine lv_iload hx hb dX6_adds_6 (lv_at hl 0 rfl) ?_
  refine lv_iconst (v := (0 : Int32)) hx hb dX6_adds_8 (by decide) ?_
  obtain ⟨p_9, hc_9, h⟩ := of_bind h
  refine x_Si (av := [.int x_3, .int (0 : Int32)]) F hW (c_X6_of l G x_3 (0 : Int32) _ hc_9) [] rfl rfl (by intro q; cases q) cs_X6_47 rfl rfl hl (Nat.le_of_ble_eq_true rfl) ⟨Nat.le_of_ble_eq_true rfl, Nat.le_of_ble_eq_true rfl⟩ ⟨rfl, rfl⟩ ⟨Nat.le_of_ble_eq_true rfl, Nat.le_of_ble_eq_true rfl⟩ dX6_adds_9 rfl [none] rfl (ws' := cAR G 71 q w) rfl (fun H locs hW => ?_)
  refine lv_iload_n hx hb dX6_adds_12 rfl (lv_at hl 2 rfl) ?_
  obtain ⟨g_13, h⟩ := of_guard h
  refine x_iast F hW 0 rfl g_13 (ws' := cAR G 71 q (upd w p_9.toNatClampNeg x1)) rfl dX6_adds_13 (fun H locs hW => ?_)
  refine lv_aload_n hx hb dX6_adds_14 rfl (lv_at hl 1 rfl) ?_
  refine lv_iload hx hb dX6_adds_15 (lv_at hl 0 rfl) ?_
  refine lv_iconst (v := (1 : Int32)) hx hb dX6_adds_17 (by decide) ?_
  obtain ⟨p_18, hc_18, h⟩ := of_bind h
  refine x_Si (av := [.int x_3, .int (1 : Int32)]) F hW (c_X6_of l G x_3 (1 : Int32) _ hc_18) [] rfl rfl (by intro q; cases q) cs_X6_47 rfl rfl hl (Nat.le_of_ble_eq_true rfl) ⟨Nat.le_of_ble_eq_true rfl, Nat.le_of_ble_eq_true rfl⟩ ⟨rfl, rfl⟩ ⟨Nat.le_of_ble_eq_true rfl, Nat.le_of_ble_eq_true rfl⟩ dX6_adds_18 rfl [none] rfl (ws' := cAR G 71 q (upd w p_9.toNatClampNeg x1)) rfl (fun H locs hW => ?_)
  refine lv_iload_n hx hb dX6_adds_21 rfl (lv_at hl 3 rfl) ?_
  obtain ⟨g_22, h⟩ := of_guard h
  refine x_iast F hW 0 rfl g_22 (ws' := cAR G 71 q (upd (upd w p_9.toNatClampNeg x1) p_18.toNatClampNeg x2)) rfl dX6_adds_22 (fun H locs hW => ?_)
  refine lv_aload_n hx hb dX6_adds_23 rfl (lv_at hl 1 rfl) ?_
  refine lv_iload hx hb dX6_adds_24 (lv_at hl 0 rfl) ?_
  refine lv_iconst (v := (2 : Int32)) hx hb dX6_adds_26 (by decide) ?_
  obtain ⟨p_27, hc_27, h⟩ := of_bind h
  refine x_Si (av := [.int x_3, .int (2 : Int32)]) F hW (c_X6_of l G x_3 (2 : Int32) _ hc_27) [] rfl rfl (by intro q; cases q) cs_X6_47 rfl rfl hl (Nat.le_of_ble_eq_true rfl) ⟨Nat.le_of_ble_eq_true rfl, Nat.le_of_ble_eq_true rfl⟩ ⟨rfl, rfl⟩ ⟨Nat.le_of_ble_eq_true rfl, Nat.le_of_ble_eq_true rfl⟩ dX6_adds_27 rfl [none] rfl (ws' := cAR G 71 q (upd (upd w p_9.toNatClampNeg x1) p_18.toNatClampNeg x2)) rfl (fun H locs hW => ?_)
  refine lv_iload_n hx hb dX6_adds_30 rfl (lv_at hl 4 rfl) ?_
  obtain ⟨g_31, h⟩ := of_guard h
  refine x_iast F hW 0 rfl g_31 (ws' := cAR G 71 q (upd (upd (upd w p_9.toNatClampNeg x1) p_18.toNatClampNeg x2) p_27.toNatClampNeg x3)) rfl dX6_adds_31 (fun H locs hW => ?_)
  refine lv_aload_n hx hb dX6_adds_32 rfl (lv_at hl 1 rfl) ?_
  refine lv_iload hx hb dX6_adds_33 (lv_at hl 0 rfl) ?_
  refine lv_iconst (v := (3 : Int32)) hx hb dX6_adds_35 (by decide) ?_
  obtain ⟨p_36, hc_36, h⟩ := of_bind h
  refine x_Si (av := [.int x_3, .int (3 : Int32)]) F hW (c_X6_of l G x_3 (3 : Int32) _ hc_36) [] rfl rfl (by intro q; cases q) cs_X6_47 rfl rfl hl (Nat.le_of_ble_eq_true rfl) ⟨Nat.le_of_ble_eq_true rfl, Nat.le_of_ble_eq_true rfl⟩ ⟨rfl, rfl⟩ ⟨Nat.le_of_ble_eq_true rfl, Nat.le_of_ble_eq_true rfl⟩ dX6_adds_36 rfl [none] rfl (ws' := cAR G 71 q (upd (upd (upd w p_9.toNatClampNeg x1) p_18.toNatClampNeg x2) p_27.toNatClampNeg x3)) rfl (fun H locs hW => ?_)
  refine lv_bipush (v := (20 : Int32)) hx hb dX6_adds_39 (by decide) ?_
  obtain ⟨g_41, h⟩ := of_guard h
  refine x_iast F hW 0 rfl g_41 (ws' := cAR G 71 q (upd (upd (upd (upd w p_9.toNatClampNeg x1) p_18.toNatClampNeg x2) p_27.toNatClampNeg x3) p_36.toNatClampNeg (20 : Int32))) rfl dX6_adds_41 (fun H locs hW => ?_)
  refine lv_aload_n hx hb dX6_adds_42 rfl (lv_at hl 1 rfl) ?_
  refine lv_iload hx hb dX6_adds_43 (lv_at hl 0 rfl) ?_
  refine lv_iconst (v := (4 : Int32)) hx hb dX6_adds_45 (by decide) ?_
  obtain ⟨p_46, hc_46, h⟩ := of_bind h
  refine x_Si (av := [.int x_3, .int (4 : Int32)]) F hW (c_X6_of l G x_3 (4 : Int32) _ hc_46) [] rfl rfl (by intro q; cases q) cs_X6_47 rfl rfl hl (Nat.le_of_ble_eq_true rfl) ⟨Nat.le_of_ble_eq_true rfl, Nat.le_of_ble_eq_true rfl⟩ ⟨rfl, rfl⟩ ⟨Nat.le_of_ble_eq_true rfl, Nat.le_of_ble_eq_true rfl⟩ dX6_adds_46 rfl [none] rfl (ws' := cAR G 71 q (upd (upd (upd (upd w p_9.toNatClampNeg x1) p_18.toNatClampNeg x2) p_27.toNatClampNeg x3) p_36.toNatClampNeg (20 : Int32))) rfl (fun H locs hW => ?_)
  refine lv_iconst (v := (0 : Int32)) hx hb dX6_adds_49 (by decide) ?_
  obtain ⟨g_50, h⟩ := of_guard h
  refine x_iast F hW 0 rfl g_50 (ws' := cAR G 71 q (upd (upd (upd (upd (upd w p_9.toNatClampNeg x1) p_18.toNatClampNeg x2) p_27.toNatClampNeg x3) p_36.toNatClampNeg (20 : Int32)) p_46.toNatClampNeg (0 : Int32))) rfl dX6_adds_50 (fun H locs hW => ?_)
  refine lv_aload_n hx hb dX6_adds_51 rfl (lv_at hl 1 rfl) ?_
  refine lv_iload hx hb dX6_adds_52 (lv_at hl 0 rfl) ?_
  refine lv_iconst (v := (5 : Int32)) hx hb dX6_adds_54 (by decide) ?_
  obtain ⟨p_55, hc_55, h⟩ := of_bind h
  refine x_Si (av := [.int x_3, .int (5 : Int32)]) F hW (c_X6_of l G x_3 (5 : Int32) _ hc_55) [] rfl rfl (by intro q; cases q) cs_X6_47 rfl rfl hl (Nat.le_of_ble_eq_true rfl) ⟨Nat.le_of_ble_eq_true rfl, Nat.le_of_ble_eq_true rfl⟩ ⟨rfl, rfl⟩ ⟨Nat.le_of_ble_eq_true rfl, Nat.le_of_ble_eq_true rfl⟩ dX6_adds_55 rfl [none] rfl (ws' := cAR G 71 q (upd (upd (upd (upd (upd w p_9.toNatClampNeg x1) p_18.toNatClampNeg x2) p_27.toNatClampNeg x3) p_36.toNatClampNeg (20 : Int32)) p_46.toNatClampNeg (0 : Int32))) rfl (fun H locs hW => ?_)
  refine lv_iconst (v := (0 : Int32)) hx hb dX6_adds_58 (by decide) ?_
  obtain ⟨g_59, h⟩ := of_guard h
  refine x_iast F hW 0 rfl g_59 (ws' := cAR G 71 q (upd (upd (upd (upd (upd (upd w p_9.toNatClampNeg x1) p_18.toNatClampNeg x2) p_27.toNatClampNeg x3) p_36.toNatClampNeg (20 : Int32)) p_46.toNatClampNeg (0 : Int32)) p_55.toNatClampNeg (0 : Int32))) rfl dX6_adds_59 (fun H locs hW => ?_)
  refine lv_aload_n hx hb dX6_adds_60 rfl (lv_at hl 1 rfl) ?_
  refine lv_iconst (v := (0 : Int32)) hx hb dX6_adds_61 (by decide) ?_
  refine lv_dup2_11 hx hb dX6_adds_62 rfl rfl ?_
  obtain ⟨g_63, h⟩ := of_guard h
  refine x_iald F hW 0 rfl g_63 dX6_adds_63 ?_
  refine lv_iconst (v := (1 : Int32)) hx hb dX6_adds_64 (by decide) ?_
  refine lv_iadd hx hb dX6_adds_65 ?_
  obtain ⟨g_66, h⟩ := of_guard h
  refine x_iast F hW 0 rfl g_66 (ws' := cAR G 71 q (upd (upd (upd (upd (upd (upd (upd w p_9.toNatClampNeg x1) p_18.toNatClampNeg x2) p_27.toNatClampNeg x3) p_36.toNatClampNeg (20 : Int32)) p_46.toNatClampNeg (0 : Int32)) p_55.toNatClampNeg (0 : Int32)) (0 : Int32).toNatClampNeg (((upd (upd (upd (upd (upd (upd w p_9.toNatClampNeg x1) p_18.toNatClampNeg x2) p_27.toNatClampNeg x3) p_36.toNatClampNeg (20 : Int32)) p_46.toNatClampNeg (0 : Int32)) p_55.toNatClampNeg (0 : Int32)) (0 : Int32).toNatClampNeg) + (1 : Int32)))) rfl dX6_adds_66 (fun H locs hW => ?_)
  obtain rfl := Option.some.inj h
  exact x_retv F hr hW dX6_adds_67
def f_X6_isDone (w : MW) (x1 : Int32) : Option (Int32 × MW) :=
  if inR (0 : Int32) 3 then
    nm (w.2.2.2.2.2.2.2.1 (0 : Int32).toNatClampNeg) fun x_6 =>
    if inR (1 : Int32) 3 then
    nm (w.2.2.2.2.2.2.2.1 (1 : Int32).toNatClampNeg) fun x_13 =>
    if x1 = (99 : Int32) then
    Option.bind (f_X6_isCell x_6) fun p_77 =>
    if p_77 = 0 then
    some ((0 : Int32), w)
    else
    if inR ((3 : Int32) + x_6) 71 then
    some ((1 : Int32), ((upd w.1 ((3 : Int32) + x_6).toNatClampNeg x_13), w.2.1, w.2.2.1, w.2.2.2.1, w.2.2.2.2.1, w.2.2.2.2.2.1, w.2.2.2.2.2.2.1, w.2.2.2.2.2.2.2.1, w.2.2.2.2.2.2.2.2.1, w.2.2.2.2.2.2.2.2.2.1, w.2.2.2.2.2.2.2.2.2.2.1, w.2.2.2.2.2.2.2.2.2.2.2.1, w.2.2.2.2.2.2.2.2.2.2.2.2.1, w.2.2.2.2.2.2.2.2.2.2.2.2.2))
    else none
    else
    if x1 = (102 : Int32) then
    if inR (2 : Int32) 71 then
    some ((1 : Int32), ((upd w.1 (2 : Int32).toNatClampNeg x_6), w.2.1, w.2.2.1, w.2.2.2.1, w.2.2.2.2.1, w.2.2.2.2.2.1, w.2.2.2.2.2.2.1, w.2.2.2.2.2.2.2.1, w.2.2.2.2.2.2.2.2.1, w.2.2.2.2.2.2.2.2.2.1, w.2.2.2.2.2.2.2.2.2.2.1, w.2.2.2.2.2.2.2.2.2.2.2.1, w.2.2.2.2.2.2.2.2.2.2.2.2.1, w.2.2.2.2.2.2.2.2.2.2.2.2.2))
    else none
    else
    if x1 = (104 : Int32) then
    if inR (2 : Int32) 3 then
    Option.bind (f_X6_isCell (w.2.2.2.2.2.2.2.1 (2 : Int32).toNatClampNeg)) fun p_102 =>
    if p_102 = 0 then
    some ((0 : Int32), w)
    else
    if inR (0 : Int32) 71 then
    if (w.1 (0 : Int32).toNatClampNeg) = (7 : Int32) then
    some ((0 : Int32), w)
    else
    if inR (2 : Int32) 3 then
    Option.bind (f_X6_adds w.1 x_6 x_13 (w.2.2.2.2.2.2.2.1 (2 : Int32).toNatClampNeg)) fun p_133 =>
    some ((1 : Int32), (p_133, w.2.1, w.2.2.1, w.2.2.2.1, w.2.2.2.2.1, w.2.2.2.2.2.1, w.2.2.2.2.2.2.1, w.2.2.2.2.2.2.2.1, w.2.2.2.2.2.2.2.2.1, w.2.2.2.2.2.2.2.2.2.1, w.2.2.2.2.2.2.2.2.2.2.1, w.2.2.2.2.2.2.2.2.2.2.2.1, w.2.2.2.2.2.2.2.2.2.2.2.2.1, w.2.2.2.2.2.2.2.2.2.2.2.2.2))
    else none
    else none
    else none
    else
    if x1 = (109 : Int32) then
    Option.bind (f_X6_isHouse w x_6) fun p_140 =>
    if p_140 = 0 then
    some ((0 : Int32), w)
    else
    Option.bind (f_X6_isCell x_13) fun p_147 =>
    if p_147 = 0 then
    some ((0 : Int32), w)
    else
    Option.bind (f_X6_of x_6 (2 : Int32)) fun p_161 =>
    if inR p_161 71 then
    some ((1 : Int32), ((upd w.1 p_161.toNatClampNeg x_13), w.2.1, w.2.2.1, w.2.2.2.1, w.2.2.2.2.1, w.2.2.2.2.2.1, w.2.2.2.2.2.2.1, w.2.2.2.2.2.2.2.1, w.2.2.2.2.2.2.2.2.1, w.2.2.2.2.2.2.2.2.2.1, w.2.2.2.2.2.2.2.2.2.2.1, w.2.2.2.2.2.2.2.2.2.2.2.1, w.2.2.2.2.2.2.2.2.2.2.2.2.1, w.2.2.2.2.2.2.2.2.2.2.2.2.2))
    else none
    else
    if x1 = (117 : Int32) then
    Option.bind (f_X6_isHouse w x_6) fun p_209 =>
    if p_209 = 0 then
    some ((0 : Int32), w)
    else
    Option.bind (f_X6_of x_6 (4 : Int32)) fun p_223 =>
    if inR p_223 71 then
    if inR p_223 71 then
    some ((1 : Int32), ((upd w.1 p_223.toNatClampNeg ((w.1 p_223.toNatClampNeg) ^^^ (1 : Int32))), w.2.1, w.2.2.1, w.2.2.2.1, w.2.2.2.2.1, w.2.2.2.2.2.1, w.2.2.2.2.2.2.1, w.2.2.2.2.2.2.2.1, w.2.2.2.2.2.2.2.2.1, w.2.2.2.2.2.2.2.2.2.1, w.2.2.2.2.2.2.2.2.2.2.1, w.2.2.2.2.2.2.2.2.2.2.2.1, w.2.2.2.2.2.2.2.2.2.2.2.2.1, w.2.2.2.2.2.2.2.2.2.2.2.2.2))
    else none
    else none
    else
    if x1 = (119 : Int32) then
    Option.bind (f_X6_isHouse w x_6) fun p_170 =>
    if p_170 = 0 then
    some ((0 : Int32), w)
    else
    Option.bind (f_X6_of x_6 (3 : Int32)) fun p_184 =>
    Option.bind (f_X6_of x_6 (3 : Int32)) fun p_195 =>
    if inR p_195 71 then
    Option.bind (f_X6_least (99 : Int32) ((w.1 p_195.toNatClampNeg) + x_13)) fun p_201 =>
    if inR p_184 71 then
    some ((1 : Int32), ((upd w.1 p_184.toNatClampNeg p_201), w.2.1, w.2.2.1, w.2.2.2.1, w.2.2.2.2.1, w.2.2.2.2.2.1, w.2.2.2.2.2.2.1, w.2.2.2.2.2.2.2.1, w.2.2.2.2.2.2.2.2.1, w.2.2.2.2.2.2.2.2.2.1, w.2.2.2.2.2.2.2.2.2.2.1, w.2.2.2.2.2.2.2.2.2.2.2.1, w.2.2.2.2.2.2.2.2.2.2.2.2.1, w.2.2.2.2.2.2.2.2.2.2.2.2.2))
    else none
    else none
    else
    Option.bind (f_X6_isIn x_6 (1 : Int32) (60 : Int32)) fun p_246 =>
    if p_246 = 0 then
    some ((0 : Int32), w)
    else
    if inR (1 : Int32) 71 then
    if ((w.1 (1 : Int32).toNatClampNeg) + x_6) ≤ (999 : Int32) then
    Option.bind (f_X6_nightsOn w.1 x_6) fun p_273 =>
    nm p_273.1 fun x_276 =>
    some ((1 : Int32), (p_273.2, w.2.1, w.2.2.1, w.2.2.2.1, w.2.2.2.2.1, w.2.2.2.2.2.1, w.2.2.2.2.2.2.1, w.2.2.2.2.2.2.2.1, w.2.2.2.2.2.2.2.2.1, w.2.2.2.2.2.2.2.2.2.1, w.2.2.2.2.2.2.2.2.2.2.1, w.2.2.2.2.2.2.2.2.2.2.2.1, w.2.2.2.2.2.2.2.2.2.2.2.2.1, w.2.2.2.2.2.2.2.2.2.2.2.2.2))
    else
    some ((0 : Int32), w)
    else none
    else none
    else none
abbrev rmX6_isDone : Room := { frames := 5, cells := 0, slots := 0, locals := 114 }
set_option maxRecDepth 100000 in
set_option maxHeartbeats 4000000 in
theorem c_X6_isDone (l : Launch) (G : EnT) (q : Nat → Nat) (w : MW) (x1 : Int32) (o : Int32 × MW) (h : f_X6_isDone w x1 = some o) : Mi l yX6_isDone rmX6_isDone cX6_isDone 5 (some .boolean) G false [.ref (q 0), .int x1] (cMW G q w) o.1 (cMW G q o.2) := by
  refine Mi_of (by decide) (Nat.le_of_ble_eq_true rfl) ?_
  intro p e s m below meth c A0 F hr hW ls hl
  obtain ⟨hx, hb, hml, hown, hts, hK, hNW, hlocks, hA, hSX⟩ := id F
  have hl : lv_has ls 5 [(0, .ref (q 0)), (1, .int x1)] := hl
  have hW : Wd G A0 s (cMW G q w) s.heap [] := hW
  show W p l e rmX6_isDone s m ([.ref (q 0), .int x1] : List Value).toArray below meth c s.heap [] 0 0 (Qi below G (cMW G q o.2) o.1 A0 ([.ref (q 0), .int x1] : List Value).toArray s) (F0 m 0 ls [])
  refine lv_aload_n hx hb dX6_isDone_0 rfl (lv_at hl 0 rfl) ?_
  refine x_get F hW 0 rfl fa_X6_31 rfl dX6_isDone_1 ?_
  refine lv_iconst (v := (0 : Int32)) hx hb dX6_isDone_4 (by decide) ?_
  obtain ⟨g_5, h⟩ := of_guard h
  refine x_iald F hW 8 rfl g_5 dX6_isDone_5 ?_
  obtain ⟨x_6, e_x_6, h⟩ := of_nm h
  refine x_topi e_x_6 ?_
  refine lv_istore_n (lv' := [(2, .int x_6), (0, .ref (q 0)), (1, .int x1)]) hx hb dX6_isDone_6 rfl hl (by decide) rfl (fun ls hl => ?_)
  refine lv_aload_n hx hb dX6_isDone_7 rfl (lv_at hl 1 rfl) ?_
  refine x_get F hW 0 rfl fa_X6_31 rfl dX6_isDone_8 ?_
  refine lv_iconst (v := (1 : Int32)) hx hb dX6_isDone_11 (by decide) ?_
  obtain ⟨g_12, h⟩ := of_guard h
  refine x_iald F hW 8 rfl g_12 dX6_isDone_12 ?_
  obtain ⟨x_13, e_x_13, h⟩ := of_nm h
  refine x_topi e_x_13 ?_
  refine lv_istore_n (lv' := [(3, .int x_13), (2, .int x_6), (0, .ref (q 0)), (1, .int x1)]) hx hb dX6_isDone_13 rfl hl (by decide) rfl (fun ls hl => ?_)
  refine lv_iconst (v := (0 : Int32)) hx hb dX6_isDone_14 (by decide) ?_
  refine lv_istore (lv' := [(4, .int (0 : Int32)), (3, .int x_13), (2, .int x_6), (0, .ref (q 0)), (1, .int x1)]) hx hb dX6_isDone_15 hl (by decide) rfl (fun ls hl => ?_)
  refine lv_iload_n hx hb dX6_isDone_17 rfl (lv_at hl 4 rfl) ?_
  obtain ⟨ht_18_0, h⟩ := of_ite h
  by_cases c_18_0 : x1 = (99 : Int32)
  · have h := ht_18_0 c_18_0
    refine x_lookIn c_18_0 hx hb dX6_isDone_18 rfl (off := (58)) rfl (tgt := 76) (by decide) ?_
    refine lv_iload_n hx hb dX6_isDone_76 rfl (lv_at hl 2 rfl) ?_
    obtain ⟨p_77, hc_77, h⟩ := of_bind h
    refine x_Si (av := [.int x_6]) F hW (c_X6_isCell l G x_6 _ hc_77) [] rfl rfl (by intro q; cases q) cs_X6_114 rfl rfl hl (Nat.le_of_ble_eq_true rfl) ⟨Nat.le_of_ble_eq_true rfl, Nat.le_of_ble_eq_true rfl⟩ ⟨rfl, rfl⟩ ⟨Nat.le_of_ble_eq_true rfl, Nat.le_of_ble_eq_true rfl⟩ dX6_isDone_77 rfl [none, none, none, none, none, none, none, none, none, none] rfl (ws' := cMW G q w) rfl (fun H locs hW => ?_)
    obtain ⟨ht_80, hf_80⟩ := of_ite h
    refine lv_if_ne (tgt := 85) hx hb dX6_isDone_80 (by decide) (fun c_80 => ?_) (fun c_80 => ?_)
    · have h := hf_80 c_80
      refine lv_aload_n hx hb dX6_isDone_85 rfl (lv_at hl 3 rfl) ?_
      refine x_get F hW 0 rfl fa_X6_9 rfl dX6_isDone_86 ?_
      refine lv_iconst (v := (3 : Int32)) hx hb dX6_isDone_89 (by decide) ?_
      refine lv_iload_n hx hb dX6_isDone_90 rfl (lv_at hl 2 rfl) ?_
      refine lv_iadd hx hb dX6_isDone_91 ?_
      refine lv_iload_n hx hb dX6_isDone_92 rfl (lv_at hl 1 rfl) ?_
      obtain ⟨g_93, h⟩ := of_guard h
      refine x_iast F hW 1 rfl g_93 (ws' := cMW G q ((upd w.1 ((3 : Int32) + x_6).toNatClampNeg x_13), w.2.1, w.2.2.1, w.2.2.2.1, w.2.2.2.2.1, w.2.2.2.2.2.1, w.2.2.2.2.2.2.1, w.2.2.2.2.2.2.2.1, w.2.2.2.2.2.2.2.2.1, w.2.2.2.2.2.2.2.2.2.1, w.2.2.2.2.2.2.2.2.2.2.1, w.2.2.2.2.2.2.2.2.2.2.2.1, w.2.2.2.2.2.2.2.2.2.2.2.2.1, w.2.2.2.2.2.2.2.2.2.2.2.2.2)) rfl dX6_isDone_93 (fun H locs hW => ?_)
      refine lv_iconst (v := (1 : Int32)) hx hb dX6_isDone_94 (by decide) ?_
      obtain rfl := Option.some.inj h
      exact x_retz F hr hW (Or.inr rfl) rfl dX6_isDone_95
    · have h := ht_80 c_80
      refine lv_iconst (v := (0 : Int32)) hx hb dX6_isDone_83 (by decide) ?_
      obtain rfl := Option.some.inj h
      exact x_retz F hr hW (Or.inl rfl) rfl dX6_isDone_84
  have h := h c_18_0
  obtain ⟨ht_18_1, h⟩ := of_ite h
  by_cases c_18_1 : x1 = (102 : Int32)
  · have h := ht_18_1 c_18_1
    refine x_lookIn c_18_1 hx hb dX6_isDone_18 rfl (off := (215)) rfl (tgt := 233) (by decide) ?_
    refine lv_aload_n hx hb dX6_isDone_233 rfl (lv_at hl 3 rfl) ?_
    refine x_get F hW 0 rfl fa_X6_9 rfl dX6_isDone_234 ?_
    refine lv_iconst (v := (2 : Int32)) hx hb dX6_isDone_237 (by decide) ?_
    refine lv_iload_n hx hb dX6_isDone_238 rfl (lv_at hl 2 rfl) ?_
    obtain ⟨g_239, h⟩ := of_guard h
    refine x_iast F hW 1 rfl g_239 (ws' := cMW G q ((upd w.1 (2 : Int32).toNatClampNeg x_6), w.2.1, w.2.2.1, w.2.2.2.1, w.2.2.2.2.1, w.2.2.2.2.2.1, w.2.2.2.2.2.2.1, w.2.2.2.2.2.2.2.1, w.2.2.2.2.2.2.2.2.1, w.2.2.2.2.2.2.2.2.2.1, w.2.2.2.2.2.2.2.2.2.2.1, w.2.2.2.2.2.2.2.2.2.2.2.1, w.2.2.2.2.2.2.2.2.2.2.2.2.1, w.2.2.2.2.2.2.2.2.2.2.2.2.2)) rfl dX6_isDone_239 (fun H locs hW => ?_)
    refine lv_iconst (v := (1 : Int32)) hx hb dX6_isDone_240 (by decide) ?_
    obtain rfl := Option.some.inj h
    exact x_retz F hr hW (Or.inr rfl) rfl dX6_isDone_241
  have h := h c_18_1
  obtain ⟨ht_18_2, h⟩ := of_ite h
  by_cases c_18_2 : x1 = (104 : Int32)
  · have h := ht_18_2 c_18_2
    refine x_lookIn c_18_2 hx hb dX6_isDone_18 rfl (off := (78)) rfl (tgt := 96) (by decide) ?_
    refine lv_aload_n hx hb dX6_isDone_96 rfl (lv_at hl 3 rfl) ?_
    refine x_get F hW 0 rfl fa_X6_31 rfl dX6_isDone_97 ?_
    refine lv_iconst (v := (2 : Int32)) hx hb dX6_isDone_100 (by decide) ?_
    obtain ⟨g_101, h⟩ := of_guard h
    refine x_iald F hW 8 rfl g_101 dX6_isDone_101 ?_
    obtain ⟨p_102, hc_102, h⟩ := of_bind h
    refine x_Si (av := [.int (w.2.2.2.2.2.2.2.1 (2 : Int32).toNatClampNeg)]) F hW (c_X6_isCell l G (w.2.2.2.2.2.2.2.1 (2 : Int32).toNatClampNeg) _ hc_102) [] rfl rfl (by intro q; cases q) cs_X6_114 rfl rfl hl (Nat.le_of_ble_eq_true rfl) ⟨Nat.le_of_ble_eq_true rfl, Nat.le_of_ble_eq_true rfl⟩ ⟨rfl, rfl⟩ ⟨Nat.le_of_ble_eq_true rfl, Nat.le_of_ble_eq_true rfl⟩ dX6_isDone_102 rfl [none, none, none, none, none, none, none, none, none, none] rfl (ws' := cMW G q w) rfl (fun H locs hW => ?_)
    obtain ⟨ht_105, hf_105⟩ := of_ite h
    refine lv_if_eq (tgt := 119) hx hb dX6_isDone_105 (by decide) (fun c_105 => ?_) (fun c_105 => ?_)
    · have h := ht_105 c_105
      refine lv_iconst (v := (0 : Int32)) hx hb dX6_isDone_119 (by decide) ?_
      obtain rfl := Option.some.inj h
      exact x_retz F hr hW (Or.inl rfl) rfl dX6_isDone_120
    · have h := hf_105 c_105
      refine lv_aload_n hx hb dX6_isDone_108 rfl (lv_at hl 3 rfl) ?_
      refine x_get F hW 0 rfl fa_X6_9 rfl dX6_isDone_109 ?_
      refine lv_iconst (v := (0 : Int32)) hx hb dX6_isDone_112 (by decide) ?_
      obtain ⟨g_113, h⟩ := of_guard h
      refine x_iald F hW 1 rfl g_113 dX6_isDone_113 ?_
      refine lv_bipush (v := (7 : Int32)) hx hb dX6_isDone_114 (by decide) ?_
      obtain ⟨ht_116, hf_116⟩ := of_ite h
      refine lv_icmp_ne (tgt := 121) hx hb dX6_isDone_116 (by decide) (fun c_116 => ?_) (fun c_116 => ?_)
      · have h := hf_116 c_116
        refine lv_aload_n hx hb dX6_isDone_121 rfl (lv_at hl 3 rfl) ?_
        refine x_get F hW 0 rfl fa_X6_9 rfl dX6_isDone_122 ?_
        refine lv_iload_n hx hb dX6_isDone_125 rfl (lv_at hl 2 rfl) ?_
        refine lv_iload_n hx hb dX6_isDone_126 rfl (lv_at hl 1 rfl) ?_
        refine lv_aload_n hx hb dX6_isDone_127 rfl (lv_at hl 3 rfl) ?_
        refine x_get F hW 0 rfl fa_X6_31 rfl dX6_isDone_128 ?_
        refine lv_iconst (v := (2 : Int32)) hx hb dX6_isDone_131 (by decide) ?_
        obtain ⟨g_132, h⟩ := of_guard h
        refine x_iald F hW 8 rfl g_132 dX6_isDone_132 ?_
        obtain ⟨p_133, hc_133, h⟩ := of_bind h
        refine x_Sv (av := [.ref (q 1), .int x_6, .int x_13, .int (w.2.2.2.2.2.2.2.1 (2 : Int32).toNatClampNeg)]) F hW (c_X6_adds l G (fun i => q (i + 1)) w.1 x_6 x_13 (w.2.2.2.2.2.2.2.1 (2 : Int32).toNatClampNeg) _ hc_133) [1] rfl rfl (by intro q; cases q) cs_X6_118 rfl rfl hl (Nat.le_of_ble_eq_true rfl) ⟨Nat.le_of_ble_eq_true rfl, Nat.le_of_ble_eq_true rfl⟩ ⟨rfl, rfl⟩ ⟨Nat.le_of_ble_eq_true rfl, Nat.le_of_ble_eq_true rfl⟩ dX6_isDone_133 rfl [none, some 0, none, none, none, none, none, none, none, none] rfl (ws' := cMW G q (p_133, w.2.1, w.2.2.1, w.2.2.2.1, w.2.2.2.2.1, w.2.2.2.2.2.1, w.2.2.2.2.2.2.1, w.2.2.2.2.2.2.2.1, w.2.2.2.2.2.2.2.2.1, w.2.2.2.2.2.2.2.2.2.1, w.2.2.2.2.2.2.2.2.2.2.1, w.2.2.2.2.2.2.2.2.2.2.2.1, w.2.2.2.2.2.2.2.2.2.2.2.2.1, w.2.2.2.2.2.2.2.2.2.2.2.2.2)) rfl (fun H locs hW => ?_)
        refine lv_iconst (v := (1 : Int32)) hx hb dX6_isDone_136 (by decide) ?_
        obtain rfl := Option.some.inj h
        exact x_retz F hr hW (Or.inr rfl) rfl dX6_isDone_137
      · have h := ht_116 c_116
        refine lv_iconst (v := (0 : Int32)) hx hb dX6_isDone_119 (by decide) ?_
        obtain rfl := Option.some.inj h
        exact x_retz F hr hW (Or.inl rfl) rfl dX6_isDone_120
  have h := h c_18_2
  obtain ⟨ht_18_3, h⟩ := of_ite h
  by_cases c_18_3 : x1 = (109 : Int32)
  · have h := ht_18_3 c_18_3
    refine x_lookIn c_18_3 hx hb dX6_isDone_18 rfl (off := (120)) rfl (tgt := 138) (by decide) ?_
    refine lv_aload_n hx hb dX6_isDone_138 rfl (lv_at hl 3 rfl) ?_
    refine lv_iload_n hx hb dX6_isDone_139 rfl (lv_at hl 2 rfl) ?_
    obtain ⟨p_140, hc_140, h⟩ := of_bind h
    refine x_Vi (av := [.ref (q 0), .int x_6]) (As := [.int x_6]) F hW (c_X6_isHouse l G q w x_6 _ hc_140) [0, 1, 2, 3, 4, 5, 6, 7, 8, 9] rfl rfl (by intro q; cases q) cv_X6_122 rfl ⟨_, rfl, rfl⟩ rfl rfl rfl hl (Nat.le_of_ble_eq_true rfl) ⟨Nat.le_of_ble_eq_true rfl, Nat.le_of_ble_eq_true rfl⟩ ⟨rfl, rfl⟩ ⟨Nat.le_of_ble_eq_true rfl, Nat.le_of_ble_eq_true rfl⟩ dX6_isDone_140 rfl [some 0, some 1, some 2, some 3, some 4, some 5, some 6, some 7, some 8, some 9] rfl (ws' := cMW G q w) rfl (fun H locs hW => ?_)
    obtain ⟨ht_143, hf_143⟩ := of_ite h
    refine lv_if_eq (tgt := 153) hx hb dX6_isDone_143 (by decide) (fun c_143 => ?_) (fun c_143 => ?_)
    · have h := ht_143 c_143
      refine lv_iconst (v := (0 : Int32)) hx hb dX6_isDone_153 (by decide) ?_
      obtain rfl := Option.some.inj h
      exact x_retz F hr hW (Or.inl rfl) rfl dX6_isDone_154
    · have h := hf_143 c_143
      refine lv_iload_n hx hb dX6_isDone_146 rfl (lv_at hl 1 rfl) ?_
      obtain ⟨p_147, hc_147, h⟩ := of_bind h
      refine x_Si (av := [.int x_13]) F hW (c_X6_isCell l G x_13 _ hc_147) [] rfl rfl (by intro q; cases q) cs_X6_114 rfl rfl hl (Nat.le_of_ble_eq_true rfl) ⟨Nat.le_of_ble_eq_true rfl, Nat.le_of_ble_eq_true rfl⟩ ⟨rfl, rfl⟩ ⟨Nat.le_of_ble_eq_true rfl, Nat.le_of_ble_eq_true rfl⟩ dX6_isDone_147 rfl [none, none, none, none, none, none, none, none, none, none] rfl (ws' := cMW G q w) rfl (fun H locs hW => ?_)
      obtain ⟨ht_150, hf_150⟩ := of_ite h
      refine lv_if_ne (tgt := 155) hx hb dX6_isDone_150 (by decide) (fun c_150 => ?_) (fun c_150 => ?_)
      · have h := hf_150 c_150
        refine lv_aload_n hx hb dX6_isDone_155 rfl (lv_at hl 3 rfl) ?_
        refine x_get F hW 0 rfl fa_X6_9 rfl dX6_isDone_156 ?_
        refine lv_iload_n hx hb dX6_isDone_159 rfl (lv_at hl 2 rfl) ?_
        refine lv_iconst (v := (2 : Int32)) hx hb dX6_isDone_160 (by decide) ?_
        obtain ⟨p_161, hc_161, h⟩ := of_bind h
        refine x_Si (av := [.int x_6, .int (2 : Int32)]) F hW (c_X6_of l G x_6 (2 : Int32) _ hc_161) [] rfl rfl (by intro q; cases q) cs_X6_47 rfl rfl hl (Nat.le_of_ble_eq_true rfl) ⟨Nat.le_of_ble_eq_true rfl, Nat.le_of_ble_eq_true rfl⟩ ⟨rfl, rfl⟩ ⟨Nat.le_of_ble_eq_true rfl, Nat.le_of_ble_eq_true rfl⟩ dX6_isDone_161 rfl [none, none, none, none, none, none, none, none, none, none] rfl (ws' := cMW G q w) rfl (fun H locs hW => ?_)
        refine lv_iload_n hx hb dX6_isDone_164 rfl (lv_at hl 1 rfl) ?_
        obtain ⟨g_165, h⟩ := of_guard h
        refine x_iast F hW 1 rfl g_165 (ws' := cMW G q ((upd w.1 p_161.toNatClampNeg x_13), w.2.1, w.2.2.1, w.2.2.2.1, w.2.2.2.2.1, w.2.2.2.2.2.1, w.2.2.2.2.2.2.1, w.2.2.2.2.2.2.2.1, w.2.2.2.2.2.2.2.2.1, w.2.2.2.2.2.2.2.2.2.1, w.2.2.2.2.2.2.2.2.2.2.1, w.2.2.2.2.2.2.2.2.2.2.2.1, w.2.2.2.2.2.2.2.2.2.2.2.2.1, w.2.2.2.2.2.2.2.2.2.2.2.2.2)) rfl dX6_isDone_165 (fun H locs hW => ?_)
        refine lv_iconst (v := (1 : Int32)) hx hb dX6_isDone_166 (by decide) ?_
        obtain rfl := Option.some.inj h
        exact x_retz F hr hW (Or.inr rfl) rfl dX6_isDone_167
      · have h := ht_150 c_150
        refine lv_iconst (v := (0 : Int32)) hx hb dX6_isDone_153 (by decide) ?_
        obtain rfl := Option.some.inj h
        exact x_retz F hr hW (Or.inl rfl) rfl dX6_isDone_154
  have h := h c_18_3
  obtain ⟨ht_18_4, h⟩ := of_ite h
  by_cases c_18_4 : x1 = (117 : Int32)
  · have h := ht_18_4 c_18_4
    refine x_lookIn c_18_4 hx hb dX6_isDone_18 rfl (off := (189)) rfl (tgt := 207) (by decide) ?_
    refine lv_aload_n hx hb dX6_isDone_207 rfl (lv_at hl 3 rfl) ?_
    refine lv_iload_n hx hb dX6_isDone_208 rfl (lv_at hl 2 rfl) ?_
    obtain ⟨p_209, hc_209, h⟩ := of_bind h
    refine x_Vi (av := [.ref (q 0), .int x_6]) (As := [.int x_6]) F hW (c_X6_isHouse l G q w x_6 _ hc_209) [0, 1, 2, 3, 4, 5, 6, 7, 8, 9] rfl rfl (by intro q; cases q) cv_X6_122 rfl ⟨_, rfl, rfl⟩ rfl rfl rfl hl (Nat.le_of_ble_eq_true rfl) ⟨Nat.le_of_ble_eq_true rfl, Nat.le_of_ble_eq_true rfl⟩ ⟨rfl, rfl⟩ ⟨Nat.le_of_ble_eq_true rfl, Nat.le_of_ble_eq_true rfl⟩ dX6_isDone_209 rfl [some 0, some 1, some 2, some 3, some 4, some 5, some 6, some 7, some 8, some 9] rfl (ws' := cMW G q w) rfl (fun H locs hW => ?_)
    obtain ⟨ht_212, hf_212⟩ := of_ite h
    refine lv_if_ne (tgt := 217) hx hb dX6_isDone_212 (by decide) (fun c_212 => ?_) (fun c_212 => ?_)
    · have h := hf_212 c_212
      refine lv_aload_n hx hb dX6_isDone_217 rfl (lv_at hl 3 rfl) ?_
      refine x_get F hW 0 rfl fa_X6_9 rfl dX6_isDone_218 ?_
      refine lv_iload_n hx hb dX6_isDone_221 rfl (lv_at hl 2 rfl) ?_
      refine lv_iconst (v := (4 : Int32)) hx hb dX6_isDone_222 (by decide) ?_
      obtain ⟨p_223, hc_223, h⟩ := of_bind h
      refine x_Si (av := [.int x_6, .int (4 : Int32)]) F hW (c_X6_of l G x_6 (4 : Int32) _ hc_223) [] rfl rfl (by intro q; cases q) cs_X6_47 rfl rfl hl (Nat.le_of_ble_eq_true rfl) ⟨Nat.le_of_ble_eq_true rfl, Nat.le_of_ble_eq_true rfl⟩ ⟨rfl, rfl⟩ ⟨Nat.le_of_ble_eq_true rfl, Nat.le_of_ble_eq_true rfl⟩ dX6_isDone_223 rfl [none, none, none, none, none, none, none, none, none, none] rfl (ws' := cMW G q w) rfl (fun H locs hW => ?_)
      refine lv_dup2_11 hx hb dX6_isDone_226 rfl rfl ?_
      obtain ⟨g_227, h⟩ := of_guard h
      refine x_iald F hW 1 rfl g_227 dX6_isDone_227 ?_
      refine lv_iconst (v := (1 : Int32)) hx hb dX6_isDone_228 (by decide) ?_
      refine lv_ixor hx hb dX6_isDone_229 ?_
      obtain ⟨g_230, h⟩ := of_guard h
      refine x_iast F hW 1 rfl g_230 (ws' := cMW G q ((upd w.1 p_223.toNatClampNeg ((w.1 p_223.toNatClampNeg) ^^^ (1 : Int32))), w.2.1, w.2.2.1, w.2.2.2.1, w.2.2.2.2.1, w.2.2.2.2.2.1, w.2.2.2.2.2.2.1, w.2.2.2.2.2.2.2.1, w.2.2.2.2.2.2.2.2.1, w.2.2.2.2.2.2.2.2.2.1, w.2.2.2.2.2.2.2.2.2.2.1, w.2.2.2.2.2.2.2.2.2.2.2.1, w.2.2.2.2.2.2.2.2.2.2.2.2.1, w.2.2.2.2.2.2.2.2.2.2.2.2.2)) rfl dX6_isDone_230 (fun H locs hW => ?_)
      refine lv_iconst (v := (1 : Int32)) hx hb dX6_isDone_231 (by decide) ?_
      obtain rfl := Option.some.inj h
      exact x_retz F hr hW (Or.inr rfl) rfl dX6_isDone_232
    · have h := ht_212 c_212
      refine lv_iconst (v := (0 : Int32)) hx hb dX6_isDone_215 (by decide) ?_
      obtain rfl := Option.some.inj h
      exact x_retz F hr hW (Or.inl rfl) rfl dX6_isDone_216
  have h := h c_18_4
  obtain ⟨ht_18_5, h⟩ := of_ite h
  by_cases c_18_5 : x1 = (119 : Int32)
  · have h := ht_18_5 c_18_5
    refine x_lookIn c_18_5 hx hb dX6_isDone_18 rfl (off := (150)) rfl (tgt := 168) (by decide) ?_
    refine lv_aload_n hx hb dX6_isDone_168 rfl (lv_at hl 3 rfl) ?_
    refine lv_iload_n hx hb dX6_isDone_169 rfl (lv_at hl 2 rfl) ?_
    obtain ⟨p_170, hc_170, h⟩ := of_bind h
    refine x_Vi (av := [.ref (q 0), .int x_6]) (As := [.int x_6]) F hW (c_X6_isHouse l G q w x_6 _ hc_170) [0, 1, 2, 3, 4, 5, 6, 7, 8, 9] rfl rfl (by intro q; cases q) cv_X6_122 rfl ⟨_, rfl, rfl⟩ rfl rfl rfl hl (Nat.le_of_ble_eq_true rfl) ⟨Nat.le_of_ble_eq_true rfl, Nat.le_of_ble_eq_true rfl⟩ ⟨rfl, rfl⟩ ⟨Nat.le_of_ble_eq_true rfl, Nat.le_of_ble_eq_true rfl⟩ dX6_isDone_170 rfl [some 0, some 1, some 2, some 3, some 4, some 5, some 6, some 7, some 8, some 9] rfl (ws' := cMW G q w) rfl (fun H locs hW => ?_)
    obtain ⟨ht_173, hf_173⟩ := of_ite h
    refine lv_if_ne (tgt := 178) hx hb dX6_isDone_173 (by decide) (fun c_173 => ?_) (fun c_173 => ?_)
    · have h := hf_173 c_173
      refine lv_aload_n hx hb dX6_isDone_178 rfl (lv_at hl 3 rfl) ?_
      refine x_get F hW 0 rfl fa_X6_9 rfl dX6_isDone_179 ?_
      refine lv_iload_n hx hb dX6_isDone_182 rfl (lv_at hl 2 rfl) ?_
      refine lv_iconst (v := (3 : Int32)) hx hb dX6_isDone_183 (by decide) ?_
      obtain ⟨p_184, hc_184, h⟩ := of_bind h
      refine x_Si (av := [.int x_6, .int (3 : Int32)]) F hW (c_X6_of l G x_6 (3 : Int32) _ hc_184) [] rfl rfl (by intro q; cases q) cs_X6_47 rfl rfl hl (Nat.le_of_ble_eq_true rfl) ⟨Nat.le_of_ble_eq_true rfl, Nat.le_of_ble_eq_true rfl⟩ ⟨rfl, rfl⟩ ⟨Nat.le_of_ble_eq_true rfl, Nat.le_of_ble_eq_true rfl⟩ dX6_isDone_184 rfl [none, none, none, none, none, none, none, none, none, none] rfl (ws' := cMW G q w) rfl (fun H locs hW => ?_)
      refine lv_bipush (v := (99 : Int32)) hx hb dX6_isDone_187 (by decide) ?_
      refine lv_aload_n hx hb dX6_isDone_189 rfl (lv_at hl 3 rfl) ?_
      refine x_get F hW 0 rfl fa_X6_9 rfl dX6_isDone_190 ?_
      refine lv_iload_n hx hb dX6_isDone_193 rfl (lv_at hl 2 rfl) ?_
      refine lv_iconst (v := (3 : Int32)) hx hb dX6_isDone_194 (by decide) ?_
      obtain ⟨p_195, hc_195, h⟩ := of_bind h
      refine x_Si (av := [.int x_6, .int (3 : Int32)]) F hW (c_X6_of l G x_6 (3 : Int32) _ hc_195) [] rfl rfl (by intro q; cases q) cs_X6_47 rfl rfl hl (Nat.le_of_ble_eq_true rfl) ⟨Nat.le_of_ble_eq_true rfl, Nat.le_of_ble_eq_true rfl⟩ ⟨rfl, rfl⟩ ⟨Nat.le_of_ble_eq_true rfl, Nat.le_of_ble_eq_true rfl⟩ dX6_isDone_195 rfl [none, none, none, none, none, none, none, none, none, none] rfl (ws' := cMW G q w) rfl (fun H locs hW => ?_)
      obtain ⟨g_198, h⟩ := of_guard h
      refine x_iald F hW 1 rfl g_198 dX6_isDone_198 ?_
      refine lv_iload_n hx hb dX6_isDone_199 rfl (lv_at hl 1 rfl) ?_
      refine lv_iadd hx hb dX6_isDone_200 ?_
      obtain ⟨p_201, hc_201, h⟩ := of_bind h
      refine x_Si (av := [.int (99 : Int32), .int ((w.1 p_195.toNatClampNeg) + x_13)]) F hW (c_X6_least l G (99 : Int32) ((w.1 p_195.toNatClampNeg) + x_13) _ hc_201) [] rfl rfl (by intro q; cases q) cs_X6_125 rfl rfl hl (Nat.le_of_ble_eq_true rfl) ⟨Nat.le_of_ble_eq_true rfl, Nat.le_of_ble_eq_true rfl⟩ ⟨rfl, rfl⟩ ⟨Nat.le_of_ble_eq_true rfl, Nat.le_of_ble_eq_true rfl⟩ dX6_isDone_201 rfl [none, none, none, none, none, none, none, none, none, none] rfl (ws' := cMW G q w) rfl (fun H locs hW => ?_)
      obtain ⟨g_204, h⟩ := of_guard h
      refine x_iast F hW 1 rfl g_204 (ws' := cMW G q ((upd w.1 p_184.toNatClampNeg p_201), w.2.1, w.2.2.1, w.2.2.2.1, w.2.2.2.2.1, w.2.2.2.2.2.1, w.2.2.2.2.2.2.1, w.2.2.2.2.2.2.2.1, w.2.2.2.2.2.2.2.2.1, w.2.2.2.2.2.2.2.2.2.1, w.2.2.2.2.2.2.2.2.2.2.1, w.2.2.2.2.2.2.2.2.2.2.2.1, w.2.2.2.2.2.2.2.2.2.2.2.2.1, w.2.2.2.2.2.2.2.2.2.2.2.2.2)) rfl dX6_isDone_204 (fun H locs hW => ?_)
      refine lv_iconst (v := (1 : Int32)) hx hb dX6_isDone_205 (by decide) ?_
      obtain rfl := Option.some.inj h
      exact x_retz F hr hW (Or.inr rfl) rfl dX6_isDone_206
    · have h := ht_173 c_173
      refine lv_iconst (v := (0 : Int32)) hx hb dX6_isDone_176 (by decide) ?_
      obtain rfl := Option.some.inj h
      exact x_retz F hr hW (Or.inl rfl) rfl dX6_isDone_177
  have h := h c_18_5
  refine lv_lookup (off := 224) hx hb dX6_isDone_18 rfl (by have z0 := x_ne c_18_0 (z := 99) (by decide); have z1 := x_ne c_18_1 (z := 102) (by decide); have z2 := x_ne c_18_2 (z := 104) (by decide); have z3 := x_ne c_18_3 (z := 109) (by decide); have z4 := x_ne c_18_4 (z := 117) (by decide); have z5 := x_ne c_18_5 (z := 119) (by decide); simp [Op.lookupswitch.offset, z0, Ne.symm z0, z1, Ne.symm z1, z2, Ne.symm z2, z3, Ne.symm z3, z4, Ne.symm z4, z5, Ne.symm z5]) (tgt := 242) (by decide) ?_
  refine lv_iload_n hx hb dX6_isDone_242 rfl (lv_at hl 2 rfl) ?_
  refine lv_iconst (v := (1 : Int32)) hx hb dX6_isDone_243 (by decide) ?_
  refine lv_bipush (v := (60 : Int32)) hx hb dX6_isDone_244 (by decide) ?_
  obtain ⟨p_246, hc_246, h⟩ := of_bind h
  refine x_Si (av := [.int x_6, .int (1 : Int32), .int (60 : Int32)]) F hW (c_X6_isIn l G x_6 (1 : Int32) (60 : Int32) _ hc_246) [] rfl rfl (by intro q; cases q) cs_X6_43 rfl rfl hl (Nat.le_of_ble_eq_true rfl) ⟨Nat.le_of_ble_eq_true rfl, Nat.le_of_ble_eq_true rfl⟩ ⟨rfl, rfl⟩ ⟨Nat.le_of_ble_eq_true rfl, Nat.le_of_ble_eq_true rfl⟩ dX6_isDone_246 rfl [none, none, none, none, none, none, none, none, none, none] rfl (ws' := cMW G q w) rfl (fun H locs hW => ?_)
  obtain ⟨ht_249, hf_249⟩ := of_ite h
  refine lv_if_eq (tgt := 266) hx hb dX6_isDone_249 (by decide) (fun c_249 => ?_) (fun c_249 => ?_)
  · have h := ht_249 c_249
    refine lv_iconst (v := (0 : Int32)) hx hb dX6_isDone_266 (by decide) ?_
    obtain rfl := Option.some.inj h
    exact x_retz F hr hW (Or.inl rfl) rfl dX6_isDone_267
  · have h := hf_249 c_249
    refine lv_aload_n hx hb dX6_isDone_252 rfl (lv_at hl 3 rfl) ?_
    refine x_get F hW 0 rfl fa_X6_9 rfl dX6_isDone_253 ?_
    refine lv_iconst (v := (1 : Int32)) hx hb dX6_isDone_256 (by decide) ?_
    obtain ⟨g_257, h⟩ := of_guard h
    refine x_iald F hW 1 rfl g_257 dX6_isDone_257 ?_
    refine lv_iload_n hx hb dX6_isDone_258 rfl (lv_at hl 2 rfl) ?_
    refine lv_iadd hx hb dX6_isDone_259 ?_
    refine lv_sipush (v := (999 : Int32)) hx hb dX6_isDone_260 (by decide) ?_
    obtain ⟨ht_263, hf_263⟩ := of_ite h
    refine lv_icmp_le (tgt := 268) hx hb dX6_isDone_263 (by decide) (fun c_263 => ?_) (fun c_263 => ?_)
    · have h := ht_263 c_263
      refine lv_aload_n hx hb dX6_isDone_268 rfl (lv_at hl 3 rfl) ?_
      refine x_get F hW 0 rfl fa_X6_9 rfl dX6_isDone_269 ?_
      refine lv_iload_n hx hb dX6_isDone_272 rfl (lv_at hl 2 rfl) ?_
      obtain ⟨p_273, hc_273, h⟩ := of_bind h
      refine x_Si (av := [.ref (q 1), .int x_6]) F hW (c_X6_nightsOn l G (fun i => q (i + 1)) w.1 x_6 _ hc_273) [1] rfl rfl (by intro q; cases q) cs_X6_128 rfl rfl hl (Nat.le_of_ble_eq_true rfl) ⟨Nat.le_of_ble_eq_true rfl, Nat.le_of_ble_eq_true rfl⟩ ⟨rfl, rfl⟩ ⟨Nat.le_of_ble_eq_true rfl, Nat.le_of_ble_eq_true rfl⟩ dX6_isDone_273 rfl [none, some 0, none, none, none, none, none, none, none, none] rfl (ws' := cMW G q (p_273.2, w.2.1, w.2.2.1, w.2.2.2.1, w.2.2.2.2.1, w.2.2.2.2.2.1, w.2.2.2.2.2.2.1, w.2.2.2.2.2.2.2.1, w.2.2.2.2.2.2.2.2.1, w.2.2.2.2.2.2.2.2.2.1, w.2.2.2.2.2.2.2.2.2.2.1, w.2.2.2.2.2.2.2.2.2.2.2.1, w.2.2.2.2.2.2.2.2.2.2.2.2.1, w.2.2.2.2.2.2.2.2.2.2.2.2.2)) rfl (fun H locs hW => ?_)
      obtain ⟨x_276, e_x_276, h⟩ := of_nm h
      refine x_topi e_x_276 ?_
      refine lv_istore (lv' := [(4, .int x_276), (3, .int x_13), (2, .int x_6), (0, .ref (q 0)), (1, .int x1)]) hx hb dX6_isDone_276 hl (by decide) rfl (fun ls hl => ?_)
      refine lv_iconst (v := (1 : Int32)) hx hb dX6_isDone_278 (by decide) ?_
      obtain rfl := Option.some.inj h
      exact x_retz F hr hW (Or.inr rfl) rfl dX6_isDone_279
    · have h := hf_263 c_263
      refine lv_iconst (v := (0 : Int32)) hx hb dX6_isDone_266 (by decide) ?_
      obtain rfl := Option.some.inj h
      exact x_retz F hr hW (Or.inl rfl) rfl dX6_isDone_267
