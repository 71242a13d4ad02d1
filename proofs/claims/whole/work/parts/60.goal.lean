def Inv9 : EW → MW → Prop := fun _ _ => True
theorem all_eq : AllEq Inv9 := sorry
theorem inv_start : Inv9 iEW iMW := trivial
