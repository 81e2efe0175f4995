def Rel (_ : Nat) (_ : GH) : Prop := True
theorem pure_ini : PureIni (Rel 0) := sorry
theorem pure_arms : PureArms Rel := sorry
