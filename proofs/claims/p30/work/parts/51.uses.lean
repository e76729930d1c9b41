def usArg (f t : Int32) : Prop := ¬ f < 0 ∧ ¬ 3 < f ∧ ¬ t < f ∧ ¬ 3 < t
