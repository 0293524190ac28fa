/-! OPEN: the calls that are not proved yet -/
theorem s_many {z : St} {y : Sy} (h : INV z y) : Both (f_X10_many z 0) (fun z => f_X11_many_ z 68) := sorry
theorem s_gain {z : St} {y : Sy} (h : INV z y) (a : Int32) : Both (f_X10_gain z 0 a) (fun z => f_X11_gain z 68 a) := sorry
