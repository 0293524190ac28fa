/-! OPEN: the calls that are not proved yet -/
theorem s_many {z : St} {y : Sy} (h : INV z y) : Both (f_X10_many z 0) (fun z => f_X11_many_ z 68) := sorry
