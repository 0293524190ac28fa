/-! OPEN: the calls that are not proved yet -/
