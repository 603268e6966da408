theorem op_land (a : Int) (ha : nrm a = a) : Op2 (f_X11_land 0 a) (f_X12_land 111 a) := by
  sorry
