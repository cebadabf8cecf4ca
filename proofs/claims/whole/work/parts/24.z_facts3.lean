theorem ch_letter {x : Int32} : narrow .char (.int (f_X7_letterOf x)) = .int (f_X7_letterOf x) := by
  rw [e_X7_letterOf]
  repeat' (first | split | rfl)
