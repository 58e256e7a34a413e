/-! THE END OF THE PARTS -/
theorem zz_end : (0 : Int) = 0 := rfl
