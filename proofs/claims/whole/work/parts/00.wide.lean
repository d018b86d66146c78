/-! a name of the whole library: so that the first round on a new machine reads all parts over the whole library from the start -/
theorem wd_0 (x y : Int32) : Jvm.Free.JP.Math_floorDiv_II.val x y = Jvm.Free.JP.Math_floorDiv_II.val x y := rfl
