/-! the JDK's own: Integer.bitCount is method 236; Math.max, min of ints and longs are 237 .. 240 -/
theorem jk_236 : (mk_ok 236 && mk_s 236) = true := by decide +kernel
def mm_ok (j : Nat) (w : Cond) : Bool := decide (lw_tbl[(mh j).2.2.1]? = some (mw_stat j)) && decide (lw_tbl[(mh j).2.2.2.2.1]? = some (Cond.initialized "java/lang/Math")) && decide (lw_tbl[(mh j).2.1]? = some w)
def mm_w (j : Nat) : Cond := match j with
  | 237 => Cond.code Lib.Math.max.name Lib.Math.max.code 2 (some .int)
  | 238 => Cond.code Lib.MathLoose.max_long.x Lib.MathLoose.max_long.code 4 (some .long)
  | 239 => Cond.code Lib.Math.min.name Lib.Math.min.code 2 (some .int)
  | _ => Cond.code Lib.MathLoose.min_long.x Lib.MathLoose.min_long.code 4 (some .long)
theorem mm_all : ([237, 238, 239, 240].all (fun j => mm_ok j (mm_w j))) = true := by decide +kernel
theorem my_237 : my 237 = Lib.Math.max.name := by decide +kernel
theorem my_238 : my 238 = Lib.MathLoose.max_long.x := by decide +kernel
theorem my_239 : my 239 = Lib.Math.min.name := by decide +kernel
theorem my_240 : my 240 = Lib.MathLoose.min_long.x := by decide +kernel
