/-! a call's words: kind 0 an instance method, 1 a static one, 2 a static one of a nest mate -/
def ml_w (q : Nat × Nat × Nat × Nat × Nat) : Cond := Cond.methodLink (tb_RR q.1) q.2.1 (my q.2.2.1)
def mn_w (q : Nat × Nat × Nat × Nat × Nat) : Cond := Cond.methodLinkNest (tb_RR q.1) q.2.1 (my q.2.2.1) "FiveTouch"
def ct_ok (q : Nat × Nat × Nat × Nat × Nat) : Bool := match q.2.2.2.1 with
  | 0 => decide (lw_tbl[q.2.2.2.2]? = some (ml_w q))
  | 1 => decide (lw_tbl[q.2.2.2.2]? = some (ml_w q))
  | 2 => decide (lw_tbl[q.2.2.2.2]? = some (mn_w q))
  | _ => true
theorem tb_C_ok_0 : (((tb_C.drop 0).take 37).all ct_ok) = true := by decide +kernel
theorem tb_C_ok_1 : (((tb_C.drop 37).take 37).all ct_ok) = true := by decide +kernel
theorem tb_C_ok_2 : (((tb_C.drop 74).take 37).all ct_ok) = true := by decide +kernel
theorem tb_C_ok_3 : (((tb_C.drop 111).take 37).all ct_ok) = true := by decide +kernel
theorem tb_C_ok_4 : (((tb_C.drop 148).take 37).all ct_ok) = true := by decide +kernel
theorem tb_C_ok_5 : (((tb_C.drop 185).take 37).all ct_ok) = true := by decide +kernel
theorem tb_C_ok_6 : (((tb_C.drop 222).take 37).all ct_ok) = true := by decide +kernel
theorem tb_C_ok_7 : (((tb_C.drop 259).take 37).all ct_ok) = true := by decide +kernel
theorem all_cut {α : Type} {f : α → Bool} {l : List α} (n : Nat) (h1 : ((l.take n).all f) = true) (h2 : ((l.drop n).all f) = true) : (l.all f) = true := by
  rw [← List.take_append_drop n l, List.all_append, h1, h2]; rfl
theorem tb_C_ok : tb_C.all ct_ok = true := by
  have d : ∀ k, tb_C.drop (37 * k + 37) = (tb_C.drop (37 * k)).drop 37 := fun k => by rw [List.drop_drop]
  have e8 : ((tb_C.drop (37 * 7 + 37)).all ct_ok) = true := by rfl
  refine all_cut (l := tb_C) 37 tb_C_ok_0 ?_
  refine all_cut (l := tb_C.drop (37 * 1)) 37 tb_C_ok_1 ?_
  rw [← d 1]; refine all_cut (l := tb_C.drop (37 * 2)) 37 tb_C_ok_2 ?_
  rw [← d 2]; refine all_cut (l := tb_C.drop (37 * 3)) 37 tb_C_ok_3 ?_
  rw [← d 3]; refine all_cut (l := tb_C.drop (37 * 4)) 37 tb_C_ok_4 ?_
  rw [← d 4]; refine all_cut (l := tb_C.drop (37 * 5)) 37 tb_C_ok_5 ?_
  rw [← d 5]; refine all_cut (l := tb_C.drop (37 * 6)) 37 tb_C_ok_6 ?_
  rw [← d 6]; refine all_cut (l := tb_C.drop (37 * 7)) 37 tb_C_ok_7 ?_
  rw [← d 7]; exact e8
