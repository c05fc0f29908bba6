/-! a call's words: kind 0 an instance method, 1 a static one, 2 a static one of a nest mate -/
def ml_w (q : Nat × Nat × Nat × Nat × Nat) : Cond := Cond.methodLink (tb_RR q.1) q.2.1 (my q.2.2.1)
def mn_w (q : Nat × Nat × Nat × Nat × Nat) : Cond := Cond.methodLinkNest (tb_RR q.1) q.2.1 (my q.2.2.1) "FiveTouch"
def ct_ok (q : Nat × Nat × Nat × Nat × Nat) : Bool := match q.2.2.2.1 with
  | 0 => decide (lw_tbl[q.2.2.2.2]? = some (ml_w q))
  | 1 => decide (lw_tbl[q.2.2.2.2]? = some (ml_w q))
  | 2 => decide (lw_tbl[q.2.2.2.2]? = some (mn_w q))
  | _ => true
theorem tb_C_ok : tb_C.all ct_ok = true := by decide +kernel
