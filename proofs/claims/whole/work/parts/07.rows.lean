/-! one instruction, one row: E at an instruction out of E behind it -/
section ER
variable {cx : Cx} {j d a pc : Nat} {loc : Lc} {st : List Value} {h : Hp} {Q : Option Value → Hp → Prop}
theorem e_iadd {x y : Int32} (hd : decode (mcode j) pc = .ok (.iadd, 1)) (k : E cx j d a (pc + 1) loc (.int (x + y) :: st) h Q) : E cx j d a pc loc (.int y :: .int x :: st) h Q := by
  intro p l e s m args below meth c h0 ad0 ad ls H locs nc ns mc ms hc h1 h2
  exact lv_iadd hc.1.1 hc.1.2.1 hd (k p l e s m args below meth c h0 ad0 ad ls H locs nc ns mc ms hc h1 h2)
theorem e_isub {x y : Int32} (hd : decode (mcode j) pc = .ok (.isub, 1)) (k : E cx j d a (pc + 1) loc (.int (x - y) :: st) h Q) : E cx j d a pc loc (.int y :: .int x :: st) h Q := by
  intro p l e s m args below meth c h0 ad0 ad ls H locs nc ns mc ms hc h1 h2
  exact lv_isub hc.1.1 hc.1.2.1 hd (k p l e s m args below meth c h0 ad0 ad ls H locs nc ns mc ms hc h1 h2)
theorem e_imul {x y : Int32} (hd : decode (mcode j) pc = .ok (.imul, 1)) (k : E cx j d a (pc + 1) loc (.int (x * y) :: st) h Q) : E cx j d a pc loc (.int y :: .int x :: st) h Q := by
  intro p l e s m args below meth c h0 ad0 ad ls H locs nc ns mc ms hc h1 h2
  exact lv_imul hc.1.1 hc.1.2.1 hd (k p l e s m args below meth c h0 ad0 ad ls H locs nc ns mc ms hc h1 h2)
theorem e_iand {x y : Int32} (hd : decode (mcode j) pc = .ok (.iand, 1)) (k : E cx j d a (pc + 1) loc (.int (x &&& y) :: st) h Q) : E cx j d a pc loc (.int y :: .int x :: st) h Q := by
  intro p l e s m args below meth c h0 ad0 ad ls H locs nc ns mc ms hc h1 h2
  exact lv_iand hc.1.1 hc.1.2.1 hd (k p l e s m args below meth c h0 ad0 ad ls H locs nc ns mc ms hc h1 h2)
theorem e_ior {x y : Int32} (hd : decode (mcode j) pc = .ok (.ior, 1)) (k : E cx j d a (pc + 1) loc (.int (x ||| y) :: st) h Q) : E cx j d a pc loc (.int y :: .int x :: st) h Q := by
  intro p l e s m args below meth c h0 ad0 ad ls H locs nc ns mc ms hc h1 h2
  exact lv_ior hc.1.1 hc.1.2.1 hd (k p l e s m args below meth c h0 ad0 ad ls H locs nc ns mc ms hc h1 h2)
theorem e_ixor {x y : Int32} (hd : decode (mcode j) pc = .ok (.ixor, 1)) (k : E cx j d a (pc + 1) loc (.int (x ^^^ y) :: st) h Q) : E cx j d a pc loc (.int y :: .int x :: st) h Q := by
  intro p l e s m args below meth c h0 ad0 ad ls H locs nc ns mc ms hc h1 h2
  exact lv_ixor hc.1.1 hc.1.2.1 hd (k p l e s m args below meth c h0 ad0 ad ls H locs nc ns mc ms hc h1 h2)
theorem e_ishl {x y : Int32} (hd : decode (mcode j) pc = .ok (.ishl, 1)) (k : E cx j d a (pc + 1) loc (.int (x <<< (y &&& 31)) :: st) h Q) : E cx j d a pc loc (.int y :: .int x :: st) h Q := by
  intro p l e s m args below meth c h0 ad0 ad ls H locs nc ns mc ms hc h1 h2
  exact lv_ishl hc.1.1 hc.1.2.1 hd (k p l e s m args below meth c h0 ad0 ad ls H locs nc ns mc ms hc h1 h2)
theorem e_ishr {x y : Int32} (hd : decode (mcode j) pc = .ok (.ishr, 1)) (k : E cx j d a (pc + 1) loc (.int (x >>> (y &&& 31)) :: st) h Q) : E cx j d a pc loc (.int y :: .int x :: st) h Q := by
  intro p l e s m args below meth c h0 ad0 ad ls H locs nc ns mc ms hc h1 h2
  exact lv_ishr hc.1.1 hc.1.2.1 hd (k p l e s m args below meth c h0 ad0 ad ls H locs nc ns mc ms hc h1 h2)
theorem e_iushr {x y : Int32} (hd : decode (mcode j) pc = .ok (.iushr, 1)) (k : E cx j d a (pc + 1) loc (.int ((x.toUInt32 >>> (y.toUInt32 &&& Int32.toUInt32 31)).toInt32) :: st) h Q) : E cx j d a pc loc (.int y :: .int x :: st) h Q := by
  intro p l e s m args below meth c h0 ad0 ad ls H locs nc ns mc ms hc h1 h2
  exact lv_iushr hc.1.1 hc.1.2.1 hd rfl (k p l e s m args below meth c h0 ad0 ad ls H locs nc ns mc ms hc h1 h2)
theorem e_idiv {x y : Int32} (hd : decode (mcode j) pc = .ok (.idiv, 1)) (hne : ¬ y = 0) (k : E cx j d a (pc + 1) loc (.int (x / y) :: st) h Q) : E cx j d a pc loc (.int y :: .int x :: st) h Q := by
  intro p l e s m args below meth c h0 ad0 ad ls H locs nc ns mc ms hc h1 h2
  exact lv_idiv hc.1.1 hc.1.2.1 hd hne (k p l e s m args below meth c h0 ad0 ad ls H locs nc ns mc ms hc h1 h2)
theorem e_irem {x y : Int32} (hd : decode (mcode j) pc = .ok (.irem, 1)) (hne : ¬ y = 0) (k : E cx j d a (pc + 1) loc (.int (x - x / y * y) :: st) h Q) : E cx j d a pc loc (.int y :: .int x :: st) h Q := by
  intro p l e s m args below meth c h0 ad0 ad ls H locs nc ns mc ms hc h1 h2
  exact lv_irem hc.1.1 hc.1.2.1 hd hne (k p l e s m args below meth c h0 ad0 ad ls H locs nc ns mc ms hc h1 h2)
theorem e_ineg {x : Int32} (hd : decode (mcode j) pc = .ok (.ineg, 1)) (k : E cx j d a (pc + 1) loc (.int (-x) :: st) h Q) : E cx j d a pc loc (.int x :: st) h Q := by
  intro p l e s m args below meth c h0 ad0 ad ls H locs nc ns mc ms hc h1 h2
  exact lv_ineg hc.1.1 hc.1.2.1 hd (k p l e s m args below meth c h0 ad0 ad ls H locs nc ns mc ms hc h1 h2)
theorem e_ladd {x y : Int64} (hd : decode (mcode j) pc = .ok (.ladd, 1)) (k : E cx j d a (pc + 1) loc (.long (x + y) :: st) h Q) : E cx j d a pc loc (.long y :: .long x :: st) h Q := by
  intro p l e s m args below meth c h0 ad0 ad ls H locs nc ns mc ms hc h1 h2
  exact lv_ladd hc.1.1 hc.1.2.1 hd (k p l e s m args below meth c h0 ad0 ad ls H locs nc ns mc ms hc h1 h2)
theorem e_lsub {x y : Int64} (hd : decode (mcode j) pc = .ok (.lsub, 1)) (k : E cx j d a (pc + 1) loc (.long (x - y) :: st) h Q) : E cx j d a pc loc (.long y :: .long x :: st) h Q := by
  intro p l e s m args below meth c h0 ad0 ad ls H locs nc ns mc ms hc h1 h2
  exact lv_lsub hc.1.1 hc.1.2.1 hd (k p l e s m args below meth c h0 ad0 ad ls H locs nc ns mc ms hc h1 h2)
theorem e_lmul {x y : Int64} (hd : decode (mcode j) pc = .ok (.lmul, 1)) (k : E cx j d a (pc + 1) loc (.long (x * y) :: st) h Q) : E cx j d a pc loc (.long y :: .long x :: st) h Q := by
  intro p l e s m args below meth c h0 ad0 ad ls H locs nc ns mc ms hc h1 h2
  exact lv_lmul hc.1.1 hc.1.2.1 hd (k p l e s m args below meth c h0 ad0 ad ls H locs nc ns mc ms hc h1 h2)
theorem e_land {x y : Int64} (hd : decode (mcode j) pc = .ok (.land, 1)) (k : E cx j d a (pc + 1) loc (.long (x &&& y) :: st) h Q) : E cx j d a pc loc (.long y :: .long x :: st) h Q := by
  intro p l e s m args below meth c h0 ad0 ad ls H locs nc ns mc ms hc h1 h2
  exact lv_land hc.1.1 hc.1.2.1 hd (k p l e s m args below meth c h0 ad0 ad ls H locs nc ns mc ms hc h1 h2)
theorem e_lor {x y : Int64} (hd : decode (mcode j) pc = .ok (.lor, 1)) (k : E cx j d a (pc + 1) loc (.long (x ||| y) :: st) h Q) : E cx j d a pc loc (.long y :: .long x :: st) h Q := by
  intro p l e s m args below meth c h0 ad0 ad ls H locs nc ns mc ms hc h1 h2
  exact lv_lor hc.1.1 hc.1.2.1 hd (k p l e s m args below meth c h0 ad0 ad ls H locs nc ns mc ms hc h1 h2)
theorem e_ldiv {x y : Int64} (hd : decode (mcode j) pc = .ok (.ldiv, 1)) (hne : ¬ y = 0) (k : E cx j d a (pc + 1) loc (.long (x / y) :: st) h Q) : E cx j d a pc loc (.long y :: .long x :: st) h Q := by
  intro p l e s m args below meth c h0 ad0 ad ls H locs nc ns mc ms hc h1 h2
  exact lv_ldiv hc.1.1 hc.1.2.1 hd hne (k p l e s m args below meth c h0 ad0 ad ls H locs nc ns mc ms hc h1 h2)
theorem e_lrem {x y : Int64} (hd : decode (mcode j) pc = .ok (.lrem, 1)) (hne : ¬ y = 0) (k : E cx j d a (pc + 1) loc (.long (x - x / y * y) :: st) h Q) : E cx j d a pc loc (.long y :: .long x :: st) h Q := by
  intro p l e s m args below meth c h0 ad0 ad ls H locs nc ns mc ms hc h1 h2
  exact lv_lrem hc.1.1 hc.1.2.1 hd hne (k p l e s m args below meth c h0 ad0 ad ls H locs nc ns mc ms hc h1 h2)
theorem e_lshl {x : Int64} {y : Int32} (hd : decode (mcode j) pc = .ok (.lshl, 1)) (k : E cx j d a (pc + 1) loc (.long (x <<< (y.toInt64 &&& 63)) :: st) h Q) : E cx j d a pc loc (.int y :: .long x :: st) h Q := by
  intro p l e s m args below meth c h0 ad0 ad ls H locs nc ns mc ms hc h1 h2
  exact lv_lshl hc.1.1 hc.1.2.1 hd rfl (k p l e s m args below meth c h0 ad0 ad ls H locs nc ns mc ms hc h1 h2)
theorem e_lshr {x : Int64} {y : Int32} (hd : decode (mcode j) pc = .ok (.lshr, 1)) (k : E cx j d a (pc + 1) loc (.long (x >>> (y.toInt64 &&& 63)) :: st) h Q) : E cx j d a pc loc (.int y :: .long x :: st) h Q := by
  intro p l e s m args below meth c h0 ad0 ad ls H locs nc ns mc ms hc h1 h2
  exact lv_lshr hc.1.1 hc.1.2.1 hd rfl (k p l e s m args below meth c h0 ad0 ad ls H locs nc ns mc ms hc h1 h2)
theorem e_lcmp {x y : Int64} (hd : decode (mcode j) pc = .ok (.lcmp, 1)) (k : E cx j d a (pc + 1) loc (.int (lg_cmp x y) :: st) h Q) : E cx j d a pc loc (.long y :: .long x :: st) h Q := by
  intro p l e s m args below meth c h0 ad0 ad ls H locs nc ns mc ms hc h1 h2
  exact W.lcmp hc.1.1 hc.1.2.1 hd (k p l e s m args below meth c h0 ad0 ad ls H locs nc ns mc ms hc h1 h2)
theorem e_i2l {x : Int32} (hd : decode (mcode j) pc = .ok (.i2l, 1)) (k : E cx j d a (pc + 1) loc (.long x.toInt64 :: st) h Q) : E cx j d a pc loc (.int x :: st) h Q := by
  intro p l e s m args below meth c h0 ad0 ad ls H locs nc ns mc ms hc h1 h2
  exact lv_i2l hc.1.1 hc.1.2.1 hd rfl (k p l e s m args below meth c h0 ad0 ad ls H locs nc ns mc ms hc h1 h2)
theorem e_l2i {x : Int64} (hd : decode (mcode j) pc = .ok (.l2i, 1)) (k : E cx j d a (pc + 1) loc (.int x.toInt32 :: st) h Q) : E cx j d a pc loc (.long x :: st) h Q := by
  intro p l e s m args below meth c h0 ad0 ad ls H locs nc ns mc ms hc h1 h2
  exact lv_l2i hc.1.1 hc.1.2.1 hd rfl (k p l e s m args below meth c h0 ad0 ad ls H locs nc ns mc ms hc h1 h2)
theorem e_i2b {x : Int32} (hd : decode (mcode j) pc = .ok (.i2b, 1)) (k : E cx j d a (pc + 1) loc (.int x.toInt8.toInt32 :: st) h Q) : E cx j d a pc loc (.int x :: st) h Q := by
  intro p l e s m args below meth c h0 ad0 ad ls H locs nc ns mc ms hc h1 h2
  exact lv_i2b hc.1.1 hc.1.2.1 hd rfl (k p l e s m args below meth c h0 ad0 ad ls H locs nc ns mc ms hc h1 h2)
theorem cv_cat (ad : Nat → Nat) (v : Value) : (cv ad v).category = v.category := by cases v <;> rfl
theorem e_dup {v : Value} (hd : decode (mcode j) pc = .ok (.dup, 1)) (hv : v.category = 1) (k : E cx j d a (pc + 1) loc (v :: v :: st) h Q) : E cx j d a pc loc (v :: st) h Q := by
  intro p l e s m args below meth c h0 ad0 ad ls H locs nc ns mc ms hc h1 h2
  exact lv_dup hc.1.1 hc.1.2.1 hd ((cv_cat ad v).trans hv) (k p l e s m args below meth c h0 ad0 ad ls H locs nc ns mc ms hc h1 h2)
theorem e_dup2 {v w : Value} (hd : decode (mcode j) pc = .ok (.dup2, 1)) (hv : v.category = 1) (hw : w.category = 1) (k : E cx j d a (pc + 1) loc (v :: w :: v :: w :: st) h Q) : E cx j d a pc loc (v :: w :: st) h Q := by
  intro p l e s m args below meth c h0 ad0 ad ls H locs nc ns mc ms hc h1 h2
  exact lv_dup2_11 hc.1.1 hc.1.2.1 hd ((cv_cat ad v).trans hv) ((cv_cat ad w).trans hw) (k p l e s m args below meth c h0 ad0 ad ls H locs nc ns mc ms hc h1 h2)
theorem e_pop {v : Value} (hd : decode (mcode j) pc = .ok (.pop, 1)) (hv : v.category = 1) (k : E cx j d a (pc + 1) loc (st) h Q) : E cx j d a pc loc (v :: st) h Q := by
  intro p l e s m args below meth c h0 ad0 ad ls H locs nc ns mc ms hc h1 h2
  exact lv_pop hc.1.1 hc.1.2.1 hd ((cv_cat ad v).trans hv) (k p l e s m args below meth c h0 ad0 ad ls H locs nc ns mc ms hc h1 h2)
theorem e_iconst {n : Int} {v : Int32} (hd : decode (mcode j) pc = .ok (.iconst n, 1)) (hv : Int32.ofInt n = v) (k : E cx j d a (pc + 1) loc (.int v :: st) h Q) : E cx j d a pc loc (st) h Q := by
  intro p l e s m args below meth c h0 ad0 ad ls H locs nc ns mc ms hc h1 h2
  exact lv_iconst hc.1.1 hc.1.2.1 hd hv (k p l e s m args below meth c h0 ad0 ad ls H locs nc ns mc ms hc h1 h2)
theorem e_bipush {n : Int} {v : Int32} (hd : decode (mcode j) pc = .ok (.bipush n, 2)) (hv : (Int8.ofInt n).toInt32 = v) (k : E cx j d a (pc + 2) loc (.int v :: st) h Q) : E cx j d a pc loc (st) h Q := by
  intro p l e s m args below meth c h0 ad0 ad ls H locs nc ns mc ms hc h1 h2
  exact lv_bipush hc.1.1 hc.1.2.1 hd hv (k p l e s m args below meth c h0 ad0 ad ls H locs nc ns mc ms hc h1 h2)
theorem e_sipush {n : Int} {v : Int32} (hd : decode (mcode j) pc = .ok (.sipush n, 3)) (hv : (Int16.ofInt n).toInt32 = v) (k : E cx j d a (pc + 3) loc (.int v :: st) h Q) : E cx j d a pc loc (st) h Q := by
  intro p l e s m args below meth c h0 ad0 ad ls H locs nc ns mc ms hc h1 h2
  exact lv_sipush hc.1.1 hc.1.2.1 hd hv (k p l e s m args below meth c h0 ad0 ad ls H locs nc ns mc ms hc h1 h2)
theorem e_lconst {n : Fin 2} {v : Int64} (hd : decode (mcode j) pc = .ok (.lconst n, 1)) (hv : Int64.ofNat (n : Nat) = v) (k : E cx j d a (pc + 1) loc (.long v :: st) h Q) : E cx j d a pc loc (st) h Q := by
  intro p l e s m args below meth c h0 ad0 ad ls H locs nc ns mc ms hc h1 h2
  exact lv_lconst hc.1.1 hc.1.2.1 hd hv (k p l e s m args below meth c h0 ad0 ad ls H locs nc ns mc ms hc h1 h2)
theorem e_null (hd : decode (mcode j) pc = .ok (.aconst_null, 1)) (k : E cx j d a (pc + 1) loc (.null :: st) h Q) : E cx j d a pc loc (st) h Q := by
  intro p l e s m args below meth c h0 ad0 ad ls H locs nc ns mc ms hc h1 h2
  exact lv_null hc.1.1 hc.1.2.1 hd (k p l e s m args below meth c h0 ad0 ad ls H locs nc ns mc ms hc h1 h2)
theorem e_iload_n {n : Fin 4} {x : Int32} (hd : decode (mcode j) pc = .ok (.iload_n n, 1)) (hl : lnth loc n = some (.int x)) (k : E cx j d a (pc + 1) loc (.int x :: st) h Q) : E cx j d a pc loc (st) h Q := by
  intro p l e s m args below meth c h0 ad0 ad ls H locs nc ns mc ms hc h1 h2
  exact lv_iload_n hc.1.1 hc.1.2.1 hd rfl (hc.2.2.2.2.2 _ _ hl) (k p l e s m args below meth c h0 ad0 ad ls H locs nc ns mc ms hc h1 h2)
theorem e_iload {i : Nat} {x : Int32} (hd : decode (mcode j) pc = .ok (.iload i, 2)) (hl : lnth loc i = some (.int x)) (k : E cx j d a (pc + 2) loc (.int x :: st) h Q) : E cx j d a pc loc (st) h Q := by
  intro p l e s m args below meth c h0 ad0 ad ls H locs nc ns mc ms hc h1 h2
  exact lv_iload hc.1.1 hc.1.2.1 hd (hc.2.2.2.2.2 _ _ hl) (k p l e s m args below meth c h0 ad0 ad ls H locs nc ns mc ms hc h1 h2)
theorem e_lload_n {n : Fin 4} {x : Int64} (hd : decode (mcode j) pc = .ok (.lload_n n, 1)) (hl : lnth loc n = some (.long x)) (k : E cx j d a (pc + 1) loc (.long x :: st) h Q) : E cx j d a pc loc (st) h Q := by
  intro p l e s m args below meth c h0 ad0 ad ls H locs nc ns mc ms hc h1 h2
  exact lv_lload_n hc.1.1 hc.1.2.1 hd rfl (hc.2.2.2.2.2 _ _ hl) (k p l e s m args below meth c h0 ad0 ad ls H locs nc ns mc ms hc h1 h2)
theorem e_lload {i : Nat} {x : Int64} (hd : decode (mcode j) pc = .ok (.lload i, 2)) (hl : lnth loc i = some (.long x)) (k : E cx j d a (pc + 2) loc (.long x :: st) h Q) : E cx j d a pc loc (st) h Q := by
  intro p l e s m args below meth c h0 ad0 ad ls H locs nc ns mc ms hc h1 h2
  exact lv_lload hc.1.1 hc.1.2.1 hd (hc.2.2.2.2.2 _ _ hl) (k p l e s m args below meth c h0 ad0 ad ls H locs nc ns mc ms hc h1 h2)
theorem e_aload_n {n : Fin 4} {x : Nat} (hd : decode (mcode j) pc = .ok (.aload_n n, 1)) (hl : lnth loc n = some (.ref x)) (k : E cx j d a (pc + 1) loc (.ref x :: st) h Q) : E cx j d a pc loc (st) h Q := by
  intro p l e s m args below meth c h0 ad0 ad ls H locs nc ns mc ms hc h1 h2
  exact lv_aload_n hc.1.1 hc.1.2.1 hd rfl (hc.2.2.2.2.2 _ _ hl) (k p l e s m args below meth c h0 ad0 ad ls H locs nc ns mc ms hc h1 h2)
theorem e_aload {i : Nat} {x : Nat} (hd : decode (mcode j) pc = .ok (.aload i, 2)) (hl : lnth loc i = some (.ref x)) (k : E cx j d a (pc + 2) loc (.ref x :: st) h Q) : E cx j d a pc loc (st) h Q := by
  intro p l e s m args below meth c h0 ad0 ad ls H locs nc ns mc ms hc h1 h2
  exact lv_aload hc.1.1 hc.1.2.1 hd (hc.2.2.2.2.2 _ _ hl) (k p l e s m args below meth c h0 ad0 ad ls H locs nc ns mc ms hc h1 h2)
theorem e_aload_nN {n : Fin 4} (hd : decode (mcode j) pc = .ok (.aload_n n, 1)) (hl : lnth loc n = some .null) (k : E cx j d a (pc + 1) loc (.null :: st) h Q) : E cx j d a pc loc (st) h Q := by
  intro p l e s m args below meth c h0 ad0 ad ls H locs nc ns mc ms hc h1 h2
  exact lv_aload_nN hc.1.1 hc.1.2.1 hd rfl (hc.2.2.2.2.2 _ _ hl) (k p l e s m args below meth c h0 ad0 ad ls H locs nc ns mc ms hc h1 h2)
theorem e_aloadN {i : Nat} (hd : decode (mcode j) pc = .ok (.aload i, 2)) (hl : lnth loc i = some .null) (k : E cx j d a (pc + 2) loc (.null :: st) h Q) : E cx j d a pc loc (st) h Q := by
  intro p l e s m args below meth c h0 ad0 ad ls H locs nc ns mc ms hc h1 h2
  exact lv_aloadN hc.1.1 hc.1.2.1 hd (hc.2.2.2.2.2 _ _ hl) (k p l e s m args below meth c h0 ad0 ad ls H locs nc ns mc ms hc h1 h2)
theorem e_if_eq {x : Int32} {off : Int} {tgt : Nat} (hd : decode (mcode j) pc = .ok (.ifCond .eq off, 3)) (ht : (pc : Int) + off = (tgt : Int)) (kt : x = 0 → E cx j d a tgt loc st h Q) (kf : ¬ (x = 0) → E cx j d a (pc + 3) loc st h Q) : E cx j d a pc loc (.int x :: st) h Q := by
  intro p l e s m args below meth c h0 ad0 ad ls H locs nc ns mc ms hc h1 h2
  exact lv_if_eq hc.1.1 hc.1.2.1 hd ht (fun q => kt q p l e s m args below meth c h0 ad0 ad ls H locs nc ns mc ms hc h1 h2) (fun q => kf q p l e s m args below meth c h0 ad0 ad ls H locs nc ns mc ms hc h1 h2)
theorem e_if_ne {x : Int32} {off : Int} {tgt : Nat} (hd : decode (mcode j) pc = .ok (.ifCond .ne off, 3)) (ht : (pc : Int) + off = (tgt : Int)) (kt : ¬ x = 0 → E cx j d a tgt loc st h Q) (kf : x = 0 → E cx j d a (pc + 3) loc st h Q) : E cx j d a pc loc (.int x :: st) h Q := by
  intro p l e s m args below meth c h0 ad0 ad ls H locs nc ns mc ms hc h1 h2
  exact lv_if_ne hc.1.1 hc.1.2.1 hd ht (fun q => kt q p l e s m args below meth c h0 ad0 ad ls H locs nc ns mc ms hc h1 h2) (fun q => kf q p l e s m args below meth c h0 ad0 ad ls H locs nc ns mc ms hc h1 h2)
theorem e_if_lt {x : Int32} {off : Int} {tgt : Nat} (hd : decode (mcode j) pc = .ok (.ifCond .lt off, 3)) (ht : (pc : Int) + off = (tgt : Int)) (kt : x < 0 → E cx j d a tgt loc st h Q) (kf : ¬ (x < 0) → E cx j d a (pc + 3) loc st h Q) : E cx j d a pc loc (.int x :: st) h Q := by
  intro p l e s m args below meth c h0 ad0 ad ls H locs nc ns mc ms hc h1 h2
  exact lv_if_lt hc.1.1 hc.1.2.1 hd ht (fun q => kt q p l e s m args below meth c h0 ad0 ad ls H locs nc ns mc ms hc h1 h2) (fun q => kf q p l e s m args below meth c h0 ad0 ad ls H locs nc ns mc ms hc h1 h2)
theorem e_if_ge {x : Int32} {off : Int} {tgt : Nat} (hd : decode (mcode j) pc = .ok (.ifCond .ge off, 3)) (ht : (pc : Int) + off = (tgt : Int)) (kt : 0 ≤ x → E cx j d a tgt loc st h Q) (kf : ¬ (0 ≤ x) → E cx j d a (pc + 3) loc st h Q) : E cx j d a pc loc (.int x :: st) h Q := by
  intro p l e s m args below meth c h0 ad0 ad ls H locs nc ns mc ms hc h1 h2
  exact lv_if_ge hc.1.1 hc.1.2.1 hd ht (fun q => kt q p l e s m args below meth c h0 ad0 ad ls H locs nc ns mc ms hc h1 h2) (fun q => kf q p l e s m args below meth c h0 ad0 ad ls H locs nc ns mc ms hc h1 h2)
theorem e_if_gt {x : Int32} {off : Int} {tgt : Nat} (hd : decode (mcode j) pc = .ok (.ifCond .gt off, 3)) (ht : (pc : Int) + off = (tgt : Int)) (kt : 0 < x → E cx j d a tgt loc st h Q) (kf : ¬ (0 < x) → E cx j d a (pc + 3) loc st h Q) : E cx j d a pc loc (.int x :: st) h Q := by
  intro p l e s m args below meth c h0 ad0 ad ls H locs nc ns mc ms hc h1 h2
  exact lv_if_gt hc.1.1 hc.1.2.1 hd ht (fun q => kt q p l e s m args below meth c h0 ad0 ad ls H locs nc ns mc ms hc h1 h2) (fun q => kf q p l e s m args below meth c h0 ad0 ad ls H locs nc ns mc ms hc h1 h2)
theorem e_if_le {x : Int32} {off : Int} {tgt : Nat} (hd : decode (mcode j) pc = .ok (.ifCond .le off, 3)) (ht : (pc : Int) + off = (tgt : Int)) (kt : x ≤ 0 → E cx j d a tgt loc st h Q) (kf : ¬ (x ≤ 0) → E cx j d a (pc + 3) loc st h Q) : E cx j d a pc loc (.int x :: st) h Q := by
  intro p l e s m args below meth c h0 ad0 ad ls H locs nc ns mc ms hc h1 h2
  exact lv_if_le hc.1.1 hc.1.2.1 hd ht (fun q => kt q p l e s m args below meth c h0 ad0 ad ls H locs nc ns mc ms hc h1 h2) (fun q => kf q p l e s m args below meth c h0 ad0 ad ls H locs nc ns mc ms hc h1 h2)
theorem e_icmp_eq {x y : Int32} {off : Int} {tgt : Nat} (hd : decode (mcode j) pc = .ok (.if_icmp .eq off, 3)) (ht : (pc : Int) + off = (tgt : Int)) (kt : x = y → E cx j d a tgt loc st h Q) (kf : ¬ (x = y) → E cx j d a (pc + 3) loc st h Q) : E cx j d a pc loc (.int y :: .int x :: st) h Q := by
  intro p l e s m args below meth c h0 ad0 ad ls H locs nc ns mc ms hc h1 h2
  exact lv_icmp_eq hc.1.1 hc.1.2.1 hd ht (fun q => kt q p l e s m args below meth c h0 ad0 ad ls H locs nc ns mc ms hc h1 h2) (fun q => kf q p l e s m args below meth c h0 ad0 ad ls H locs nc ns mc ms hc h1 h2)
theorem e_icmp_ne {x y : Int32} {off : Int} {tgt : Nat} (hd : decode (mcode j) pc = .ok (.if_icmp .ne off, 3)) (ht : (pc : Int) + off = (tgt : Int)) (kt : ¬ x = y → E cx j d a tgt loc st h Q) (kf : x = y → E cx j d a (pc + 3) loc st h Q) : E cx j d a pc loc (.int y :: .int x :: st) h Q := by
  intro p l e s m args below meth c h0 ad0 ad ls H locs nc ns mc ms hc h1 h2
  exact lv_icmp_ne hc.1.1 hc.1.2.1 hd ht (fun q => kt q p l e s m args below meth c h0 ad0 ad ls H locs nc ns mc ms hc h1 h2) (fun q => kf q p l e s m args below meth c h0 ad0 ad ls H locs nc ns mc ms hc h1 h2)
theorem e_icmp_lt {x y : Int32} {off : Int} {tgt : Nat} (hd : decode (mcode j) pc = .ok (.if_icmp .lt off, 3)) (ht : (pc : Int) + off = (tgt : Int)) (kt : x < y → E cx j d a tgt loc st h Q) (kf : ¬ (x < y) → E cx j d a (pc + 3) loc st h Q) : E cx j d a pc loc (.int y :: .int x :: st) h Q := by
  intro p l e s m args below meth c h0 ad0 ad ls H locs nc ns mc ms hc h1 h2
  exact lv_icmp_lt hc.1.1 hc.1.2.1 hd ht (fun q => kt q p l e s m args below meth c h0 ad0 ad ls H locs nc ns mc ms hc h1 h2) (fun q => kf q p l e s m args below meth c h0 ad0 ad ls H locs nc ns mc ms hc h1 h2)
theorem e_icmp_ge {x y : Int32} {off : Int} {tgt : Nat} (hd : decode (mcode j) pc = .ok (.if_icmp .ge off, 3)) (ht : (pc : Int) + off = (tgt : Int)) (kt : y ≤ x → E cx j d a tgt loc st h Q) (kf : ¬ (y ≤ x) → E cx j d a (pc + 3) loc st h Q) : E cx j d a pc loc (.int y :: .int x :: st) h Q := by
  intro p l e s m args below meth c h0 ad0 ad ls H locs nc ns mc ms hc h1 h2
  exact lv_icmp_ge hc.1.1 hc.1.2.1 hd ht (fun q => kt q p l e s m args below meth c h0 ad0 ad ls H locs nc ns mc ms hc h1 h2) (fun q => kf q p l e s m args below meth c h0 ad0 ad ls H locs nc ns mc ms hc h1 h2)
theorem e_icmp_gt {x y : Int32} {off : Int} {tgt : Nat} (hd : decode (mcode j) pc = .ok (.if_icmp .gt off, 3)) (ht : (pc : Int) + off = (tgt : Int)) (kt : y < x → E cx j d a tgt loc st h Q) (kf : ¬ (y < x) → E cx j d a (pc + 3) loc st h Q) : E cx j d a pc loc (.int y :: .int x :: st) h Q := by
  intro p l e s m args below meth c h0 ad0 ad ls H locs nc ns mc ms hc h1 h2
  exact lv_icmp_gt hc.1.1 hc.1.2.1 hd ht (fun q => kt q p l e s m args below meth c h0 ad0 ad ls H locs nc ns mc ms hc h1 h2) (fun q => kf q p l e s m args below meth c h0 ad0 ad ls H locs nc ns mc ms hc h1 h2)
theorem e_icmp_le {x y : Int32} {off : Int} {tgt : Nat} (hd : decode (mcode j) pc = .ok (.if_icmp .le off, 3)) (ht : (pc : Int) + off = (tgt : Int)) (kt : x ≤ y → E cx j d a tgt loc st h Q) (kf : ¬ (x ≤ y) → E cx j d a (pc + 3) loc st h Q) : E cx j d a pc loc (.int y :: .int x :: st) h Q := by
  intro p l e s m args below meth c h0 ad0 ad ls H locs nc ns mc ms hc h1 h2
  exact lv_icmp_le hc.1.1 hc.1.2.1 hd ht (fun q => kt q p l e s m args below meth c h0 ad0 ad ls H locs nc ns mc ms hc h1 h2) (fun q => kf q p l e s m args below meth c h0 ad0 ad ls H locs nc ns mc ms hc h1 h2)
theorem e_goto {off : Int} {tgt : Nat} (hd : decode (mcode j) pc = .ok (.goto off, 3)) (ht : (pc : Int) + off = (tgt : Int)) (k : E cx j d a tgt loc st h Q) : E cx j d a pc loc st h Q := by
  intro p l e s m args below meth c h0 ad0 ad ls H locs nc ns mc ms hc h1 h2
  exact lv_goto hc.1.1 hc.1.2.1 hd ht (k p l e s m args below meth c h0 ad0 ad ls H locs nc ns mc ms hc h1 h2)
theorem e_ifnull {x : Nat} {off : Int} (hd : decode (mcode j) pc = .ok (.ifnull off, 3)) (k : E cx j d a (pc + 3) loc st h Q) : E cx j d a pc loc (.ref x :: st) h Q := by
  intro p l e s m args below meth c h0 ad0 ad ls H locs nc ns mc ms hc h1 h2
  exact lv_ifnull hc.1.1 hc.1.2.1 hd (k p l e s m args below meth c h0 ad0 ad ls H locs nc ns mc ms hc h1 h2)
theorem e_ifnullN {off : Int} {tgt : Nat} (hd : decode (mcode j) pc = .ok (.ifnull off, 3)) (ht : (pc : Int) + off = (tgt : Int)) (k : E cx j d a tgt loc st h Q) : E cx j d a pc loc (.null :: st) h Q := by
  intro p l e s m args below meth c h0 ad0 ad ls H locs nc ns mc ms hc h1 h2
  exact lv_ifnullN hc.1.1 hc.1.2.1 hd ht (k p l e s m args below meth c h0 ad0 ad ls H locs nc ns mc ms hc h1 h2)
theorem e_ifnonnull {x : Nat} {off : Int} {tgt : Nat} (hd : decode (mcode j) pc = .ok (.ifnonnull off, 3)) (ht : (pc : Int) + off = (tgt : Int)) (k : E cx j d a tgt loc st h Q) : E cx j d a pc loc (.ref x :: st) h Q := by
  intro p l e s m args below meth c h0 ad0 ad ls H locs nc ns mc ms hc h1 h2
  exact lv_ifnonnull hc.1.1 hc.1.2.1 hd ht (k p l e s m args below meth c h0 ad0 ad ls H locs nc ns mc ms hc h1 h2)
theorem e_ifnonnullN {off : Int} (hd : decode (mcode j) pc = .ok (.ifnonnull off, 3)) (k : E cx j d a (pc + 3) loc st h Q) : E cx j d a pc loc (.null :: st) h Q := by
  intro p l e s m args below meth c h0 ad0 ad ls H locs nc ns mc ms hc h1 h2
  exact lv_ifnonnullN hc.1.1 hc.1.2.1 hd (k p l e s m args below meth c h0 ad0 ad ls H locs nc ns mc ms hc h1 h2)
theorem e_table {dflt lo hi : Int} {offs : Array Int} {len : Nat} {x : Int32} (hd : decode (mcode j) pc = .ok (.tableswitch dflt lo hi offs, len)) {dt : Nat} (hdt : (pc : Int) + dflt = (dt : Int)) (tg : Nat → Nat) (htg : ∀ i : Nat, (i : Int) ≤ hi - lo → ∃ off, offs[i]? = some off ∧ (pc : Int) + off = (tg i : Int)) (ko : (x.toInt < lo ∨ hi < x.toInt) → E cx j d a dt loc st h Q) (ki : ∀ i : Nat, x.toInt = lo + i → (i : Int) ≤ hi - lo → E cx j d a (tg i) loc st h Q) : E cx j d a pc loc (.int x :: st) h Q := by
  intro p l e s m args below meth c h0 ad0 ad ls H locs nc ns mc ms hc h1 h2
  by_cases q1 : x.toInt < lo
  · exact lv_tableOut hc.1.1 hc.1.2.1 hd (Or.inl q1) hdt (ko (Or.inl q1) p l e s m args below meth c h0 ad0 ad ls H locs nc ns mc ms hc h1 h2)
  by_cases q2 : hi < x.toInt
  · exact lv_tableOut hc.1.1 hc.1.2.1 hd (Or.inr q2) hdt (ko (Or.inr q2) p l e s m args below meth c h0 ad0 ad ls H locs nc ns mc ms hc h1 h2)
  have q3 : (((x.toInt - lo).toNat : Nat) : Int) = x.toInt - lo := Int.toNat_of_nonneg (by omega)
  obtain ⟨off, o1, o2⟩ := htg (x.toInt - lo).toNat (by omega)
  exact lv_tableIn hc.1.1 hc.1.2.1 hd q1 q2 o1 o2 (ki (x.toInt - lo).toNat (by omega) (by omega) p l e s m args below meth c h0 ad0 ad ls H locs nc ns mc ms hc h1 h2)
/-- all that is known of the locals, as the kit's list -/
def lcl (ad : Nat → Nat) (loc : Lc) : List (Nat × Value) := (List.range loc.length).filterMap (fun i => (lnth loc i).map (fun v => (i, cv ad v)))
theorem lnth_lt {loc : Lc} {i : Nat} {v : Value} (q : lnth loc i = some v) : i < loc.length := by
  induction loc generalizing i with
  | nil => simp [lnth] at q
  | cons x t ih =>
    match i, q with
    | 0, _ => simp
    | i + 1, q => simp only [List.length_cons]; have := ih (i := i) (by simpa [lnth] using q); omega
theorem mem_lcl {ad : Nat → Nat} {loc : Lc} {q : Nat × Value} : q ∈ lcl ad loc ↔ ∃ v, lnth loc q.1 = some v ∧ q.2 = cv ad v := by
  unfold lcl
  rw [List.mem_filterMap]
  constructor
  · rintro ⟨i, -, hi⟩
    match hv : lnth loc i, hi with
    | some v, hi => simp at hi; subst hi; exact ⟨v, hv, rfl⟩
  · rintro ⟨v, hv, e⟩
    exact ⟨q.1, List.mem_range.mpr (lnth_lt hv), by rw [hv]; simp [← e]⟩
theorem lvok_has {ad : Nat → Nat} {ls : Array Slot} {n : Nat} {loc : Lc} (q : lvok ad ls n loc) : lv_has ls n (lcl ad loc) := ⟨q.1, q.2.1, fun z hz => by
  obtain ⟨v, hv, e⟩ := mem_lcl.mp hz
  rw [e]; exact q.2.2 _ _ hv⟩
theorem lvok_sto {ad : Nat → Nat} {ls : Array Slot} {n i : Nat} {loc : Lc} {v : Value} (q : lv_has ls n ((i, cv ad v) :: (lcl ad loc).filter (fun q => !(q.1 == i) && !(q.1 + 1 == i && q.2.category == 2)))) : lvok ad ls n (lsto loc i v) := by
  refine ⟨q.1, q.2.1, fun k w hw => ?_⟩
  rcases lnth_sto k w hw with ⟨rfl, rfl⟩ | ⟨h1, h2, h3⟩
  · exact q.2.2 _ List.mem_cons_self
  · refine q.2.2 (k, cv ad w) (List.mem_cons_of_mem _ (List.mem_filter.mpr ⟨mem_lcl.mpr ⟨w, h2, rfl⟩, ?_⟩))
    simp only [cv_cat]
    by_cases g1 : k + 1 = i
    · have g2 : w.category ≠ 2 := fun z => h3 ⟨g1, z⟩
      simp [h1, g2]
    · simp [h1, g1]
theorem e_istore_n {n : Fin 4} {x : Int32} (hd : decode (mcode j) pc = .ok (.istore_n n, 1)) (hn : (n : Nat) < mmax j) (k : E cx j d a (pc + 1) (lsto loc n (.int x)) st h Q) : E cx j d a pc loc (.int x :: st) h Q := by
  intro p l e s m args below meth c h0 ad0 ad ls H locs nc ns mc ms hc h1 h2
  exact lv_istore_n hc.1.1 hc.1.2.1 hd rfl (lvok_has hc.2.2.2) hn rfl (fun ls hl => k p l e s m args below meth c h0 ad0 ad ls H locs nc ns mc ms ⟨hc.1, hc.2.1, hc.2.2.1, lvok_sto hl⟩ h1 h2)
theorem e_istore {i : Nat} {x : Int32} (hd : decode (mcode j) pc = .ok (.istore i, 2)) (hn : i < mmax j) (k : E cx j d a (pc + 2) (lsto loc i (.int x)) st h Q) : E cx j d a pc loc (.int x :: st) h Q := by
  intro p l e s m args below meth c h0 ad0 ad ls H locs nc ns mc ms hc h1 h2
  exact lv_istore hc.1.1 hc.1.2.1 hd (lvok_has hc.2.2.2) hn rfl (fun ls hl => k p l e s m args below meth c h0 ad0 ad ls H locs nc ns mc ms ⟨hc.1, hc.2.1, hc.2.2.1, lvok_sto hl⟩ h1 h2)
theorem e_astore_n {n : Fin 4} {x : Nat} (hd : decode (mcode j) pc = .ok (.astore_n n, 1)) (hn : (n : Nat) < mmax j) (k : E cx j d a (pc + 1) (lsto loc n (.ref x)) st h Q) : E cx j d a pc loc (.ref x :: st) h Q := by
  intro p l e s m args below meth c h0 ad0 ad ls H locs nc ns mc ms hc h1 h2
  exact lv_astore_n hc.1.1 hc.1.2.1 hd rfl (lvok_has hc.2.2.2) hn rfl (fun ls hl => k p l e s m args below meth c h0 ad0 ad ls H locs nc ns mc ms ⟨hc.1, hc.2.1, hc.2.2.1, lvok_sto hl⟩ h1 h2)
theorem e_astore {i : Nat} {x : Nat} (hd : decode (mcode j) pc = .ok (.astore i, 2)) (hn : i < mmax j) (k : E cx j d a (pc + 2) (lsto loc i (.ref x)) st h Q) : E cx j d a pc loc (.ref x :: st) h Q := by
  intro p l e s m args below meth c h0 ad0 ad ls H locs nc ns mc ms hc h1 h2
  exact lv_astore hc.1.1 hc.1.2.1 hd (lvok_has hc.2.2.2) hn rfl (fun ls hl => k p l e s m args below meth c h0 ad0 ad ls H locs nc ns mc ms ⟨hc.1, hc.2.1, hc.2.2.1, lvok_sto hl⟩ h1 h2)
theorem e_astore_nN {n : Fin 4} (hd : decode (mcode j) pc = .ok (.astore_n n, 1)) (hn : (n : Nat) < mmax j) (k : E cx j d a (pc + 1) (lsto loc n (.null)) st h Q) : E cx j d a pc loc (.null :: st) h Q := by
  intro p l e s m args below meth c h0 ad0 ad ls H locs nc ns mc ms hc h1 h2
  exact lv_astore_nN hc.1.1 hc.1.2.1 hd rfl (lvok_has hc.2.2.2) hn rfl (fun ls hl => k p l e s m args below meth c h0 ad0 ad ls H locs nc ns mc ms ⟨hc.1, hc.2.1, hc.2.2.1, lvok_sto hl⟩ h1 h2)
theorem e_astoreN {i : Nat} (hd : decode (mcode j) pc = .ok (.astore i, 2)) (hn : i < mmax j) (k : E cx j d a (pc + 2) (lsto loc i (.null)) st h Q) : E cx j d a pc loc (.null :: st) h Q := by
  intro p l e s m args below meth c h0 ad0 ad ls H locs nc ns mc ms hc h1 h2
  exact lv_astoreN hc.1.1 hc.1.2.1 hd (lvok_has hc.2.2.2) hn rfl (fun ls hl => k p l e s m args below meth c h0 ad0 ad ls H locs nc ns mc ms ⟨hc.1, hc.2.1, hc.2.2.1, lvok_sto hl⟩ h1 h2)
theorem e_iinc {i : Nat} {n : Int} {x v : Int32} (hd : decode (mcode j) pc = .ok (.iinc i n, 3)) (hn : i < mmax j) (hx : lnth loc i = some (.int x)) (hv : x + Int32.ofInt n = v) (k : E cx j d a (pc + 3) (lsto loc i (.int v)) st h Q) : E cx j d a pc loc st h Q := by
  intro p l e s m args below meth c h0 ad0 ad ls H locs nc ns mc ms hc h1 h2
  obtain ⟨k0, hk0⟩ := List.getElem?_of_mem (mem_lcl (ad := ad) (q := (i, .int x)) |>.mpr ⟨.int x, hx, rfl⟩)
  exact lv_iinc hc.1.1 hc.1.2.1 hd (lvok_has hc.2.2.2) hk0 hv hn rfl (fun ls hl => k p l e s m args below meth c h0 ad0 ad ls H locs nc ns mc ms ⟨hc.1, hc.2.1, hc.2.2.1, lvok_sto hl⟩ h1 h2)
theorem lnth_st2 {loc : Lc} {i : Nat} {v : Value} : ∀ (k : Nat) (w : Value), lnth (lst2 loc i v) k = some w → (k = i ∧ w = v) ∨ (k ≠ i ∧ k ≠ i + 1 ∧ lnth loc k = some w ∧ ¬ (k + 1 = i ∧ w.category = 2)) := by
  induction loc generalizing i with
  | nil => intro k w h; simp [lst2, lnth] at h
  | cons x t ih =>
    intro k w h
    match i, k, h with
    | 0, 0, h => left; simp [lst2, lnth] at h; exact ⟨rfl, h.symm⟩
    | 0, 1, h => match t, h with
      | [], h => simp [lst2, lnth] at h
      | _ :: u, h => simp [lst2, lnth] at h
    | 0, k + 2, h => match t, h with
      | [], h => simp [lst2, lnth] at h
      | _ :: u, h => right; simp [lst2, lnth] at h; exact ⟨by omega, by omega, by simpa [lnth] using h, by omega⟩
    | 1, 0, h =>
      right
      simp only [lst2, lnth] at h
      refine ⟨by omega, by omega, ?_, ?_⟩
      · simp only [lnth]
        match x, h with
        | some (.int _), h => exact h
        | some (.float _), h => exact h
        | some (.ref _), h => exact h
        | some .null, h => exact h
        | some (.retAddr _), h => exact h
      · rintro ⟨-, h2⟩
        match x, h with
        | some (.int _), h => cases h; cases h2
        | some (.float _), h => cases h; cases h2
        | some (.ref _), h => cases h; cases h2
        | some .null, h => cases h; cases h2
        | some (.retAddr _), h => cases h; cases h2
    | 1, k + 1, h =>
      simp only [lst2, lnth] at h
      rcases ih (i := 0) k w h with ⟨h1, h2⟩ | ⟨h1, h2, h3, h4⟩
      · left; exact ⟨by omega, h2⟩
      · right; exact ⟨by omega, by omega, by simpa [lnth] using h3, by omega⟩
    | i + 2, 0, h => right; simp [lst2, lnth] at h; exact ⟨by omega, by omega, by simpa [lnth] using h, by omega⟩
    | i + 2, k + 1, h =>
      simp only [lst2, lnth] at h
      rcases ih (i := i + 1) k w h with ⟨h1, h2⟩ | ⟨h1, h2, h3, h4⟩
      · left; exact ⟨by omega, h2⟩
      · right; exact ⟨by omega, by omega, by simpa [lnth] using h3, fun q => h4 ⟨by omega, q.2⟩⟩
theorem lvok_st2 {ad : Nat → Nat} {ls : Array Slot} {n i : Nat} {loc : Lc} {v : Value} (q : lv_has ls n ((i, cv ad v) :: (lcl ad loc).filter (fun q => !(q.1 == i) && (!(q.1 == i + 1) && !(q.1 + 1 == i && q.2.category == 2))))) : lvok ad ls n (lst2 loc i v) := by
  refine ⟨q.1, q.2.1, fun k w hw => ?_⟩
  rcases lnth_st2 k w hw with ⟨rfl, rfl⟩ | ⟨h1, h0, h2, h3⟩
  · exact q.2.2 _ List.mem_cons_self
  · refine q.2.2 (k, cv ad w) (List.mem_cons_of_mem _ (List.mem_filter.mpr ⟨mem_lcl.mpr ⟨w, h2, rfl⟩, ?_⟩))
    simp only [cv_cat]
    by_cases g1 : k + 1 = i
    · have g2 : w.category ≠ 2 := fun z => h3 ⟨g1, z⟩
      simp [h1, h0, g2]
    · simp [h1, h0, g1]
theorem e_lstore_n {n : Fin 4} {x : Int64} (hd : decode (mcode j) pc = .ok (.lstore_n n, 1)) (hn : (n : Nat) + 1 < mmax j) (k : E cx j d a (pc + 1) (lst2 loc n (.long x)) st h Q) : E cx j d a pc loc (.long x :: st) h Q := by
  intro p l e s m args below meth c h0 ad0 ad ls H locs nc ns mc ms hc h1 h2
  exact lv_lstore_n hc.1.1 hc.1.2.1 hd rfl (lvok_has hc.2.2.2) hn rfl (fun ls hl => k p l e s m args below meth c h0 ad0 ad ls H locs nc ns mc ms ⟨hc.1, hc.2.1, hc.2.2.1, lvok_st2 hl⟩ h1 h2)
theorem e_lstore {i : Nat} {x : Int64} (hd : decode (mcode j) pc = .ok (.lstore i, 2)) (hn : i + 1 < mmax j) (k : E cx j d a (pc + 2) (lst2 loc i (.long x)) st h Q) : E cx j d a pc loc (.long x :: st) h Q := by
  intro p l e s m args below meth c h0 ad0 ad ls H locs nc ns mc ms hc h1 h2
  exact lv_lstore hc.1.1 hc.1.2.1 hd (lvok_has hc.2.2.2) hn rfl (fun ls hl => k p l e s m args below meth c h0 ad0 ad ls H locs nc ns mc ms ⟨hc.1, hc.2.1, hc.2.2.1, lvok_st2 hl⟩ h1 h2)
end ER
