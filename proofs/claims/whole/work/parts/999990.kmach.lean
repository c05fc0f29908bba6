/-! a second small machine, for what makes new cells: the world as a function of the cells' turn -/
def upW (f : Nat → Nat × va_E) (k : Nat) (x : Nat × va_E) : Nat → Nat × va_E := fun i => if i = k then x else f i
def wK (K : Nat) (f : Nat → Nat × va_E) : va_W := (List.range K).map f
theorem wK_get {K q : Nat} {f : Nat → Nat × va_E} (h : q < K) : (wK K f)[q]? = some (f q) := by simp [wK, h]
theorem wK_set {K q : Nat} {f : Nat → Nat × va_E} {x : Nat × va_E} (h : q < K) : (wK K f).set q x = wK K (upW f q x) := by
  apply List.ext_getElem?
  intro i
  by_cases e : i = q
  · subst e; simp [wK, h, upW]
  · rw [List.getElem?_set_ne (fun z => e z.symm)]
    by_cases hi : i < K
    · rw [wK_get hi, wK_get hi]; simp [upW, e]
    · simp [wK, hi]
theorem wK_push {K : Nat} {f : Nat → Nat × va_E} {x : Nat × va_E} : wK K f ++ [x] = wK (K + 1) (upW f K x) := by
  apply List.ext_getElem?
  intro i
  have len : (wK K f).length = K := by simp [wK]
  by_cases hi : i < K
  · rw [List.getElem?_append_left (by omega), wK_get hi, wK_get (by omega)]; simp [upW]; omega
  · rw [List.getElem?_append_right (by omega), len]
    by_cases e : i = K
    · subst e; rw [wK_get (by omega)]; simp [upW]
    · have : (wK (K + 1) (upW f K x))[i]? = none := by simp [wK]; omega
      rw [this]; simp; omega
def Kw (kf : Bool) (s : State) : Prop := kf = true → (∀ q ∈ tb_C, q.2.2.2.1 = 4 → va_Nw (mn_w q) s) ∧ va_AO "FiveTouch$Law" s ∧ va_AO "FiveTouch$Wall" s
def QK (cx : Cx) (ws0 : va_W) (sz : Nat) (Q : Option Value → Nat → (Nat → Nat × va_E) → Prop) : Array Value → State → Outcome → State → Prop := fun _ st oc t =>
  (∃ (r : Option Value) (K : Nat) (f : Nat → Nat × va_E), oc = .returned r ∧ Q r K f ∧ va_P (cxD cx) vwCl (wK K f) t.heap ∧ va_K (cxD cx) vwCl (tys cx) t ∧ va_D (va_A ws0 sz) (wK K f)) ∧ va_F (va_A ws0 sz) st t
def MK (cx : Cx) (kf : Bool) (j d nc ns : Nat) (vs : List Value) (K : Nat) (f : Nat → Nat × va_E) (Q : Option Value → Nat → (Nat → Nat × va_E) → Prop) : Prop := ∀ (l : Launch) (sz : Nat),
  Met l (my j) (wsj j) (rm d nc ns) (va_Pc vs (fun U => U.heap.size = sz ∧ va_P (cxD cx) vwCl (wK K f) U.heap ∧ va_K (cxD cx) vwCl (tys cx) U ∧ va_D (fun _ => True) (wK K f) ∧ Kw kf U)) (QK cx (wK K f) sz Q) nc ns (va_A (wK K f) sz)
abbrev idn : Nat → Nat := fun i => i
theorem cv_id {v : Value} : cv idn v = v := by cases v <;> rfl
def Bc (cx : Cx) (kf : Bool) (j : Nat) (ws0 : va_W) (K : Nat) (f : Nat → Nat × va_E) (loc : Lc) (p : Program) (s : State) (m : MethodId) (args : Array Value) (meth : Method) (c : Code) (ls : Array Slot) (H : Heap) (locs : List Loc) : Prop :=
  (p.tables.exec = Jvm.exec ∧ c.code = mcode j ∧ meth.sig.returnType = mret j ∧ c.maxLocals = mmax j ∧ s.vm.findClass (tb_RR (mcn j)) = some m.cls ∧ (∀ w ∈ gT, w.before args s = true) ∧ meth.locks = false ∧ ((my j).name = "<init>" → meth.name = "<init>")) ∧
  (va_K (cxD cx) vwCl (tys cx) s ∧ va_P (cxD cx) vwCl (wK K f) H ∧ va_D (va_A ws0 s.heap.size) (wK K f) ∧ va_S (va_A ws0 s.heap.size) s.heap H locs ∧ Kw kf s) ∧ lvok idn ls (mmax j) loc
def B (cx : Cx) (kf : Bool) (j d nc ns pc : Nat) (loc : Lc) (st : List Value) (K : Nat) (f : Nat → Nat × va_E) (Q : Option Value → Nat → (Nat → Nat × va_E) → Prop) : Prop :=
  ∀ (p : Program) (l : Launch) (e : Jvm.Env) (s : State) (m : MethodId) (args : Array Value) (below : List Frame) (meth : Method) (c : Code) (ws0 : va_W) (ls : Array Slot) (H : Heap) (locs : List Loc) (n0 s0 mc ms : Nat),
    Bc cx kf j ws0 K f loc p s m args meth c ls H locs → n0 + nc ≤ mc → s0 + ns ≤ ms →
    W p l e (rm d mc ms) s m args below meth c H locs n0 s0 (MQ below (QK cx ws0 s.heap.size Q) args s mc ms (va_A ws0 s.heap.size)) (F0 m pc ls st)
theorem jb_oi : lw_tbl[110]? = some (Cond.instanceMethod Lib.objectInit) := by decide +kernel
theorem jb_oc : lw_tbl[111]? = some (Cond.code Lib.objectInit ⟨#[0xb1]⟩ 1 none) := by decide +kernel
section BR
variable {cx : Cx} {kf : Bool} {j d nc ns pc K : Nat} {loc : Lc} {st : List Value} {f : Nat → Nat × va_E} {Q : Option Value → Nat → (Nat → Nat × va_E) → Prop}
theorem b_iadd {x y : Int32} (hd : decode (mcode j) pc = .ok (.iadd, 1)) (k : B cx kf j d nc ns (pc + 1) loc (.int (x + y) :: st) K f Q) : B cx kf j d nc ns pc loc (.int y :: .int x :: st) K f Q := by
  intro p l e s m args below meth c ws0 ls H locs n0 s0 mc ms hc h1 h2
  exact lv_iadd hc.1.1 hc.1.2.1 hd (k p l e s m args below meth c ws0 ls H locs n0 s0 mc ms hc h1 h2)
theorem b_isub {x y : Int32} (hd : decode (mcode j) pc = .ok (.isub, 1)) (k : B cx kf j d nc ns (pc + 1) loc (.int (x - y) :: st) K f Q) : B cx kf j d nc ns pc loc (.int y :: .int x :: st) K f Q := by
  intro p l e s m args below meth c ws0 ls H locs n0 s0 mc ms hc h1 h2
  exact lv_isub hc.1.1 hc.1.2.1 hd (k p l e s m args below meth c ws0 ls H locs n0 s0 mc ms hc h1 h2)
theorem b_imul {x y : Int32} (hd : decode (mcode j) pc = .ok (.imul, 1)) (k : B cx kf j d nc ns (pc + 1) loc (.int (x * y) :: st) K f Q) : B cx kf j d nc ns pc loc (.int y :: .int x :: st) K f Q := by
  intro p l e s m args below meth c ws0 ls H locs n0 s0 mc ms hc h1 h2
  exact lv_imul hc.1.1 hc.1.2.1 hd (k p l e s m args below meth c ws0 ls H locs n0 s0 mc ms hc h1 h2)
theorem b_dup {v : Value} (hd : decode (mcode j) pc = .ok (.dup, 1)) (hv : v.category = 1) (k : B cx kf j d nc ns (pc + 1) loc (v :: v :: st) K f Q) : B cx kf j d nc ns pc loc (v :: st) K f Q := by
  intro p l e s m args below meth c ws0 ls H locs n0 s0 mc ms hc h1 h2
  exact lv_dup hc.1.1 hc.1.2.1 hd hv (k p l e s m args below meth c ws0 ls H locs n0 s0 mc ms hc h1 h2)
theorem b_iconst {n : Int} {v : Int32} (hd : decode (mcode j) pc = .ok (.iconst n, 1)) (hv : Int32.ofInt n = v) (k : B cx kf j d nc ns (pc + 1) loc (.int v :: st) K f Q) : B cx kf j d nc ns pc loc st K f Q := by
  intro p l e s m args below meth c ws0 ls H locs n0 s0 mc ms hc h1 h2
  exact lv_iconst hc.1.1 hc.1.2.1 hd hv (k p l e s m args below meth c ws0 ls H locs n0 s0 mc ms hc h1 h2)
theorem b_bipush {n : Int} {v : Int32} (hd : decode (mcode j) pc = .ok (.bipush n, 2)) (hv : (Int8.ofInt n).toInt32 = v) (k : B cx kf j d nc ns (pc + 2) loc (.int v :: st) K f Q) : B cx kf j d nc ns pc loc st K f Q := by
  intro p l e s m args below meth c ws0 ls H locs n0 s0 mc ms hc h1 h2
  exact lv_bipush hc.1.1 hc.1.2.1 hd hv (k p l e s m args below meth c ws0 ls H locs n0 s0 mc ms hc h1 h2)
theorem b_sipush {n : Int} {v : Int32} (hd : decode (mcode j) pc = .ok (.sipush n, 3)) (hv : (Int16.ofInt n).toInt32 = v) (k : B cx kf j d nc ns (pc + 3) loc (.int v :: st) K f Q) : B cx kf j d nc ns pc loc st K f Q := by
  intro p l e s m args below meth c ws0 ls H locs n0 s0 mc ms hc h1 h2
  exact lv_sipush hc.1.1 hc.1.2.1 hd hv (k p l e s m args below meth c ws0 ls H locs n0 s0 mc ms hc h1 h2)
theorem b_aload_n {n : Fin 4} {x : Nat} (hd : decode (mcode j) pc = .ok (.aload_n n, 1)) (hl : lnth loc n = some (.ref x)) (k : B cx kf j d nc ns (pc + 1) loc (.ref x :: st) K f Q) : B cx kf j d nc ns pc loc st K f Q := by
  intro p l e s m args below meth c ws0 ls H locs n0 s0 mc ms hc h1 h2
  exact lv_aload_n hc.1.1 hc.1.2.1 hd rfl (hc.2.2.2.2 _ _ hl) (k p l e s m args below meth c ws0 ls H locs n0 s0 mc ms hc h1 h2)
theorem b_iload_n {n : Fin 4} {x : Int32} (hd : decode (mcode j) pc = .ok (.iload_n n, 1)) (hl : lnth loc n = some (.int x)) (k : B cx kf j d nc ns (pc + 1) loc (.int x :: st) K f Q) : B cx kf j d nc ns pc loc st K f Q := by
  intro p l e s m args below meth c ws0 ls H locs n0 s0 mc ms hc h1 h2
  exact lv_iload_n hc.1.1 hc.1.2.1 hd rfl (hc.2.2.2.2 _ _ hl) (k p l e s m args below meth c ws0 ls H locs n0 s0 mc ms hc h1 h2)
theorem b_iload {i : Nat} {x : Int32} (hd : decode (mcode j) pc = .ok (.iload i, 2)) (hl : lnth loc i = some (.int x)) (k : B cx kf j d nc ns (pc + 2) loc (.int x :: st) K f Q) : B cx kf j d nc ns pc loc st K f Q := by
  intro p l e s m args below meth c ws0 ls H locs n0 s0 mc ms hc h1 h2
  exact lv_iload hc.1.1 hc.1.2.1 hd (hc.2.2.2.2 _ _ hl) (k p l e s m args below meth c ws0 ls H locs n0 s0 mc ms hc h1 h2)
theorem b_icmp_ge {x y : Int32} {off : Int} {tgt : Nat} (hd : decode (mcode j) pc = .ok (.if_icmp .ge off, 3)) (ht : (pc : Int) + off = (tgt : Int)) (kt : y ≤ x → B cx kf j d nc ns tgt loc st K f Q) (kf' : ¬ (y ≤ x) → B cx kf j d nc ns (pc + 3) loc st K f Q) : B cx kf j d nc ns pc loc (.int y :: .int x :: st) K f Q := by
  intro p l e s m args below meth c ws0 ls H locs n0 s0 mc ms hc h1 h2
  exact lv_icmp_ge hc.1.1 hc.1.2.1 hd ht (fun q => kt q p l e s m args below meth c ws0 ls H locs n0 s0 mc ms hc h1 h2) (fun q => kf' q p l e s m args below meth c ws0 ls H locs n0 s0 mc ms hc h1 h2)
theorem b_goto {off : Int} {tgt : Nat} (hd : decode (mcode j) pc = .ok (.goto off, 3)) (ht : (pc : Int) + off = (tgt : Int)) (k : B cx kf j d nc ns tgt loc st K f Q) : B cx kf j d nc ns pc loc st K f Q := by
  intro p l e s m args below meth c ws0 ls H locs n0 s0 mc ms hc h1 h2
  exact lv_goto hc.1.1 hc.1.2.1 hd ht (k p l e s m args below meth c ws0 ls H locs n0 s0 mc ms hc h1 h2)
theorem b_istore {i : Nat} {x : Int32} (hd : decode (mcode j) pc = .ok (.istore i, 2)) (hn : i < mmax j) (k : B cx kf j d nc ns (pc + 2) (lsto loc i (.int x)) st K f Q) : B cx kf j d nc ns pc loc (.int x :: st) K f Q := by
  intro p l e s m args below meth c ws0 ls H locs n0 s0 mc ms hc h1 h2
  exact lv_istore hc.1.1 hc.1.2.1 hd (lvok_has hc.2.2) hn rfl (fun ls hl => k p l e s m args below meth c ws0 ls H locs n0 s0 mc ms ⟨hc.1, hc.2.1, lvok_sto hl⟩ h1 h2)
theorem b_iinc {i : Nat} {n : Int} {x v : Int32} (hd : decode (mcode j) pc = .ok (.iinc i n, 3)) (hn : i < mmax j) (hx : lnth loc i = some (.int x)) (hv : x + Int32.ofInt n = v) (k : B cx kf j d nc ns (pc + 3) (lsto loc i (.int v)) st K f Q) : B cx kf j d nc ns pc loc st K f Q := by
  intro p l e s m args below meth c ws0 ls H locs n0 s0 mc ms hc h1 h2
  obtain ⟨k0, hk0⟩ := List.getElem?_of_mem (mem_lcl (ad := idn) (q := (i, .int x)) |>.mpr ⟨.int x, hx, rfl⟩)
  exact lv_iinc hc.1.1 hc.1.2.1 hd (lvok_has hc.2.2) hk0 hv hn rfl (fun ls hl => k p l e s m args below meth c ws0 ls H locs n0 s0 mc ms ⟨hc.1, hc.2.1, lvok_sto hl⟩ h1 h2)
theorem b_objInit {idx a pw : Nat} (hd : decode (mcode j) pc = .ok (.invokespecial idx, 3)) (hw : lw_tbl[pw]? = some (Cond.methodLink (tb_RR (mcn j)) idx Lib.objectInit)) (hs : (st.map fun v => v.category).sum ≤ 8) (hd0 : 0 < d) (k : B cx kf j d nc ns (pc + 3) loc st K f Q) : B cx kf j d nc ns pc loc (.ref a :: st) K f Q := by
  intro p l e s m args below meth c ws0 ls H locs n0 s0 mc ms hc h1 h2
  have hts := hc.1.2.2.2.2.2.1
  refine W.objInit hc.1.1 hc.1.2.1 hc.1.2.2.2.2.1 (hts _ (gT_of hw rfl)) (hts _ (gT_of jb_oi rfl)) (hts _ (gT_of jb_oc rfl)) (g := F0 m pc ls (.ref a :: st)) rfl (by show ls.size = _; rw [hc.2.2.1, hc.1.2.2.2.1]) (rest := st) rfl hd (by show 1 ≤ d; omega) (by show 2 * 0 + _ + 12 ≤ 64 * d; omega) ?_
  exact k p l e s m args below meth c ws0 ls H locs n0 s0 mc ms hc h1 h2
theorem b_new {idx ci i1 i2 i3 : Nat} {fs : List Value} (hd : decode (mcode j) pc = .ok (.new idx, 3)) (hw1 : lw_tbl[i1]? = some (Cond.classLink (tb_RR (mcn j)) idx (tb_RR ci))) (hw2 : lw_tbl[i2]? = some (Cond.instantiable (tb_RR ci) (tb_NN ci))) (hw3 : lw_tbl[i3]? = some (Cond.initialized (tb_RR ci))) (hci : ci < 13) (hfs : ∀ j, j < tb_NN ci → defaultValue (tb_ty ci j) = vp_V fs j) (k : ∀ q, B cx kf j d nc ns (pc + 3) loc (.ref q :: st) (K + 1) (upW f K (q, .inr (ci, fs))) Q) : B cx kf j d (nc + 1) (ns + tb_NN ci) pc loc st K f Q := by
  intro p l e s m args below meth c ws0 ls H locs n0 s0 mc ms hc h1 h2
  have hts := hc.1.2.2.2.2.2.1
  refine va_new (T := tb_TT ci) (N := tb_NN ci) (ci := ci) hc.1.1 hc.1.2.1 hts (u_in hci) (tb_ty ci) (tb_ty_ok hci) hc.1.2.2.2.2.1 (hts _ (gT_of hw1 rfl)) (hts _ (gT_of hw2 rfl)) (hts _ (gT_of hw3 rfl)) hc.2.1.1 hc.2.1.2.1 hc.2.1.2.2.1 hc.2.1.2.2.2.1 (fun q hq => Or.inr hq) (vw_get hci) hfs (by show n0 + 1 ≤ mc; omega) (by show s0 + tb_NN ci ≤ ms; omega) hd (fun q H1 hP hD hS => ?_)
  rw [wK_push] at hP hD
  exact k q p l e s m args below meth c ws0 ls H1 locs (n0 + 1) (s0 + tb_NN ci) mc ms ⟨hc.1, ⟨hc.2.1.1, hP, hD, hS, hc.2.1.2.2.2.2⟩, hc.2.2⟩ (by omega) (by omega)
theorem ra_same {U : State} {cA cB : ClassId} {ty : FieldType} (h1 : va_RA U cA ty) (h2 : va_RA U cB ty) : cA = cB := by
  cases ty <;> first | exact Option.some.inj ((show U.vm.findClass _ = some cA from h1).symm.trans h2) | (obtain ⟨_, _, _, _, _, z1⟩ := h1; obtain ⟨_, _, _, _, _, z2⟩ := h2; exact Option.some.inj (z1.symm.trans z2))
theorem b_newa {t0 N i1 : Nat} {atype : ArrayType} {ty : FieldType} {a0 : vp_A} (hd : decode (mcode j) pc = .ok (.newarray atype, 2)) (hw : lw_tbl[i1]? = some (Cond.arrayClass (newarray.typeOf atype))) (hty : newarray.typeOf atype = ty) (ht : ∀ cx : Cx, (tys cx)[t0]? = some (cxA cx t0, ty)) (ha : ∀ cA : ClassId, vp_cell cA a0 = arrV cA N (fun _ => defaultValue ty)) (hN : N ≤ 20000) (hb8 : componentBytes ty ≤ 8) (k : ∀ q, B cx kf j d nc ns (pc + 2) loc (.ref q :: st) (K + 1) (upW f K (q, .inl (cxA cx t0, a0))) Q) : B cx kf j d (nc + 1) (ns + N) pc loc (.int (nI N) :: st) K f Q := by
  intro p l e s m args below meth c ws0 ls H locs n0 s0 mc ms hc h1 h2
  have hts := hc.1.2.2.2.2.2.1
  refine va_newa (n := nI N) hc.1.1 hc.1.2.1 (hts _ (gT_of hw rfl)) hty hc.2.1.1 hc.2.1.2.1 hc.2.1.2.2.1 hc.2.1.2.2.2.1 (fun q hq => Or.inr hq) ha (nI_pos (by omega)) (nI_clamp (by omega)) (Nat.le_trans (Nat.mul_le_mul hN hb8) (by decide)) (by show n0 + 1 ≤ mc; omega) (by show s0 + N ≤ ms; omega) hd (fun q cA H1 hK hP hD hS => ?_)
  have e : cA = cxA cx t0 := ra_same (hK.2 6 (cA, ty) rfl).2 (hc.2.1.1.2 t0 _ (ht cx)).2
  subst e
  rw [wK_push] at hP hD
  exact k q p l e s m args below meth c ws0 ls H1 locs (n0 + 1) (s0 + N) mc ms ⟨hc.1, ⟨hc.2.1.1, hP, hD, hS, hc.2.1.2.2.2.2⟩, hc.2.2⟩ (by omega) (by omega)
theorem b_put {idx ci k i x : Nat} {v : Value} {fs : List Value} (hd : decode (mcode j) pc = .ok (.putfield idx, 3)) (hF : chF j idx ci k = true) (hi : i < K) (he : f i = (x, .inr (ci, fs))) (hfin : (tb_TT ci k).2.2.2 = false ∨ ((tb_TT ci k).2.2.2 = true ∧ (my j).name = "<init>" ∧ (tb_TT ci k).1 = tb_RR (mcn j))) (hn : narrow (tb_ty ci k) v = v) (hfit : fits (tb_ty ci k) v = true) (hl : k < fs.length) (kk : B cx kf j d nc ns (pc + 3) loc st K (upW f i (x, .inr (ci, fs.set k v))) Q) : B cx kf j d nc ns pc loc (v :: .ref x :: st) K f Q := by
  intro p l e s m args below meth c ws0 ls H locs n0 s0 mc ms hc h1 h2
  obtain ⟨hint, hF⟩ := chF_ok hF
  obtain ⟨hw, hkN, h13⟩ := tb_F_use hF
  have hts := hc.1.2.2.2.2.2.1
  have hg : (wK K f)[i]? = some (x, .inr (ci, fs)) := by rw [wK_get hi, he]
  have go : ∀ (H1 : Heap) (locs1 : List Loc), va_P (cxD cx) vwCl ((wK K f).set i (x, .inr (ci, fs.set k v))) H1 → va_D (va_A ws0 s.heap.size) ((wK K f).set i (x, .inr (ci, fs.set k v))) → va_S (va_A ws0 s.heap.size) s.heap H1 locs1 → W p l e (rm d mc ms) s m args below meth c H1 locs1 n0 s0 (MQ below (QK cx ws0 s.heap.size Q) args s mc ms (va_A ws0 s.heap.size)) (F0 m (pc + 3) ls st) := fun H1 locs1 hP hD hS => by
    rw [wK_set hi] at hP hD
    exact kk p l e s m args below meth c ws0 ls H1 locs1 n0 s0 mc ms ⟨hc.1, ⟨hc.2.1.1, hP, hD, hS, hc.2.1.2.2.2.2⟩, hc.2.2⟩ h1 h2
  rcases hfin with z | ⟨z1, z2, z3⟩
  · exact va_put (D := cxD cx) (ci := ci) (v := v) (ty := tb_ty ci k) (C := tb_RR ci) (T := tb_TT ci) (N := tb_NN ci) hc.1.1 hc.1.2.1 hts (u_in h13) (tb_ty ci) (tb_ty_ok h13) (tb_nm h13) hc.1.2.2.2.2.1 hc.2.1.1 hc.2.1.2.1 hc.2.1.2.2.1 hc.2.1.2.2.2.1 i hg (vw_get h13) k hkN (hts _ hw) (fun _ h9 => h9) z (tb_ty_ok h13 k hkN) hn hfit hl hd go
  · exact va_putF (D := cxD cx) (ci := ci) (v := v) (ty := tb_ty ci k) (C := tb_RR ci) (T := tb_TT ci) (N := tb_NN ci) hc.1.1 hc.1.2.1 hts (u_in h13) (tb_ty ci) (tb_ty_ok h13) (tb_nm h13) hc.1.2.2.2.2.1 hc.2.1.1 hc.2.1.2.1 hc.2.1.2.2.1 hc.2.1.2.2.2.1 i hg (vw_get h13) k hkN (hts _ hw) (fun _ h9 => h9) z1 (hc.1.2.2.2.2.2.2.2 z2) z3 (tb_ty_ok h13 k hkN) hn hfit hl hd go
theorem b_get {idx ci k i x : Nat} {v : Value} {fs : List Value} (hd : decode (mcode j) pc = .ok (.getfield idx, 3)) (hF : chF j idx ci k = true) (hi : i < K) (he : f i = (x, .inr (ci, fs))) (hv : fs[k]? = some v) (kk : B cx kf j d nc ns (pc + 3) loc (v :: st) K f Q) : B cx kf j d nc ns pc loc (.ref x :: st) K f Q := by
  intro p l e s m args below meth c ws0 ls H locs n0 s0 mc ms hc h1 h2
  obtain ⟨hint, hF⟩ := chF_ok hF
  obtain ⟨hw, hkN, h13⟩ := tb_F_use hF
  have hts := hc.1.2.2.2.2.2.1
  exact va_get (D := cxD cx) (ci := ci) (v := v) (C := tb_RR ci) (T := tb_TT ci) (N := tb_NN ci) hc.1.1 hc.1.2.1 hts (u_in h13) hc.1.2.2.2.2.1 hc.2.1.1 hc.2.1.2.1 i (by rw [wK_get hi, he]) (vw_get h13) k hkN (hts _ hw) (fun _ h9 => h9) hv hd (kk p l e s m args below meth c ws0 ls H locs n0 s0 mc ms hc h1 h2)
theorem b_alen {i x n : Nat} {g : Nat → Int32} (hd : decode (mcode j) pc = .ok (.arraylength, 1)) (hi : i < K) (he : f i = (x, .inl (cxA cx 0, n, .inl g))) (kk : B cx kf j d nc ns (pc + 1) loc (.int (Int32.ofNat n) :: st) K f Q) : B cx kf j d nc ns pc loc (.ref x :: st) K f Q := by
  intro p l e s m args below meth c ws0 ls H locs n0 s0 mc ms hc h1 h2
  exact va_alen hc.1.1 hc.1.2.1 hc.2.1.1 hc.2.1.2.1 i 0 (by rw [wK_get hi, he]) (ty := .int) rfl rfl hd (kk p l e s m args below meth c ws0 ls H locs n0 s0 mc ms hc h1 h2)
theorem b_iald {i x n : Nat} {g : Nat → Int32} {y : Int32} (hd : decode (mcode j) pc = .ok (.iaload, 1)) (hi : i < K) (he : f i = (x, .inl (cxA cx 0, n, .inl g))) (hin : vp_in y n) (kk : B cx kf j d nc ns (pc + 1) loc (.int (g y.toNatClampNeg) :: st) K f Q) : B cx kf j d nc ns pc loc (.int y :: .ref x :: st) K f Q := by
  intro p l e s m args below meth c ws0 ls H locs n0 s0 mc ms hc h1 h2
  exact va_iald hc.1.1 hc.1.2.1 hc.2.1.1 hc.2.1.2.1 i 0 (by rw [wK_get hi, he]) rfl hin hd (kk p l e s m args below meth c ws0 ls H locs n0 s0 mc ms hc h1 h2)
theorem b_iast {i x n : Nat} {g : Nat → Int32} {y z : Int32} (hd : decode (mcode j) pc = .ok (.iastore, 1)) (hi : i < K) (he : f i = (x, .inl (cxA cx 0, n, .inl g))) (hin : vp_in y n) (kk : B cx kf j d nc ns (pc + 1) loc st K (upW f i (x, .inl (cxA cx 0, n, .inl (upd g y.toNatClampNeg z)))) Q) : B cx kf j d nc ns pc loc (.int z :: .int y :: .ref x :: st) K f Q := by
  intro p l e s m args below meth c ws0 ls H locs n0 s0 mc ms hc h1 h2
  refine va_iast hc.1.1 hc.1.2.1 hc.2.1.1 hc.2.1.2.1 hc.2.1.2.2.1 hc.2.1.2.2.2.1 i 0 (by rw [wK_get hi, he]) rfl hin hd (fun H1 locs1 hP hD hS => ?_)
  rw [wK_set hi] at hP hD
  exact kk p l e s m args below meth c ws0 ls H1 locs1 n0 s0 mc ms ⟨hc.1, ⟨hc.2.1.1, hP, hD, hS, hc.2.1.2.2.2.2⟩, hc.2.2⟩ h1 h2
theorem b_bast {i x n : Nat} {g : Nat → Int32} {y z : Int32} (hd : decode (mcode j) pc = .ok (.bastore, 1)) (hi : i < K) (he : f i = (x, .inl (cxA cx 3, n, .inl g))) (hin : vp_in y n) (kk : B cx kf j d nc ns (pc + 1) loc st K (upW f i (x, .inl (cxA cx 3, n, .inl (upd g y.toNatClampNeg (vp_nar .byte z))))) Q) : B cx kf j d nc ns pc loc (.int z :: .int y :: .ref x :: st) K f Q := by
  intro p l e s m args below meth c ws0 ls H locs n0 s0 mc ms hc h1 h2
  refine va_bast hc.1.1 hc.1.2.1 hc.2.1.1 hc.2.1.2.1 hc.2.1.2.2.1 hc.2.1.2.2.2.1 i 3 (by rw [wK_get hi, he]) rfl hin hd (fun H1 locs1 hP hD hS => ?_)
  rw [wK_set hi] at hP hD
  exact kk p l e s m args below meth c ws0 ls H1 locs1 n0 s0 mc ms ⟨hc.1, ⟨hc.2.1.1, hP, hD, hS, hc.2.1.2.2.2.2⟩, hc.2.2⟩ h1 h2
theorem b_mmax {idx hint : Nat} {x y : Int32} (hd : decode (mcode j) pc = .ok (.invokestatic idx, 3)) (hC : (mcn j, idx, 237, 1, hint) ∈ tb_C) (hsm : (st.map fun v => v.category).sum ≤ 8) (hd0 : 0 < d) (k : B cx kf j d nc ns (pc + 3) loc (.int (if x < y then y else x) :: st) K f Q) : B cx kf j d nc ns pc loc (.int y :: .int x :: st) K f Q := by
  intro p l e s m args below meth c ws0 ls H locs n0 s0 mc ms hc h1 h2
  have hts := hc.1.2.2.2.2.2.1
  have hl := List.all_eq_true.mp tb_C_ok _ hC
  simp only [ct_ok, decide_eq_true_eq] at hl
  have hm := List.all_eq_true.mp mm_all 237 (by simp)
  simp only [mm_ok, Bool.and_eq_true, decide_eq_true_eq] at hm
  have w1 : Cond.methodLink (tb_RR (mcn j)) idx Lib.Math.max.name ∈ gT := by have := gT_of hl rfl; unfold ml_w at this; rw [my_237] at this; exact this
  have w2 : Cond.static Lib.Math.max.name ∈ gT := by have := gT_of hm.1.1 rfl; unfold mw_stat at this; rw [my_237] at this; exact this
  exact va_mmax hc.1.1 hc.1.2.1 (by rw [hc.2.2.1]; exact hc.1.2.2.2.1) hc.1.2.2.2.2.1 (hts _ w1) (hts _ w2) (hts _ (gT_of hm.1.2 rfl)) (hts _ (gT_of hm.2 rfl)) (by show 1 ≤ d; omega) (by show _ + 13 ≤ 64 * d; omega) (by show n0 ≤ mc; omega) (by show s0 ≤ ms; omega) hd (k p l e s m args below meth c ws0 ls H locs n0 s0 mc ms hc h1 h2)
/-! ends -/
theorem qk_end {ws0 : va_W} {p : Program} {s t : State} {m : MethodId} {args : Array Value} {meth : Method} {c : Code} {ls : Array Slot} {H : Heap} {locs : List Loc} (hc : Bc cx kf j ws0 K f loc p s m args meth c ls H locs) {r : Option Value} (hq : Q r K f) (ht : t.heap = H) (hW : s.WarmedH t.vm) : QK cx ws0 s.heap.size Q args s (.returned r) t :=
  ⟨⟨r, K, f, rfl, hq, by rw [ht]; exact hc.2.1.2.1, va_K.moved hW.alike hc.2.1.1, hc.2.1.2.2.1⟩, hc.2.1.2.2.2.1.F ht⟩
theorem b_vret (hd : decode (mcode j) pc = .ok (.return_, 1)) (hr : mret j = none) (hq : Q none K f) : B cx kf j d nc ns pc loc [] K f Q := by
  intro p l e s m args below meth c ws0 ls H locs n0 s0 mc ms hc h1 h2
  refine W.widen (k := mc) (n := ms) (by omega) (by omega) ?_
  exact W.vret hc.1.1 hc.1.2.1 (hc.1.2.2.1.trans hr) (fun t ht hW => qk_end (r := none) hc hq ht hW) hc.2.1.2.2.2.1.2.2 hd hc.1.2.2.2.2.2.2.1
theorem b_aret {x : Nat} {n : String} (hd : decode (mcode j) pc = .ok (.areturn, 1)) (hr : mret j = some (.object n)) (hq : Q (some (.ref x)) K f) : B cx kf j d nc ns pc loc [.ref x] K f Q := by
  intro p l e s m args below meth c ws0 ls H locs n0 s0 mc ms hc h1 h2
  refine W.widen (k := mc) (n := ms) (by omega) (by omega) ?_
  exact W.aret hc.1.1 hc.1.2.1 (hc.1.2.2.1.trans hr) (Or.inl ⟨n, rfl⟩) (Or.inr ⟨x, rfl⟩) (fun t ht hW => qk_end (r := some (.ref x)) hc hq ht hW) hc.2.1.2.2.2.1.2.2 hd hc.1.2.2.2.2.2.2.1
/-! a contract out of its first instruction -/
theorem lent_args2 {vs : List Value} (i : Nat) (v : Value) (h : lnth (lent vs) i = some v) : (i, v) ∈ lv_args 0 vs := by
  have := lent_args (ad := idn) (vs := vs) i 0 v h
  rw [Nat.zero_add, cv_id, show vs.map (cv idn) = vs from (List.map_congr_left (fun v _ => cv_id)).trans (List.map_id vs)] at this
  exact this
theorem mk_of {vs : List Value} (hmk : mk_ok j = true) (hn : (lent vs).length ≤ mmax j) (k : B cx kf j d nc ns 0 (lent vs) [] K f Q) : MK cx kf j d nc ns vs K f Q := by
  intro l sz
  obtain ⟨w1, w2, w3, w4, w5, w6⟩ := mk_use hmk
  refine Met.ofW (cc := mcode j) (maxL := mmax j) (ret := mret j) w6 (ws' := gT) rfl ?_
  intro p e s m args below meth c s₁ B hml hv
  obtain ⟨rfl, hsz, hP, hK, hD0, hKw⟩ := hv
  have hts := atoms_spec (ws := wsj j) B.pre
  have hown : s.vm.findClass (my j).cls = some m.cls := findClass_of_methodNamed B.named
  subst hsz
  have ll : (lg_sl vs).length = (lent vs).length := by
    have := lent_len (ad := idn) (vs := vs)
    rw [show vs.map (cv idn) = vs from (List.map_congr_left (fun v _ => cv_id)).trans (List.map_id vs)] at this
    exact this
  have hl := lv_entry vs (n := mmax j) (by rw [ll]; exact hn)
  rw [lg_entry_eq]
  generalize (lg_sl vs ++ List.replicate (mmax j - (lg_sl vs).length) Slot.unset).toArray = ls at hl ⊢
  have hlv : lvok idn ls (mmax j) (lent vs) := ⟨hl.1, hl.2.1, fun i v hv => by
    rw [cv_id]; exact hl.2.2 _ (lent_args2 i v hv)⟩
  exact k p l e s m _ below meth c (wK K f) ls s.heap [] 0 0 nc ns ⟨⟨B.exec, B.bytes, B.returns, hml, by rw [w5]; exact hown, fun w hw => hts w (List.mem_cons_of_mem _ hw), B.notSynchronized, fun z => (name_of_methodNamed B.named B.method).1.trans z⟩, ⟨hK, hP, hD0.self, va_S.rf, hKw⟩, hlv⟩ (by omega) (by omega)
theorem blindK {vs : List Value} {sz : Nat} : FrameBlind (va_Pc vs (fun U => U.heap.size = sz ∧ va_P (cxD cx) vwCl (wK K f) U.heap ∧ va_K (cxD cx) vwCl (tys cx) U ∧ va_D (fun _ => True) (wK K f) ∧ Kw kf U)) := by
  intro av U g mk q
  obtain ⟨q1, q2, q3, q4, q5, q6⟩ := q
  refine ⟨q1, q2, q3, va_K.moved (u := U) (U := U.calling g mk av) (Vm.Alike.refl U.vm) q4, q5, fun z => ?_⟩
  obtain ⟨a1, a2, a3⟩ := q6 z
  exact ⟨fun q hq hk => va_Nw.same (U := U.calling g mk av) rfl rfl (a1 q hq hk), va_AO.moved (U := U.calling g mk av) (Vm.Alike.refl U.vm) a2, va_AO.moved (U := U.calling g mk av) (Vm.Alike.refl U.vm) a3⟩
theorem Kw_warm {s U : State} (hW : s.WarmedH U.vm) (h : Kw kf s) : Kw kf U := fun z => by
  obtain ⟨a1, a2, a3⟩ := h z
  exact ⟨fun q hq hk => (a1 q hq hk).warmM hW, a2.moved hW.alike, a3.moved hW.alike⟩
theorem b_back {kf' : Bool} {nc' ns' x : Nat} {vs : List Value} {Q' : Option Value → Nat → (Nat → Nat × va_E) → Prop} (kk : ∀ K' f', Q' none K' f' → B cx kf j d nc ns (pc + 3) loc st K' f' Q)
    {p : Program} {l : Launch} {e : Jvm.Env} {s : State} {m : MethodId} {args : Array Value} {below : List Frame} {meth : Method} {c : Code} {ws0 : va_W} {ls : Array Slot} {H : Heap} {locs : List Loc} {n0 s0 mc ms : Nat} {st0 : List Value} {av : Array Value} (hq' : ∀ r K' f', Q' r K' f' → r = none) (hc : Bc cx kf j ws0 K f loc p s m args meth c ls H locs) (h1 : n0 + (nc + nc') ≤ mc) (h2 : s0 + (ns + ns') ≤ ms) (hAA : ∀ q, va_A (wK K f) H.size q → va_A ws0 s.heap.size q)
    (hr : va_Run p l e (rm d mc ms) s m args below meth c H locs n0 s0 nc' ns' (F0 m pc ls st0) st (QK cx (wK K f) H.size Q' av) (va_A (wK K f) H.size)) :
    W p l e (rm d mc ms) s m args below meth c H locs n0 s0 (MQ below (QK cx ws0 s.heap.size Q) args s mc ms (va_A ws0 s.heap.size)) (F0 m pc ls st0) := by
  intro T hT X
  obtain ⟨v, st₀, t, T', L, g0, X', hL, e1, e2, ⟨⟨r, K', f', hv, hq, hP, hK, hD⟩, hz, hk⟩, stp⟩ := hr T hT X
  cases hv
  obtain rfl := hq' _ _ _ hq
  rw [g0] at hz hk
  have hS := hc.2.1.2.2.2.1
  have hS' : va_S (va_A ws0 s.heap.size) s.heap T'.heap (locs ++ L) := ⟨Nat.le_trans hS.1 (by rw [e1]; exact hz), fun q z1 z2 => by rw [e1, hk q (Nat.lt_of_lt_of_le z1 hS.1) (fun z => z2 (hAA q z))]; exact hS.2.1 q z1 z2, fun q hq => by
      rcases List.mem_append.mp hq with z | z
      · exact hS.2.2 q z
      · exact hAA _ (hL q z)⟩
  obtain ⟨t2, a1, b1⟩ := kk K' f' hq p l e s m args below meth c ws0 ls T'.heap (locs ++ L) (n0 + nc') (s0 + ns') mc ms ⟨hc.1, ⟨hc.2.1.1, by rw [e1]; exact hP, hD.weaken (fun k q _ z => hAA _ z), hS', hc.2.1.2.2.2.2⟩, hc.2.2⟩ (by omega) (by omega) T' rfl X'
  exact ⟨t2, stp t2 a1, b1⟩
theorem b_AA {p : Program} {s : State} {m : MethodId} {args : Array Value} {meth : Method} {c : Code} {ws0 : va_W} {ls : Array Slot} {H : Heap} {locs : List Loc} (hc : Bc cx kf j ws0 K f loc p s m args meth c ls H locs) : ∀ q, va_A (wK K f) H.size q → va_A ws0 s.heap.size q := by
  intro q z
  rcases z with ⟨k, e, z⟩ | z
  · exact hc.2.1.2.2.1.2 k (q, e) z
  · exact Or.inr (Nat.le_trans hc.2.1.2.2.2.1.1 z)
theorem b_callI {idx j' hint nc' ns' x : Nat} {vs : List Value} {Q' : Option Value → Nat → (Nat → Nat × va_E) → Prop} (hd : decode (mcode j) pc = .ok (.invokespecial idx, 3)) (hl : lw_tbl[hint]? = some (Cond.methodLink (tb_RR (mcn j)) idx (my j'))) (hmk : mk_ok j' = true) (hin : (decide (lw_tbl[(mh j').2.2.1]? = some (mw_inst j')) && decide ((my j').name = "<init>")) = true) (hre : mret j' = none) (hnp : (parseMethodDescriptor (my j').desc).map (fun q => q.parameters.length) = some vs.length) (hsm : (st.map fun v => v.category).sum ≤ 8) (hd0 : 0 < d)
    (hM : MK cx kf j' (d - 1) nc' ns' (.ref x :: vs) K f Q') (hq' : ∀ r K' f', Q' r K' f' → r = none) (kk : ∀ K' f', Q' none K' f' → B cx kf j d nc ns (pc + 3) loc st K' f' Q) : B cx kf j d (nc + nc') (ns + ns') pc loc (vs.reverse ++ .ref x :: st) K f Q := by
  intro p l e s m args below meth c ws0 ls H locs n0 s0 mc ms hc h1 h2
  have hAA := b_AA hc
  obtain ⟨w1, w2, w3, w4, w5, w6⟩ := mk_use hmk
  simp only [Bool.and_eq_true, decide_eq_true_eq] at hin
  have hts := hc.1.2.2.2.2.2.1
  have cb : CallB (rm d mc ms) s args (tb_RR (mcn j)) idx (my j') (mcode j') (mmax j') none (wsj j') (rm (d - 1) nc' ns') nc' ns' vs.length :=
    callB_of vs.length hts (good_wsj hmk) (ws' := gT) (by unfold wsj; rw [hre]) rfl rfl (hts _ w2) (hts _ (gT_of hl rfl)) ⟨w4.1, w4.2, hnp⟩ ⟨by show d - 1 + 1 ≤ d; omega, by show 8 + (mmax j' + 11) + 64 * (d - 1) ≤ 64 * d; omega⟩
  have run := va_runI (p := p) (l := l) (e := e) (below := below) (meth := meth) (locs := locs) (cells := n0) (slots := s0) (R := rm d mc ms) (H := H) (b := x) (As := vs) (rest := st) (g := F0 m pc ls (vs.reverse ++ .ref x :: st)) (Ts := gT) (own := tb_RR (mcn j)) (nL := mmax j) (cc := mcode j)
    ⟨hc.1.1, hc.1.2.1, hc.1.2.2.2.1, hc.1.2.2.2.2.1, hts⟩ (hM l H.size) ⟨cb, hin.2, hts _ (gT_of hin.1 rfl)⟩
    ⟨blindK, fun U hU hW => ⟨rfl, by rw [hU], by rw [hU]; exact hc.2.1.2.1, va_K.moved hW.alike hc.2.1.1, hc.2.1.2.2.1.weaken (fun _ _ _ _ => trivial), Kw_warm hW hc.2.1.2.2.2.2⟩⟩
    rfl rfl hc.2.2.1 rfl (lv_room hsm) hd ⟨by show n0 + nc' ≤ mc; omega, by show s0 + ns' ≤ ms; omega⟩
  exact b_back (kf' := kf) (x := x) (vs := vs) kk hq' hc h1 h2 hAA run
theorem b_callN {idx j' hint nc' ns' x : Nat} {vs : List Value} {Q' : Option Value → Nat → (Nat → Nat × va_E) → Prop} (hkf : kf = true) (hd : decode (mcode j) pc = .ok (.invokespecial idx, 3)) (hC : (mcn j, idx, j', 4, hint) ∈ tb_C) (hmk : mk_ok j' = true) (hin : (decide (lw_tbl[(mh j').2.2.1]? = some (mw_inst j')) && decide ((my j').name = "<init>")) = true) (hre : mret j' = none) (hnp : (parseMethodDescriptor (my j').desc).map (fun q => q.parameters.length) = some vs.length) (hsm : (st.map fun v => v.category).sum ≤ 8) (hd0 : 0 < d)
    (hM : MK cx kf j' (d - 1) nc' ns' (.ref x :: vs) K f Q') (hq' : ∀ r K' f', Q' r K' f' → r = none) (kk : ∀ K' f', Q' none K' f' → B cx kf j d nc ns (pc + 3) loc st K' f' Q) : B cx kf j d (nc + nc') (ns + ns') pc loc (vs.reverse ++ .ref x :: st) K f Q := by
  intro p l e s m args below meth c ws0 ls H locs n0 s0 mc ms hc h1 h2
  have hAA := b_AA hc
  obtain ⟨w1, w2, w3, w4, w5, w6⟩ := mk_use hmk
  simp only [Bool.and_eq_true, decide_eq_true_eq] at hin
  have hts := hc.1.2.2.2.2.2.1
  have hnw := (hc.2.1.2.2.2.2 hkf).1 _ hC rfl
  have cb : va_CN (rm d mc ms) s args (tb_RR (mcn j)) idx (my j') "FiveTouch" (mcode j') (mmax j') none (wsj j') (rm (d - 1) nc' ns') nc' ns' vs.length :=
    va_cnB vs.length hts (good_wsj hmk) (ws' := gT) (by unfold wsj; rw [hre]) rfl rfl hnw (hts _ w2) ⟨w4.1, w4.2, hnp⟩ ⟨by show d - 1 + 1 ≤ d; omega, by show 8 + (mmax j' + 11) + 64 * (d - 1) ≤ 64 * d; omega⟩
  have run := va_runIN (p := p) (l := l) (e := e) (below := below) (meth := meth) (locs := locs) (cells := n0) (slots := s0) (R := rm d mc ms) (H := H) (b := x) (As := vs) (rest := st) (g := F0 m pc ls (vs.reverse ++ .ref x :: st)) (Ts := gT) (own := tb_RR (mcn j)) (nL := mmax j) (cc := mcode j)
    ⟨hc.1.1, hc.1.2.1, hc.1.2.2.2.1, hc.1.2.2.2.2.1, hts⟩ (hM l H.size) ⟨cb, hin.2, hts _ (gT_of hin.1 rfl)⟩
    ⟨blindK, fun U hU hW => ⟨rfl, by rw [hU], by rw [hU]; exact hc.2.1.2.1, va_K.moved hW.alike hc.2.1.1, hc.2.1.2.2.1.weaken (fun _ _ _ _ => trivial), Kw_warm hW hc.2.1.2.2.2.2⟩⟩
    rfl rfl hc.2.2.1 rfl (lv_room hsm) hd ⟨by show n0 + nc' ≤ mc; omega, by show s0 + ns' ≤ ms; omega⟩
  exact b_back (kf' := kf) (x := x) (vs := vs) kk hq' hc h1 h2 hAA run
end BR
