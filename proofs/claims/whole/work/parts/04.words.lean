/-! which words of the tables each instruction may use -/
def gT : List Cond := lw_tbl.filter goodWord
theorem gT_of {w : Cond} {i : Nat} (h : lw_tbl[i]? = some w) (hg : goodWord w = true) : w ∈ gT := List.mem_filter.mpr ⟨List.mem_of_getElem? h, hg⟩
def fl_w (q : Nat × Nat × Nat × Nat × Nat) : Cond := Cond.fieldLink (tb_RR q.1) q.2.1 (tb_TT q.2.2.1 q.2.2.2.1).1 (tb_TT q.2.2.1 q.2.2.2.1).2.1 (tb_TT q.2.2.1 q.2.2.2.1).2.2.1
theorem tb_F_ok : tb_F.all (fun q => decide (lw_tbl[q.2.2.2.2]? = some (fl_w q)) && decide (q.2.2.2.1 < tb_NN q.2.2.1) && decide (q.2.2.1 < 13)) = true := by decide +kernel
def ci_w (q : Nat × Nat × Int32 × Nat) : Cond := Cond.constant (tb_RR q.1) q.2.1 q.2.2.1
theorem tb_KI_ok : tb_KI.all (fun q => decide (lw_tbl[q.2.2.2]? = some (ci_w q)) && goodWord (ci_w q)) = true := by decide +kernel
def cl_w (q : Nat × Nat × Int64 × Nat) : Cond := Cond.constantLong (tb_RR q.1) q.2.1 q.2.2.1
theorem tb_KL_ok : tb_KL.all (fun q => decide (lw_tbl[q.2.2.2]? = some (cl_w q)) && goodWord (cl_w q)) = true := by decide +kernel
/-- a method's own words: its code, instance or static, what it selects, its class made ready -/
def mw_code (j : Nat) : Cond := Cond.code (my j) (mcode j) (mmax j) (mret j)
def mw_inst (j : Nat) : Cond := Cond.instanceMethod (my j)
def mw_stat (j : Nat) : Cond := Cond.static (my j)
def mw_sel (j : Nat) : Cond := Cond.selects (my j).cls (my j) (my j)
def mw_init (j : Nat) : Cond := Cond.initialized (my j).cls
def is_code (o : Option Cond) : Bool := match o with | some (.code _ _ _ _) => true | _ => false
theorem is_code_ok {j : Nat} (h : is_code (lw_tbl[(mh j).2.1]?) = true) : lw_tbl[(mh j).2.1]? = some (mw_code j) := by
  unfold mw_code my mcode mmax mret me
  generalize lw_tbl[(mh j).2.1]? = o at h
  match o, h with
  | some (.code y b n r), _ => rfl
def mk_ok (j : Nat) : Bool := is_code (lw_tbl[(mh j).2.1]?) && decide (lw_tbl[(mh j).2.2.2.2.1]? = some (mw_init j)) && decide (mmax j ≤ 45) && decide (tb_RR (mcn j) = (my j).cls) && decide ((my j).cls ≠ "java/lang/invoke/MethodHandle") && decide ((my j).cls ≠ "java/lang/invoke/VarHandle") && plainName (my j).cls
def mk_v (j : Nat) : Bool := decide (lw_tbl[(mh j).2.2.1]? = some (mw_inst j)) && decide (lw_tbl[(mh j).2.2.2.1]? = some (mw_sel j)) && decide (mcn j < 13)
def mk_s (j : Nat) : Bool := decide (lw_tbl[(mh j).2.2.1]? = some (mw_stat j))
def rg (i : Nat) : List Nat := (List.range 28).map (fun k => 28 * i + k)
theorem rg_mem {i k : Nat} (h : k / 28 = i) : k ∈ rg i := List.mem_map.mpr ⟨k % 28, List.mem_range.mpr (Nat.mod_lt _ (by decide)), by omega⟩
def mk_f1 (j : Nat) : Bool := decide (13 ≤ mcn j) || mk_ok j
def mk_f2 (j : Nat) : Bool := decide (13 ≤ mcn j) || match (mh j).1 with | 0 => decide ((my j).name = "<init>") || mk_v j | _ => mk_s j
theorem mk_all_0 : ((rg 0).all mk_f1) = true := by decide +kernel
theorem mk_all_1 : ((rg 1).all mk_f1) = true := by decide +kernel
theorem mk_all_2 : ((rg 2).all mk_f1) = true := by decide +kernel
theorem mk_all_3 : ((rg 3).all mk_f1) = true := by decide +kernel
theorem mk_all_4 : ((rg 4).all mk_f1) = true := by decide +kernel
theorem mk_all_5 : ((rg 5).all mk_f1) = true := by decide +kernel
theorem mk_all_6 : ((rg 6).all mk_f1) = true := by decide +kernel
theorem mk_all_7 : ((rg 7).all mk_f1) = true := by decide +kernel
theorem mk_all_8 : ((rg 8).all mk_f1) = true := by decide +kernel
theorem mk_all : ((List.range 252).all mk_f1) = true := by
  refine List.all_eq_true.mpr fun k hk => ?_
  have hk := List.mem_range.mp hk
  have key : ∀ i, ((rg i).all mk_f1) = true → k / 28 = i → mk_f1 k = true := fun i hi e => List.all_eq_true.mp hi k (rg_mem e)
  by_cases c0 : k / 28 = 0
  · exact key _ mk_all_0 c0
  by_cases c1 : k / 28 = 1
  · exact key _ mk_all_1 c1
  by_cases c2 : k / 28 = 2
  · exact key _ mk_all_2 c2
  by_cases c3 : k / 28 = 3
  · exact key _ mk_all_3 c3
  by_cases c4 : k / 28 = 4
  · exact key _ mk_all_4 c4
  by_cases c5 : k / 28 = 5
  · exact key _ mk_all_5 c5
  by_cases c6 : k / 28 = 6
  · exact key _ mk_all_6 c6
  by_cases c7 : k / 28 = 7
  · exact key _ mk_all_7 c7
  by_cases c8 : k / 28 = 8
  · exact key _ mk_all_8 c8
  omega
theorem mk_all2_0 : ((rg 0).all mk_f2) = true := by decide +kernel
theorem mk_all2_1 : ((rg 1).all mk_f2) = true := by decide +kernel
theorem mk_all2_2 : ((rg 2).all mk_f2) = true := by decide +kernel
theorem mk_all2_3 : ((rg 3).all mk_f2) = true := by decide +kernel
theorem mk_all2_4 : ((rg 4).all mk_f2) = true := by decide +kernel
theorem mk_all2_5 : ((rg 5).all mk_f2) = true := by decide +kernel
theorem mk_all2_6 : ((rg 6).all mk_f2) = true := by decide +kernel
theorem mk_all2_7 : ((rg 7).all mk_f2) = true := by decide +kernel
theorem mk_all2_8 : ((rg 8).all mk_f2) = true := by decide +kernel
theorem mk_all2 : ((List.range 252).all mk_f2) = true := by
  refine List.all_eq_true.mpr fun k hk => ?_
  have hk := List.mem_range.mp hk
  have key : ∀ i, ((rg i).all mk_f2) = true → k / 28 = i → mk_f2 k = true := fun i hi e => List.all_eq_true.mp hi k (rg_mem e)
  by_cases c0 : k / 28 = 0
  · exact key _ mk_all2_0 c0
  by_cases c1 : k / 28 = 1
  · exact key _ mk_all2_1 c1
  by_cases c2 : k / 28 = 2
  · exact key _ mk_all2_2 c2
  by_cases c3 : k / 28 = 3
  · exact key _ mk_all2_3 c3
  by_cases c4 : k / 28 = 4
  · exact key _ mk_all2_4 c4
  by_cases c5 : k / 28 = 5
  · exact key _ mk_all2_5 c5
  by_cases c6 : k / 28 = 6
  · exact key _ mk_all2_6 c6
  by_cases c7 : k / 28 = 7
  · exact key _ mk_all2_7 c7
  by_cases c8 : k / 28 = 8
  · exact key _ mk_all2_8 c8
  omega
