/-! how many arguments a method takes; calls by the tables -/
def tb_np : List Nat := [0, 4, 3, 4, 4, 3, 1, 0, 0, 0, 1, 1, 0, 1, 2, 2, 1, 1, 1, 2, 1, 1, 1, 1, 2, 3, 3, 4, 1, 1, 1, 0, 0, 2, 1, 1, 1, 0, 1, 1, 1, 1, 1, 1, 1, 3, 0, 0, 0, 1, 1, 2, 1, 0, 0, 4, 1, 2, 1, 3, 0, 0, 1, 1, 2, 2, 0, 1, 1, 2, 0, 1, 1, 0, 0, 0, 0, 1, 2, 1, 0, 0, 0, 1, 0, 1, 5, 5, 6, 3, 2, 1, 2, 1, 0, 1, 1, 0, 5, 4, 1, 0, 5, 5, 3, 2, 2, 5, 1, 0, 0, 0, 0, 1, 2, 2, 0, 0, 1, 2, 2, 1, 2, 1, 1, 1, 1, 5, 1, 1, 2, 2, 1, 1, 1, 1, 0, 1, 1, 6, 1, 0, 3, 2, 3, 1, 1, 2, 1, 0, 1, 1, 0, 0, 1, 2, 1, 3, 5, 4, 6, 5, 5, 5, 3, 2, 2, 0, 0, 5, 1, 1, 1, 2, 1, 0, 0, 1, 1, 0, 1, 0, 1, 1, 1, 1, 1, 1, 0, 0, 0, 1, 1, 1, 2, 1, 1, 1, 1, 1, 1, 1, 1, 2, 0, 2, 1, 1, 2, 2, 0, 0, 1, 1, 1, 2, 2, 1, 2, 0, 2, 1, 1, 1, 1, 1, 1, 5, 1, 1, 2, 1, 2, 1, 1, 0, 1, 2, 2, 2, 2, 0, 1, 0, 0, 2, 2, 2, 1, 2, 2, 3, 1]
def np_f (j : Nat) : Bool := decide ((parseMethodDescriptor (my j).desc).map (fun q => q.parameters.length) = some (tb_np.getD j 0))
theorem np_ok_0 : ((rg 0).all np_f) = true := by decide +kernel
theorem np_ok_1 : ((rg 1).all np_f) = true := by decide +kernel
theorem np_ok_2 : ((rg 2).all np_f) = true := by decide +kernel
theorem np_ok_3 : ((rg 3).all np_f) = true := by decide +kernel
theorem np_ok_4 : ((rg 4).all np_f) = true := by decide +kernel
theorem np_ok_5 : ((rg 5).all np_f) = true := by decide +kernel
theorem np_ok_6 : ((rg 6).all np_f) = true := by decide +kernel
theorem np_ok_7 : ((rg 7).all np_f) = true := by decide +kernel
theorem np_ok_8 : ((rg 8).all np_f) = true := by decide +kernel
theorem np_ok : ((List.range 252).all np_f) = true := by
  refine List.all_eq_true.mpr fun k hk => ?_
  have hk := List.mem_range.mp hk
  have key : ∀ i, ((rg i).all np_f) = true → k / 28 = i → np_f k = true := fun i hi e => List.all_eq_true.mp hi k (rg_mem e)
  by_cases c0 : k / 28 = 0
  · exact key _ np_ok_0 c0
  by_cases c1 : k / 28 = 1
  · exact key _ np_ok_1 c1
  by_cases c2 : k / 28 = 2
  · exact key _ np_ok_2 c2
  by_cases c3 : k / 28 = 3
  · exact key _ np_ok_3 c3
  by_cases c4 : k / 28 = 4
  · exact key _ np_ok_4 c4
  by_cases c5 : k / 28 = 5
  · exact key _ np_ok_5 c5
  by_cases c6 : k / 28 = 6
  · exact key _ np_ok_6 c6
  by_cases c7 : k / 28 = 7
  · exact key _ np_ok_7 c7
  by_cases c8 : k / 28 = 8
  · exact key _ np_ok_8 c8
  omega
theorem ct_v : (tb_C.all (fun q => !(q.2.2.2.1 == 0) || !decide (mcn q.2.2.1 < 13) || decide ((my q.2.2.1).name ≠ "<init>") && decide ((mh q.2.2.1).1 = 0) && decide (q.2.2.1 < 252))) = true := by decide +kernel
theorem ct_s : (tb_C.all (fun q => !(q.2.2.2.1 == 1 || q.2.2.2.1 == 2) || !decide (mcn q.2.2.1 < 13) || decide ((mh q.2.2.1).1 = 1) && decide (q.2.2.1 < 252))) = true := by decide +kernel
theorem use_np {k : Nat} (hk : k < 252) : (parseMethodDescriptor (my k).desc).map (fun q => q.parameters.length) = some (tb_np.getD k 0) := by
  have := List.all_eq_true.mp np_ok k (List.mem_range.mpr hk)
  simpa only [np_f, decide_eq_true_eq] using this
theorem use_mk {k : Nat} (hk : k < 252) (hc : mcn k < 13) : mk_ok k = true := by
  have := List.all_eq_true.mp mk_all k (List.mem_range.mpr hk)
  simp only [mk_f1, Bool.or_eq_true, decide_eq_true_eq] at this
  rcases this with h | h
  · omega
  · exact h
theorem use_v {k own idx hint : Nat} (hc : mcn k < 13) (h : (own, idx, k, 0, hint) ∈ tb_C) : mk_ok k = true ∧ mk_v k = true ∧ k < 252 := by
  have h1 := List.all_eq_true.mp ct_v _ h
  simp only [beq_self_eq_true, Bool.not_true, Bool.false_or, hc, decide_true, Bool.and_eq_true, decide_eq_true_eq] at h1
  refine ⟨use_mk h1.2 hc, ?_, h1.2⟩
  have := List.all_eq_true.mp mk_all2 k (List.mem_range.mpr h1.2)
  unfold mk_f2 at this
  rw [h1.1.2] at this
  simp only [Bool.or_eq_true, decide_eq_true_eq] at this
  rcases this with h | h | h
  · omega
  · exact absurd h h1.1.1
  · exact h
theorem use_s {k own idx hint t : Nat} (ht : t = 1 ∨ t = 2) (hc : mcn k < 13) (h : (own, idx, k, t, hint) ∈ tb_C) : mk_ok k = true ∧ mk_s k = true ∧ k < 252 := by
  have h1 := List.all_eq_true.mp ct_s _ h
  have h2 : decide ((mh k).1 = 1) && decide (k < 252) = true := by
    rcases ht with rfl | rfl <;> simpa [hc] using h1
  simp only [Bool.and_eq_true, decide_eq_true_eq] at h2
  refine ⟨use_mk h2.2 hc, ?_, h2.2⟩
  have := List.all_eq_true.mp mk_all2 k (List.mem_range.mpr h2.2)
  unfold mk_f2 at this
  rw [h2.1] at this
  simp only [Bool.or_eq_true, decide_eq_true_eq] at this
  rcases this with h | h
  · omega
  · exact h
