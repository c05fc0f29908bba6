/-! the code of the methods, as lists (wip/gen/code.py) -/
def bX9_forget : Nat → List Ins := fun pc => match pc with
  | 0 => [(.aload_n 0, 0, 0, 0, 0), (.iconst 0, 0, 0, 0, 0), (.putfield 57, 9, 13, 0, 0), (.return_, 0, 0, 0, 0)]
  | _ => []
theorem kX9_forget (pc : Nat) : chk 70 (bX9_forget pc) pc = true := by
  unfold bX9_forget; split
  · decide +kernel
  · rfl
def bX9_isDue : Nat → List Ins := fun pc => match pc with
  | 0 => [(.aload_n 0, 0, 0, 0, 0), (.getfield 57, 9, 13, 0, 0), (.iload_n 1, 0, 0, 0, 0), (.iand, 0, 0, 0, 0), (.ifCond .ne 7, 13, 0, 0, 0), (.iconst 1, 0, 0, 0, 1), (.goto 4, 14, 0, 0, 0)]
  | 13 => [(.iconst 0, 0, 0, 0, 0)]
  | 14 => [(.istore_n 2, 0, 0, 0, 0), (.aload_n 0, 0, 0, 0, 0), (.dup, 0, 0, 0, 0), (.getfield 57, 9, 13, 0, 0), (.iload_n 1, 0, 0, 0, 0), (.ior, 0, 0, 0, 0), (.putfield 57, 9, 13, 0, 0), (.iload_n 2, 0, 0, 0, 0), (.ireturn, 1, 0, 0, 0)]
  | _ => []
theorem kX9_isDue (pc : Nat) : chk 71 (bX9_isDue pc) pc = true := by
  unfold bX9_isDue; split
  · decide +kernel
  · decide +kernel
  · decide +kernel
  · rfl
def bX9_setsOf : Nat → List Ins := fun pc => match pc with
  | 0 => [(.iconst 1, 0, 0, 0, 1), (.bipush 14, 0, 0, 0, 14), (.iload_n 0, 0, 0, 0, 0), (.invokestatic 60, 236, 1, 0, 0), (.invokestatic 66, 239, 2, 1, 0), (.ishl, 0, 0, 0, 0), (.ireturn, 0, 0, 0, 0)]
  | _ => []
theorem kX9_setsOf (pc : Nat) : chk 72 (bX9_setsOf pc) pc = true := by
  unfold bX9_setsOf; split
  · decide +kernel
  · rfl
def bX9_findLawful : Nat → List Ins := fun pc => match pc with
  | 0 => [(.aload_n 0, 0, 0, 0, 0), (.iconst 1, 0, 0, 0, 1), (.invokevirtual 72, 71, 1, 9, 0), (.ifCond .ne 4, 9, 0, 0, 0), (.return_, 0, 0, 0, 0)]
  | 9 => [(.aload_n 0, 0, 0, 0, 0), (.aload_n 0, 0, 0, 0, 0), (.getfield 53, 9, 1, 0, 0), (.aload_n 0, 0, 0, 0, 0), (.getfield 49, 9, 0, 0, 0), (.getfield 76, 10, 5, 0, 0), (.invokevirtual 81, 22, 1, 2, 0), (.putfield 86, 9, 12, 0, 0), (.aload_n 0, 0, 0, 0, 0), (.getfield 12, 9, 2, 0, 0), (.invokevirtual 89, 61, 0, 7, 0), (.aload_n 0, 0, 0, 0, 0), (.getfield 86, 9, 12, 0, 0), (.invokestatic 92, 72, 1, 0, 0), (.istore_n 1, 0, 0, 0, 0), (.iconst 0, 0, 0, 0, 0), (.istore_n 2, 0, 0, 0, 0), (.iconst 0, 0, 0, 0, 0), (.istore_n 3, 0, 0, 0, 0)]
  | 46 => [(.iload_n 3, 0, 0, 0, 0), (.iload_n 1, 0, 0, 0, 0), (.if_icmp .ge 40, 88, 0, 0, 0), (.aload_n 0, 0, 0, 0, 0), (.getfield 53, 9, 1, 0, 0), (.iload_n 2, 0, 0, 0, 0), (.invokevirtual 95, 20, 1, 2, 0), (.ifCond .eq 11, 70, 0, 0, 0), (.aload_n 0, 0, 0, 0, 0), (.getfield 12, 9, 2, 0, 0), (.iload_n 2, 0, 0, 0, 0), (.invokevirtual 98, 62, 1, 7, 0)]
  | 70 => [(.iload_n 2, 0, 0, 0, 0), (.aload_n 0, 0, 0, 0, 0), (.getfield 86, 9, 12, 0, 0), (.isub, 0, 0, 0, 0), (.aload_n 0, 0, 0, 0, 0), (.getfield 86, 9, 12, 0, 0), (.iand, 0, 0, 0, 0), (.istore_n 2, 0, 0, 0, 0), (.iinc 3 1, 0, 0, 0, 1), (.goto (-39), 46, 0, 0, 0)]
  | 88 => [(.return_, 0, 0, 0, 0)]
  | _ => []
theorem kX9_findLawful (pc : Nat) : chk 73 (bX9_findLawful pc) pc = true := by
  unfold bX9_findLawful; split
  · decide +kernel
  · decide +kernel
  · decide +kernel
  · decide +kernel
  · decide +kernel
  · rfl
def bX9_atOnce : Nat → List Ins := fun pc => match pc with
  | 0 => [(.aload_n 0, 0, 0, 0, 0), (.iconst 2, 0, 0, 0, 2), (.invokevirtual 72, 71, 1, 9, 0), (.ifCond .eq 82, 87, 0, 0, 0), (.aload_n 0, 0, 0, 0, 0), (.invokevirtual 102, 73, 0, 9, 0), (.aload_n 0, 0, 0, 0, 0), (.getfield 24, 9, 4, 0, 0), (.invokevirtual 105, 32, 0, 4, 0), (.aload_n 0, 0, 0, 0, 0), (.getfield 86, 9, 12, 0, 0), (.invokestatic 92, 72, 1, 0, 0), (.istore_n 1, 0, 0, 0, 0), (.iconst 0, 0, 0, 0, 0), (.istore_n 2, 0, 0, 0, 0), (.iconst 0, 0, 0, 0, 0), (.istore_n 3, 0, 0, 0, 0)]
  | 31 => [(.iload_n 3, 0, 0, 0, 0), (.iload_n 1, 0, 0, 0, 0), (.if_icmp .ge 54, 87, 0, 0, 0), (.aload_n 0, 0, 0, 0, 0), (.getfield 12, 9, 2, 0, 0), (.iload_n 2, 0, 0, 0, 0), (.invokevirtual 106, 63, 1, 7, 0), (.ifCond .eq 25, 69, 0, 0, 0), (.aload_n 0, 0, 0, 0, 0), (.getfield 24, 9, 4, 0, 0), (.aload_n 0, 0, 0, 0, 0), (.getfield 49, 9, 0, 0, 0), (.getfield 76, 10, 5, 0, 0), (.iload_n 2, 0, 0, 0, 0), (.iconst (-1), 0, 0, 0, (-1)), (.ixor, 0, 0, 0, 0), (.iand, 0, 0, 0, 0), (.aload_n 0, 0, 0, 0, 0), (.getfield 49, 9, 0, 0, 0), (.invokevirtual 109, 33, 2, 4, 0)]
  | 69 => [(.iload_n 2, 0, 0, 0, 0), (.aload_n 0, 0, 0, 0, 0), (.getfield 86, 9, 12, 0, 0), (.isub, 0, 0, 0, 0), (.aload_n 0, 0, 0, 0, 0), (.getfield 86, 9, 12, 0, 0), (.iand, 0, 0, 0, 0), (.istore_n 2, 0, 0, 0, 0), (.iinc 3 1, 0, 0, 0, 1), (.goto (-53), 31, 0, 0, 0)]
  | 87 => [(.aload_n 0, 0, 0, 0, 0), (.getfield 24, 9, 4, 0, 0), (.areturn, 0, 0, 0, 0)]
  | _ => []
theorem kX9_atOnce (pc : Nat) : chk 74 (bX9_atOnce pc) pc = true := by
  unfold bX9_atOnce; split
  · decide +kernel
  · decide +kernel
  · decide +kernel
  · decide +kernel
  · rfl
def bX9_inSteps : Nat → List Ins := fun pc => match pc with
  | 0 => [(.aload_n 0, 0, 0, 0, 0), (.iconst 4, 0, 0, 0, 4), (.invokevirtual 72, 71, 1, 9, 0), (.ifCond .eq 51, 56, 0, 0, 0), (.aload_n 0, 0, 0, 0, 0), (.invokevirtual 102, 73, 0, 9, 0), (.aload_n 0, 0, 0, 0, 0), (.getfield 28, 9, 5, 0, 0), (.invokevirtual 105, 32, 0, 4, 0), (.aload_n 0, 0, 0, 0, 0), (.iconst 0, 0, 0, 0, 0), (.putfield 113, 9, 9, 0, 0), (.aload_n 0, 0, 0, 0, 0), (.getfield 12, 9, 2, 0, 0), (.aload_n 0, 0, 0, 0, 0), (.getfield 49, 9, 0, 0, 0), (.getfield 76, 10, 5, 0, 0), (.invokevirtual 106, 63, 1, 7, 0), (.ifCond .eq 18, 56, 0, 0, 0), (.aload_n 0, 0, 0, 0, 0), (.invokevirtual 116, 76, 0, 9, 0), (.aload_n 0, 0, 0, 0, 0), (.aload_n 0, 0, 0, 0, 0), (.getfield 28, 9, 5, 0, 0), (.getfield 119, 4, 2, 0, 0), (.invokevirtual 122, 77, 1, 9, 0)]
  | 56 => [(.aload_n 0, 0, 0, 0, 0), (.getfield 28, 9, 5, 0, 0), (.areturn, 0, 0, 0, 0)]
  | _ => []
theorem kX9_inSteps (pc : Nat) : chk 75 (bX9_inSteps pc) pc = true := by
  unfold bX9_inSteps; split
  · decide +kernel
  · decide +kernel
  · rfl
def bX9_findStepSets : Nat → List Ins := fun pc => match pc with
  | 0 => [(.aload_n 0, 0, 0, 0, 0), (.getfield 18, 9, 3, 0, 0), (.invokevirtual 89, 61, 0, 7, 0), (.aload_n 0, 0, 0, 0, 0), (.getfield 49, 9, 0, 0, 0), (.getfield 76, 10, 5, 0, 0), (.istore_n 1, 0, 0, 0, 0), (.iload_n 1, 0, 0, 0, 0), (.invokestatic 92, 72, 1, 0, 0), (.istore_n 2, 0, 0, 0, 0), (.iload_n 1, 0, 0, 0, 0), (.istore_n 3, 0, 0, 0, 0), (.iconst 0, 0, 0, 0, 0), (.istore 4, 0, 0, 0, 0)]
  | 25 => [(.iload 4, 0, 0, 0, 0), (.iload_n 2, 0, 0, 0, 0), (.if_icmp .ge 67, 95, 0, 0, 0), (.iload_n 3, 0, 0, 0, 0), (.iload_n 1, 0, 0, 0, 0), (.if_icmp .eq 26, 59, 0, 0, 0), (.aload_n 0, 0, 0, 0, 0), (.getfield 12, 9, 2, 0, 0), (.iload_n 3, 0, 0, 0, 0), (.invokevirtual 106, 63, 1, 7, 0), (.ifCond .eq 39, 83, 0, 0, 0), (.aload_n 0, 0, 0, 0, 0), (.getfield 18, 9, 3, 0, 0), (.iload_n 3, 0, 0, 0, 0), (.iload_n 1, 0, 0, 0, 0), (.invokevirtual 125, 65, 2, 7, 0), (.ifCond .eq 27, 83, 0, 0, 0)]
  | 59 => [(.aload_n 0, 0, 0, 0, 0), (.getfield 18, 9, 3, 0, 0), (.iload_n 3, 0, 0, 0, 0), (.invokevirtual 98, 62, 1, 7, 0), (.aload_n 0, 0, 0, 0, 0), (.getfield 28, 9, 5, 0, 0), (.iload_n 1, 0, 0, 0, 0), (.iload_n 3, 0, 0, 0, 0), (.iconst (-1), 0, 0, 0, (-1)), (.ixor, 0, 0, 0, 0), (.iand, 0, 0, 0, 0), (.aload_n 0, 0, 0, 0, 0), (.getfield 49, 9, 0, 0, 0), (.invokevirtual 109, 33, 2, 4, 0)]
  | 83 => [(.iload_n 3, 0, 0, 0, 0), (.iconst 1, 0, 0, 0, 1), (.isub, 0, 0, 0, 0), (.iload_n 1, 0, 0, 0, 0), (.iand, 0, 0, 0, 0), (.istore_n 3, 0, 0, 0, 0), (.iinc 4 1, 0, 0, 0, 1), (.goto (-67), 25, 0, 0, 0)]
  | 95 => [(.return_, 0, 0, 0, 0)]
  | _ => []
theorem kX9_findStepSets (pc : Nat) : chk 76 (bX9_findStepSets pc) pc = true := by
  unfold bX9_findStepSets; split
  · decide +kernel
  · decide +kernel
  · decide +kernel
  · decide +kernel
  · decide +kernel
  · rfl
def bX9_findOrder : Nat → List Ins := fun pc => match pc with
  | 0 => [(.aload_n 0, 0, 0, 0, 0), (.getfield 49, 9, 0, 0, 0), (.getfield 76, 10, 5, 0, 0), (.iload_n 1, 0, 0, 0, 0), (.iconst (-1), 0, 0, 0, (-1)), (.ixor, 0, 0, 0, 0), (.iand, 0, 0, 0, 0), (.istore_n 2, 0, 0, 0, 0), (.iload_n 1, 0, 0, 0, 0), (.invokestatic 92, 72, 1, 0, 0), (.istore_n 3, 0, 0, 0, 0), (.aload_n 0, 0, 0, 0, 0), (.getfield 18, 9, 3, 0, 0), (.invokevirtual 89, 61, 0, 7, 0), (.iconst 0, 0, 0, 0, 0), (.istore 4, 0, 0, 0, 0), (.iconst 0, 0, 0, 0, 0), (.istore 5, 0, 0, 0, 0)]
  | 30 => [(.iload 5, 0, 0, 0, 0), (.iload_n 3, 0, 0, 0, 0), (.if_icmp .ge 63, 96, 0, 0, 0), (.iload 4, 0, 0, 0, 0), (.ifCond .eq 33, 71, 0, 0, 0), (.aload_n 0, 0, 0, 0, 0), (.getfield 12, 9, 2, 0, 0), (.iload_n 2, 0, 0, 0, 0), (.iload 4, 0, 0, 0, 0), (.ior, 0, 0, 0, 0), (.invokevirtual 106, 63, 1, 7, 0), (.ifCond .eq 30, 82, 0, 0, 0), (.aload_n 0, 0, 0, 0, 0), (.getfield 18, 9, 3, 0, 0), (.iload_n 2, 0, 0, 0, 0), (.iload 4, 0, 0, 0, 0), (.ior, 0, 0, 0, 0), (.iload 4, 0, 0, 0, 0), (.invokevirtual 129, 64, 2, 7, 0), (.ifCond .eq 14, 82, 0, 0, 0)]
  | 71 => [(.aload_n 0, 0, 0, 0, 0), (.getfield 18, 9, 3, 0, 0), (.iload_n 2, 0, 0, 0, 0), (.iload 4, 0, 0, 0, 0), (.ior, 0, 0, 0, 0), (.invokevirtual 98, 62, 1, 7, 0)]
  | 82 => [(.iload 4, 0, 0, 0, 0), (.iload_n 1, 0, 0, 0, 0), (.isub, 0, 0, 0, 0), (.iload_n 1, 0, 0, 0, 0), (.iand, 0, 0, 0, 0), (.istore 4, 0, 0, 0, 0), (.iinc 5 1, 0, 0, 0, 1), (.goto (-63), 30, 0, 0, 0)]
  | 96 => [(.aload_n 0, 0, 0, 0, 0), (.getfield 49, 9, 0, 0, 0), (.getfield 76, 10, 5, 0, 0), (.istore 5, 0, 0, 0, 0), (.iconst 0, 0, 0, 0, 0), (.istore 6, 0, 0, 0, 0)]
  | 108 => [(.iload 6, 0, 0, 0, 0), (.bipush 14, 0, 0, 0, 14), (.if_icmp .ge 52, 164, 0, 0, 0), (.aload_n 0, 0, 0, 0, 0), (.iload 5, 0, 0, 0, 0), (.iload_n 1, 0, 0, 0, 0), (.invokevirtual 132, 78, 2, 9, 0), (.istore 7, 0, 0, 0, 0), (.iload 7, 0, 0, 0, 0), (.iconst (-1), 0, 0, 0, (-1)), (.if_icmp .eq 31, 158, 0, 0, 0), (.aload_n 0, 0, 0, 0, 0), (.getfield 41, 9, 8, 0, 0), (.iload 6, 0, 0, 0, 0), (.iload 7, 0, 0, 0, 0), (.iastore, 0, 0, 0, 0), (.aload_n 0, 0, 0, 0, 0), (.iload 6, 0, 0, 0, 0), (.iconst 1, 0, 0, 0, 1), (.iadd, 0, 0, 0, 0), (.putfield 113, 9, 9, 0, 0), (.iload 5, 0, 0, 0, 0), (.iconst 1, 0, 0, 0, 1), (.iload 7, 0, 0, 0, 0), (.ishl, 0, 0, 0, 0), (.iconst (-1), 0, 0, 0, (-1)), (.ixor, 0, 0, 0, 0), (.iand, 0, 0, 0, 0), (.istore 5, 0, 0, 0, 0)]
  | 158 => [(.iinc 6 1, 0, 0, 0, 1), (.goto (-53), 108, 0, 0, 0)]
  | 164 => [(.return_, 0, 0, 0, 0)]
  | _ => []
theorem kX9_findOrder (pc : Nat) : chk 77 (bX9_findOrder pc) pc = true := by
  unfold bX9_findOrder; split
  · decide +kernel
  · decide +kernel
  · decide +kernel
  · decide +kernel
  · decide +kernel
  · decide +kernel
  · decide +kernel
  · decide +kernel
  · rfl
def bX9_lowestMarked : Nat → List Ins := fun pc => match pc with
  | 0 => [(.iconst 0, 0, 0, 0, 0), (.istore_n 3, 0, 0, 0, 0)]
  | 2 => [(.iload_n 3, 0, 0, 0, 0), (.bipush 14, 0, 0, 0, 14), (.if_icmp .ge 41, 46, 0, 0, 0), (.iconst 1, 0, 0, 0, 1), (.iload_n 3, 0, 0, 0, 0), (.ishl, 0, 0, 0, 0), (.iload_n 1, 0, 0, 0, 0), (.iand, 0, 0, 0, 0), (.iload_n 2, 0, 0, 0, 0), (.iand, 0, 0, 0, 0), (.istore 4, 0, 0, 0, 0), (.iload 4, 0, 0, 0, 0), (.ifCond .eq 21, 40, 0, 0, 0), (.aload_n 0, 0, 0, 0, 0), (.getfield 18, 9, 3, 0, 0), (.iload_n 1, 0, 0, 0, 0), (.iload 4, 0, 0, 0, 0), (.iconst (-1), 0, 0, 0, (-1)), (.ixor, 0, 0, 0, 0), (.iand, 0, 0, 0, 0), (.invokevirtual 106, 63, 1, 7, 0), (.ifCond .eq 5, 40, 0, 0, 0), (.iload_n 3, 0, 0, 0, 0), (.ireturn, 0, 0, 0, 0)]
  | 40 => [(.iinc 3 1, 0, 0, 0, 1), (.goto (-41), 2, 0, 0, 0)]
  | 46 => [(.iconst (-1), 0, 0, 0, (-1)), (.ireturn, 0, 0, 0, 0)]
  | _ => []
theorem kX9_lowestMarked (pc : Nat) : chk 78 (bX9_lowestMarked pc) pc = true := by
  unfold bX9_lowestMarked; split
  · decide +kernel
  · decide +kernel
  · decide +kernel
  · decide +kernel
  · rfl
def bX9_stepTaken : Nat → List Ins := fun pc => match pc with
  | 0 => [(.iload_n 1, 0, 0, 0, 0), (.iconst 0, 0, 0, 0, 0), (.aload_n 0, 0, 0, 0, 0), (.getfield 113, 9, 9, 0, 0), (.iconst 1, 0, 0, 0, 1), (.isub, 0, 0, 0, 0), (.invokestatic 135, 142, 3, 0, 0), (.ifCond .eq 18, 29, 0, 0, 0), (.iload_n 1, 0, 0, 0, 0), (.bipush 14, 0, 0, 0, 14), (.if_icmp .ge 12, 29, 0, 0, 0), (.aload_n 0, 0, 0, 0, 0), (.getfield 41, 9, 8, 0, 0), (.iload_n 1, 0, 0, 0, 0), (.iaload, 0, 0, 0, 0), (.goto 4, 30, 0, 0, 0)]
  | 29 => [(.iconst (-1), 0, 0, 0, (-1))]
  | 30 => [(.ireturn, 0, 0, 0, 0)]
  | _ => []
theorem kX9_stepTaken (pc : Nat) : chk 79 (bX9_stepTaken pc) pc = true := by
  unfold bX9_stepTaken; split
  · decide +kernel
  · decide +kernel
  · decide +kernel
  · rfl
def bX9_felling : Nat → List Ins := fun pc => match pc with
  | 0 => [(.aload_n 0, 0, 0, 0, 0), (.bipush 8, 0, 0, 0, 8), (.invokevirtual 72, 71, 1, 9, 0), (.ifCond .eq 105, 111, 0, 0, 0), (.aload_n 0, 0, 0, 0, 0), (.invokevirtual 102, 73, 0, 9, 0), (.aload_n 0, 0, 0, 0, 0), (.getfield 34, 9, 6, 0, 0), (.invokevirtual 139, 9, 0, 1, 0), (.aload_n 0, 0, 0, 0, 0), (.getfield 18, 9, 3, 0, 0), (.invokevirtual 89, 61, 0, 7, 0), (.aload_n 0, 0, 0, 0, 0), (.getfield 86, 9, 12, 0, 0), (.invokestatic 92, 72, 1, 0, 0), (.istore_n 1, 0, 0, 0, 0), (.iconst 0, 0, 0, 0, 0), (.istore_n 2, 0, 0, 0, 0), (.iconst 0, 0, 0, 0, 0), (.istore_n 3, 0, 0, 0, 0)]
  | 39 => [(.iload_n 3, 0, 0, 0, 0), (.iload_n 1, 0, 0, 0, 0), (.if_icmp .ge 70, 111, 0, 0, 0), (.aload_n 0, 0, 0, 0, 0), (.getfield 12, 9, 2, 0, 0), (.iload_n 2, 0, 0, 0, 0), (.invokevirtual 106, 63, 1, 7, 0), (.ifCond .ne 15, 67, 0, 0, 0), (.aload_n 0, 0, 0, 0, 0), (.getfield 18, 9, 3, 0, 0), (.iload_n 2, 0, 0, 0, 0), (.iload_n 2, 0, 0, 0, 0), (.invokevirtual 129, 64, 2, 7, 0), (.ifCond .eq 14, 78, 0, 0, 0)]
  | 67 => [(.aload_n 0, 0, 0, 0, 0), (.getfield 18, 9, 3, 0, 0), (.iload_n 2, 0, 0, 0, 0), (.invokevirtual 98, 62, 1, 7, 0), (.goto 18, 93, 0, 0, 0)]
  | 78 => [(.aload_n 0, 0, 0, 0, 0), (.getfield 34, 9, 6, 0, 0), (.aload_n 0, 0, 0, 0, 0), (.getfield 86, 9, 12, 0, 0), (.iload_n 2, 0, 0, 0, 0), (.iconst (-1), 0, 0, 0, (-1)), (.ixor, 0, 0, 0, 0), (.iand, 0, 0, 0, 0), (.invokevirtual 140, 10, 1, 1, 0)]
  | 93 => [(.iload_n 2, 0, 0, 0, 0), (.aload_n 0, 0, 0, 0, 0), (.getfield 86, 9, 12, 0, 0), (.isub, 0, 0, 0, 0), (.aload_n 0, 0, 0, 0, 0), (.getfield 86, 9, 12, 0, 0), (.iand, 0, 0, 0, 0), (.istore_n 2, 0, 0, 0, 0), (.iinc 3 1, 0, 0, 0, 1), (.goto (-69), 39, 0, 0, 0)]
  | 111 => [(.aload_n 0, 0, 0, 0, 0), (.getfield 34, 9, 6, 0, 0), (.areturn, 0, 0, 0, 0)]
  | _ => []
theorem kX9_felling (pc : Nat) : chk 80 (bX9_felling pc) pc = true := by
  unfold bX9_felling; split
  · decide +kernel
  · decide +kernel
  · decide +kernel
  · decide +kernel
  · decide +kernel
  · decide +kernel
  · rfl
def bX9_mending : Nat → List Ins := fun pc => match pc with
  | 0 => [(.aload_n 0, 0, 0, 0, 0), (.bipush 16, 0, 0, 0, 16), (.invokevirtual 72, 71, 1, 9, 0), (.ifCond .eq 68, 74, 0, 0, 0), (.aload_n 0, 0, 0, 0, 0), (.getfield 38, 9, 7, 0, 0), (.invokevirtual 139, 9, 0, 1, 0), (.iconst 1, 0, 0, 0, 1), (.bipush 8, 0, 0, 0, 8), (.aload_n 0, 0, 0, 0, 0), (.getfield 49, 9, 0, 0, 0), (.getfield 142, 10, 4, 0, 0), (.invokestatic 66, 239, 2, 1, 0), (.ishl, 0, 0, 0, 0), (.istore_n 1, 0, 0, 0, 0), (.iconst 0, 0, 0, 0, 0), (.istore_n 2, 0, 0, 0, 0)]
  | 33 => [(.iload_n 2, 0, 0, 0, 0), (.iload_n 1, 0, 0, 0, 0), (.if_icmp .ge 39, 74, 0, 0, 0), (.aload_n 0, 0, 0, 0, 0), (.getfield 53, 9, 1, 0, 0), (.aload_n 0, 0, 0, 0, 0), (.getfield 49, 9, 0, 0, 0), (.getfield 76, 10, 5, 0, 0), (.iload_n 2, 0, 0, 0, 0), (.bipush 14, 0, 0, 0, 14), (.ishl, 0, 0, 0, 0), (.ior, 0, 0, 0, 0), (.invokevirtual 95, 20, 1, 2, 0), (.ifCond .eq 11, 68, 0, 0, 0), (.aload_n 0, 0, 0, 0, 0), (.getfield 38, 9, 7, 0, 0), (.iload_n 2, 0, 0, 0, 0), (.invokevirtual 140, 10, 1, 1, 0)]
  | 68 => [(.iinc 2 1, 0, 0, 0, 1), (.goto (-38), 33, 0, 0, 0)]
  | 74 => [(.aload_n 0, 0, 0, 0, 0), (.getfield 38, 9, 7, 0, 0), (.areturn, 0, 0, 0, 0)]
  | _ => []
theorem kX9_mending (pc : Nat) : chk 81 (bX9_mending pc) pc = true := by
  unfold bX9_mending; split
  · decide +kernel
  · decide +kernel
  · decide +kernel
  · decide +kernel
  · rfl
def bX9_play : Nat → List Ins := fun pc => match pc with
  | 0 => [(.aload_n 0, 0, 0, 0, 0), (.bipush 32, 0, 0, 0, 32), (.invokevirtual 72, 71, 1, 9, 0), (.ifCond .ne 4, 10, 0, 0, 0), (.return_, 0, 0, 0, 0)]
  | 10 => [(.aload_n 0, 0, 0, 0, 0), (.invokevirtual 102, 73, 0, 9, 0), (.aload_n 0, 0, 0, 0, 0), (.getfield 18, 9, 3, 0, 0), (.invokevirtual 89, 61, 0, 7, 0), (.aload_n 0, 0, 0, 0, 0), (.getfield 86, 9, 12, 0, 0), (.invokestatic 92, 72, 1, 0, 0), (.istore_n 1, 0, 0, 0, 0), (.iconst 0, 0, 0, 0, 0), (.istore_n 2, 0, 0, 0, 0), (.iconst 0, 0, 0, 0, 0), (.istore_n 3, 0, 0, 0, 0)]
  | 33 => [(.iload_n 3, 0, 0, 0, 0), (.iload_n 1, 0, 0, 0, 0), (.if_icmp .ge 38, 73, 0, 0, 0), (.aload_n 0, 0, 0, 0, 0), (.iload_n 2, 0, 0, 0, 0), (.invokevirtual 145, 83, 1, 9, 0), (.iconst (-1), 0, 0, 0, (-1)), (.if_icmp .eq 11, 55, 0, 0, 0), (.aload_n 0, 0, 0, 0, 0), (.getfield 18, 9, 3, 0, 0), (.iload_n 2, 0, 0, 0, 0), (.invokevirtual 98, 62, 1, 7, 0)]
  | 55 => [(.iload_n 2, 0, 0, 0, 0), (.aload_n 0, 0, 0, 0, 0), (.getfield 86, 9, 12, 0, 0), (.isub, 0, 0, 0, 0), (.aload_n 0, 0, 0, 0, 0), (.getfield 86, 9, 12, 0, 0), (.iand, 0, 0, 0, 0), (.istore_n 2, 0, 0, 0, 0), (.iinc 3 1, 0, 0, 0, 1), (.goto (-37), 33, 0, 0, 0)]
  | 73 => [(.aload_n 0, 0, 0, 0, 0), (.aload_n 0, 0, 0, 0, 0), (.aload_n 0, 0, 0, 0, 0), (.getfield 49, 9, 0, 0, 0), (.getfield 76, 10, 5, 0, 0), (.invokevirtual 145, 83, 1, 9, 0), (.putfield 45, 9, 10, 0, 0), (.aload_n 0, 0, 0, 0, 0), (.iconst 0, 0, 0, 0, 0), (.putfield 148, 9, 11, 0, 0), (.iconst 0, 0, 0, 0, 0), (.istore_n 3, 0, 0, 0, 0)]
  | 95 => [(.iload_n 3, 0, 0, 0, 0), (.bipush 14, 0, 0, 0, 14), (.if_icmp .ge 59, 157, 0, 0, 0), (.iconst 1, 0, 0, 0, 1), (.iload_n 3, 0, 0, 0, 0), (.ishl, 0, 0, 0, 0), (.aload_n 0, 0, 0, 0, 0), (.getfield 49, 9, 0, 0, 0), (.getfield 76, 10, 5, 0, 0), (.iand, 0, 0, 0, 0), (.istore 4, 0, 0, 0, 0), (.iload 4, 0, 0, 0, 0), (.ifCond .eq 35, 151, 0, 0, 0), (.aload_n 0, 0, 0, 0, 0), (.getfield 12, 9, 2, 0, 0), (.aload_n 0, 0, 0, 0, 0), (.getfield 49, 9, 0, 0, 0), (.getfield 76, 10, 5, 0, 0), (.iload 4, 0, 0, 0, 0), (.iconst (-1), 0, 0, 0, (-1)), (.ixor, 0, 0, 0, 0), (.iand, 0, 0, 0, 0), (.invokevirtual 106, 63, 1, 7, 0), (.ifCond .eq 13, 151, 0, 0, 0), (.aload_n 0, 0, 0, 0, 0), (.dup, 0, 0, 0, 0), (.getfield 148, 9, 11, 0, 0), (.iconst 1, 0, 0, 0, 1), (.iadd, 0, 0, 0, 0), (.putfield 148, 9, 11, 0, 0)]
  | 151 => [(.iinc 3 1, 0, 0, 0, 1), (.goto (-59), 95, 0, 0, 0)]
  | 157 => [(.return_, 0, 0, 0, 0)]
  | _ => []
theorem kX9_play (pc : Nat) : chk 82 (bX9_play pc) pc = true := by
  unfold bX9_play; split
  · decide +kernel
  · decide +kernel
  · decide +kernel
  · decide +kernel
  · decide +kernel
  · decide +kernel
  · decide +kernel
  · decide +kernel
  · rfl
def bX9_winningIn : Nat → List Ins := fun pc => match pc with
  | 0 => [(.iconst 0, 0, 0, 0, 0), (.istore_n 2, 0, 0, 0, 0)]
  | 2 => [(.iload_n 2, 0, 0, 0, 0), (.bipush 14, 0, 0, 0, 14), (.if_icmp .ge 51, 56, 0, 0, 0), (.iconst 1, 0, 0, 0, 1), (.iload_n 2, 0, 0, 0, 0), (.ishl, 0, 0, 0, 0), (.iload_n 1, 0, 0, 0, 0), (.iand, 0, 0, 0, 0), (.istore_n 3, 0, 0, 0, 0), (.iload_n 3, 0, 0, 0, 0), (.ifCond .eq 35, 50, 0, 0, 0), (.aload_n 0, 0, 0, 0, 0), (.getfield 12, 9, 2, 0, 0), (.iload_n 1, 0, 0, 0, 0), (.iload_n 3, 0, 0, 0, 0), (.iconst (-1), 0, 0, 0, (-1)), (.ixor, 0, 0, 0, 0), (.iand, 0, 0, 0, 0), (.invokevirtual 106, 63, 1, 7, 0), (.ifCond .eq 20, 50, 0, 0, 0), (.aload_n 0, 0, 0, 0, 0), (.getfield 18, 9, 3, 0, 0), (.iload_n 1, 0, 0, 0, 0), (.iload_n 3, 0, 0, 0, 0), (.iconst (-1), 0, 0, 0, (-1)), (.ixor, 0, 0, 0, 0), (.iand, 0, 0, 0, 0), (.invokevirtual 106, 63, 1, 7, 0), (.ifCond .ne 5, 50, 0, 0, 0), (.iload_n 2, 0, 0, 0, 0), (.ireturn, 0, 0, 0, 0)]
  | 50 => [(.iinc 2 1, 0, 0, 0, 1), (.goto (-51), 2, 0, 0, 0)]
  | 56 => [(.iconst (-1), 0, 0, 0, (-1)), (.ireturn, 0, 0, 0, 0)]
  | _ => []
theorem kX9_winningIn (pc : Nat) : chk 83 (bX9_winningIn pc) pc = true := by
  unfold bX9_winningIn; split
  · decide +kernel
  · decide +kernel
  · decide +kernel
  · decide +kernel
  · rfl
def bX10_becomeAs : Nat → List Ins := fun pc => match pc with
  | 0 => [(.iconst 0, 0, 0, 0, 0), (.istore_n 2, 0, 0, 0, 0)]
  | 2 => [(.iload_n 2, 0, 0, 0, 0), (.sipush 154, 0, 0, 0, 154), (.if_icmp .ge 21, 27, 0, 0, 0), (.aload_n 0, 0, 0, 0, 0), (.getfield 9, 10, 0, 0, 0), (.iload_n 2, 0, 0, 0, 0), (.aload_n 1, 0, 0, 0, 0), (.getfield 9, 10, 0, 0, 0), (.iload_n 2, 0, 0, 0, 0), (.iaload, 0, 0, 0, 0), (.iastore, 0, 0, 0, 0), (.iinc 2 1, 0, 0, 0, 1), (.goto (-22), 2, 0, 0, 0)]
  | 27 => [(.iconst 0, 0, 0, 0, 0), (.istore_n 2, 0, 0, 0, 0)]
  | 29 => [(.iload_n 2, 0, 0, 0, 0), (.iconst 3, 0, 0, 0, 3), (.if_icmp .ge 21, 52, 0, 0, 0), (.aload_n 0, 0, 0, 0, 0), (.getfield 15, 10, 1, 0, 0), (.iload_n 2, 0, 0, 0, 0), (.aload_n 1, 0, 0, 0, 0), (.getfield 15, 10, 1, 0, 0), (.iload_n 2, 0, 0, 0, 0), (.iaload, 0, 0, 0, 0), (.iastore, 0, 0, 0, 0), (.iinc 2 1, 0, 0, 0, 1), (.goto (-20), 29, 0, 0, 0)]
  | 52 => [(.iconst 0, 0, 0, 0, 0), (.istore_n 2, 0, 0, 0, 0)]
  | 54 => [(.iload_n 2, 0, 0, 0, 0), (.bipush 6, 0, 0, 0, 6), (.if_icmp .ge 21, 78, 0, 0, 0), (.aload_n 0, 0, 0, 0, 0), (.getfield 20, 10, 2, 0, 0), (.iload_n 2, 0, 0, 0, 0), (.aload_n 1, 0, 0, 0, 0), (.getfield 20, 10, 2, 0, 0), (.iload_n 2, 0, 0, 0, 0), (.aaload, 0, 0, 0, 0), (.aastore, 0, 0, 0, 0), (.iinc 2 1, 0, 0, 0, 1), (.goto (-21), 54, 0, 0, 0)]
  | 78 => [(.aload_n 0, 0, 0, 0, 0), (.aload_n 1, 0, 0, 0, 0), (.getfield 28, 10, 3, 0, 0), (.putfield 28, 10, 3, 0, 0), (.aload_n 0, 0, 0, 0, 0), (.aload_n 1, 0, 0, 0, 0), (.getfield 31, 10, 4, 0, 0), (.putfield 31, 10, 4, 0, 0), (.aload_n 0, 0, 0, 0, 0), (.aload_n 1, 0, 0, 0, 0), (.getfield 34, 10, 5, 0, 0), (.putfield 34, 10, 5, 0, 0), (.aload_n 0, 0, 0, 0, 0), (.aload_n 1, 0, 0, 0, 0), (.getfield 37, 10, 6, 0, 0), (.putfield 37, 10, 6, 0, 0), (.aload_n 0, 0, 0, 0, 0), (.aload_n 1, 0, 0, 0, 0), (.getfield 24, 10, 7, 0, 0), (.putfield 24, 10, 7, 0, 0), (.return_, 0, 0, 0, 0)]
  | _ => []
theorem kX10_becomeAs (pc : Nat) : chk 85 (bX10_becomeAs pc) pc = true := by
  unfold bX10_becomeAs; split
  · decide +kernel
  · decide +kernel
  · decide +kernel
  · decide +kernel
  · decide +kernel
  · decide +kernel
  · decide +kernel
  · rfl
def bX10_addStone : Nat → List Ins := fun pc => match pc with
  | 0 => [(.aload_n 0, 0, 0, 0, 0), (.getfield 28, 10, 3, 0, 0), (.istore 6, 0, 0, 0, 0), (.aload_n 0, 0, 0, 0, 0), (.dup, 0, 0, 0, 0), (.getfield 28, 10, 3, 0, 0), (.iconst 1, 0, 0, 0, 1), (.iadd, 0, 0, 0, 0), (.putfield 28, 10, 3, 0, 0), (.aload_n 0, 0, 0, 0, 0), (.dup, 0, 0, 0, 0), (.getfield 34, 10, 5, 0, 0), (.iconst 1, 0, 0, 0, 1), (.iload 6, 0, 0, 0, 0), (.ishl, 0, 0, 0, 0), (.ior, 0, 0, 0, 0), (.putfield 34, 10, 5, 0, 0), (.aload_n 0, 0, 0, 0, 0), (.iload 6, 0, 0, 0, 0), (.iload_n 1, 0, 0, 0, 0), (.iload_n 2, 0, 0, 0, 0), (.iload_n 3, 0, 0, 0, 0), (.iload 4, 0, 0, 0, 0), (.iload 5, 0, 0, 0, 0), (.invokevirtual 40, 88, 6, 10, 0), (.iload 6, 0, 0, 0, 0), (.ireturn, 0, 0, 0, 0)]
  | _ => []
theorem kX10_addStone (pc : Nat) : chk 86 (bX10_addStone pc) pc = true := by
  unfold bX10_addStone; split
  · decide +kernel
  · rfl
def bX10_addSpare : Nat → List Ins := fun pc => match pc with
  | 0 => [(.aload_n 0, 0, 0, 0, 0), (.getfield 31, 10, 4, 0, 0), (.istore 6, 0, 0, 0, 0), (.aload_n 0, 0, 0, 0, 0), (.dup, 0, 0, 0, 0), (.getfield 31, 10, 4, 0, 0), (.iconst 1, 0, 0, 0, 1), (.iadd, 0, 0, 0, 0), (.putfield 31, 10, 4, 0, 0), (.aload_n 0, 0, 0, 0, 0), (.bipush 14, 0, 0, 0, 14), (.iload 6, 0, 0, 0, 0), (.iadd, 0, 0, 0, 0), (.iload_n 1, 0, 0, 0, 0), (.iload_n 2, 0, 0, 0, 0), (.iload_n 3, 0, 0, 0, 0), (.iload 4, 0, 0, 0, 0), (.iload 5, 0, 0, 0, 0), (.invokevirtual 40, 88, 6, 10, 0), (.iload 6, 0, 0, 0, 0), (.ireturn, 0, 0, 0, 0)]
  | _ => []
theorem kX10_addSpare (pc : Nat) : chk 87 (bX10_addSpare pc) pc = true := by
  unfold bX10_addSpare; split
  · decide +kernel
  · rfl
def bX10_lay : Nat → List Ins := fun pc => match pc with
  | 0 => [(.aload_n 0, 0, 0, 0, 0), (.iload_n 1, 0, 0, 0, 0), (.iconst 0, 0, 0, 0, 0), (.iload_n 2, 0, 0, 0, 0), (.invokevirtual 44, 89, 3, 10, 0), (.pop, 0, 0, 0, 0), (.aload_n 0, 0, 0, 0, 0), (.iload_n 1, 0, 0, 0, 0), (.iconst 1, 0, 0, 0, 1), (.iload_n 3, 0, 0, 0, 0), (.invokevirtual 44, 89, 3, 10, 0), (.pop, 0, 0, 0, 0), (.aload_n 0, 0, 0, 0, 0), (.iload_n 1, 0, 0, 0, 0), (.iconst 2, 0, 0, 0, 2), (.iload 4, 0, 0, 0, 0), (.invokevirtual 44, 89, 3, 10, 0), (.pop, 0, 0, 0, 0), (.aload_n 0, 0, 0, 0, 0), (.iload_n 1, 0, 0, 0, 0), (.iconst 3, 0, 0, 0, 3), (.iload 5, 0, 0, 0, 0), (.invokevirtual 44, 89, 3, 10, 0), (.pop, 0, 0, 0, 0), (.aload_n 0, 0, 0, 0, 0), (.iload_n 1, 0, 0, 0, 0), (.iconst 4, 0, 0, 0, 4), (.iload 6, 0, 0, 0, 0), (.invokevirtual 44, 89, 3, 10, 0), (.pop, 0, 0, 0, 0), (.aload_n 0, 0, 0, 0, 0), (.iload_n 1, 0, 0, 0, 0), (.iconst 5, 0, 0, 0, 5), (.iconst 0, 0, 0, 0, 0), (.invokevirtual 44, 89, 3, 10, 0), (.pop, 0, 0, 0, 0), (.aload_n 0, 0, 0, 0, 0), (.iload_n 1, 0, 0, 0, 0), (.bipush 6, 0, 0, 0, 6), (.iconst 0, 0, 0, 0, 0), (.invokevirtual 44, 89, 3, 10, 0), (.pop, 0, 0, 0, 0), (.return_, 0, 0, 0, 0)]
  | _ => []
theorem kX10_lay (pc : Nat) : chk 88 (bX10_lay pc) pc = true := by
  unfold bX10_lay; split
  · decide +kernel
  · rfl
def bX10_change : Nat → List Ins := fun pc => match pc with
  | 0 => [(.iload_n 1, 0, 0, 0, 0), (.iconst 0, 0, 0, 0, 0), (.bipush 21, 0, 0, 0, 21), (.invokestatic 48, 142, 3, 0, 0), (.ifCond .eq 13, 20, 0, 0, 0), (.iload_n 2, 0, 0, 0, 0), (.iconst 0, 0, 0, 0, 0), (.bipush 6, 0, 0, 0, 6), (.invokestatic 48, 142, 3, 0, 0), (.ifCond .ne 5, 22, 0, 0, 0)]
  | 20 => [(.iconst (-1), 0, 0, 0, (-1)), (.ireturn, 0, 0, 0, 0)]
  | 22 => [(.aload_n 0, 0, 0, 0, 0), (.getfield 9, 10, 0, 0, 0), (.iload_n 1, 0, 0, 0, 0), (.bipush 7, 0, 0, 0, 7), (.imul, 0, 0, 0, 0), (.iload_n 2, 0, 0, 0, 0), (.iadd, 0, 0, 0, 0), (.iaload, 0, 0, 0, 0), (.istore 4, 0, 0, 0, 0), (.aload_n 0, 0, 0, 0, 0), (.getfield 9, 10, 0, 0, 0), (.iload_n 1, 0, 0, 0, 0), (.bipush 7, 0, 0, 0, 7), (.imul, 0, 0, 0, 0), (.iload_n 2, 0, 0, 0, 0), (.iadd, 0, 0, 0, 0), (.iload_n 3, 0, 0, 0, 0), (.iastore, 0, 0, 0, 0), (.iload 4, 0, 0, 0, 0), (.ireturn, 0, 0, 0, 0)]
  | _ => []
theorem kX10_change (pc : Nat) : chk 89 (bX10_change pc) pc = true := by
  unfold bX10_change; split
  · decide +kernel
  · decide +kernel
  · decide +kernel
  · rfl
def bX10_fact : Nat → List Ins := fun pc => match pc with
  | 0 => [(.iload_n 1, 0, 0, 0, 0), (.ifCond .lt 19, 20, 0, 0, 0), (.iload_n 1, 0, 0, 0, 0), (.bipush 22, 0, 0, 0, 22), (.if_icmp .ge 13, 20, 0, 0, 0), (.iload_n 2, 0, 0, 0, 0), (.ifCond .lt 9, 20, 0, 0, 0), (.iload_n 2, 0, 0, 0, 0), (.bipush 7, 0, 0, 0, 7), (.if_icmp .lt 5, 22, 0, 0, 0)]
  | 20 => [(.iconst (-1), 0, 0, 0, (-1)), (.ireturn, 0, 0, 0, 0)]
  | 22 => [(.aload_n 0, 0, 0, 0, 0), (.getfield 9, 10, 0, 0, 0), (.iload_n 1, 0, 0, 0, 0), (.bipush 7, 0, 0, 0, 7), (.imul, 0, 0, 0, 0), (.iload_n 2, 0, 0, 0, 0), (.iadd, 0, 0, 0, 0), (.iaload, 0, 0, 0, 0), (.ireturn, 0, 0, 0, 0)]
  | _ => []
theorem kX10_fact (pc : Nat) : chk 90 (bX10_fact pc) pc = true := by
  unfold bX10_fact; split
  · decide +kernel
  · decide +kernel
  · decide +kernel
  · rfl
def bX10_term : Nat → List Ins := fun pc => match pc with
  | 0 => [(.iload_n 1, 0, 0, 0, 0), (.iconst 0, 0, 0, 0, 0), (.iconst 2, 0, 0, 0, 2), (.invokestatic 48, 142, 3, 0, 0), (.ifCond .eq 12, 18, 0, 0, 0), (.aload_n 0, 0, 0, 0, 0), (.getfield 15, 10, 1, 0, 0), (.iload_n 1, 0, 0, 0, 0), (.iaload, 0, 0, 0, 0), (.goto 4, 19, 0, 0, 0)]
  | 18 => [(.iconst (-1), 0, 0, 0, (-1))]
  | 19 => [(.ireturn, 0, 0, 0, 0)]
  | _ => []
theorem kX10_term (pc : Nat) : chk 91 (bX10_term pc) pc = true := by
  unfold bX10_term; split
  · decide +kernel
  · decide +kernel
  · decide +kernel
  · rfl
def bX10_changeTerm : Nat → List Ins := fun pc => match pc with
  | 0 => [(.aload_n 0, 0, 0, 0, 0), (.iload_n 1, 0, 0, 0, 0), (.invokevirtual 52, 91, 1, 10, 0), (.istore_n 3, 0, 0, 0, 0), (.iload_n 1, 0, 0, 0, 0), (.iconst 0, 0, 0, 0, 0), (.iconst 2, 0, 0, 0, 2), (.invokestatic 48, 142, 3, 0, 0), (.ifCond .eq 10, 22, 0, 0, 0), (.aload_n 0, 0, 0, 0, 0), (.getfield 15, 10, 1, 0, 0), (.iload_n 1, 0, 0, 0, 0), (.iload_n 2, 0, 0, 0, 0), (.iastore, 0, 0, 0, 0)]
  | 22 => [(.iload_n 3, 0, 0, 0, 0), (.ireturn, 0, 0, 0, 0)]
  | _ => []
theorem kX10_changeTerm (pc : Nat) : chk 92 (bX10_changeTerm pc) pc = true := by
  unfold bX10_changeTerm; split
  · decide +kernel
  · decide +kernel
  · rfl
def bX10_addLaw : Nat → List Ins := fun pc => match pc with
  | 0 => [(.aload_n 0, 0, 0, 0, 0), (.getfield 37, 10, 6, 0, 0), (.istore_n 2, 0, 0, 0, 0), (.iload_n 2, 0, 0, 0, 0), (.iconst 0, 0, 0, 0, 0), (.iconst 5, 0, 0, 0, 5), (.invokestatic 48, 142, 3, 0, 0), (.ifCond .ne 5, 16, 0, 0, 0), (.iconst (-1), 0, 0, 0, (-1)), (.ireturn, 0, 0, 0, 0)]
  | 16 => [(.aload_n 0, 0, 0, 0, 0), (.getfield 20, 10, 2, 0, 0), (.iload_n 2, 0, 0, 0, 0), (.aload_n 1, 0, 0, 0, 0), (.aastore, 0, 0, 0, 0), (.aload_n 0, 0, 0, 0, 0), (.dup, 0, 0, 0, 0), (.getfield 37, 10, 6, 0, 0), (.iconst 1, 0, 0, 0, 1), (.iadd, 0, 0, 0, 0), (.putfield 37, 10, 6, 0, 0), (.iload_n 2, 0, 0, 0, 0), (.ireturn, 0, 0, 0, 0)]
  | _ => []
theorem kX10_addLaw (pc : Nat) : chk 93 (bX10_addLaw pc) pc = true := by
  unfold bX10_addLaw; split
  · decide +kernel
  · decide +kernel
  · rfl
def bX10_lawInForce : Nat → List Ins := fun pc => match pc with
  | 0 => [(.aload_n 0, 0, 0, 0, 0), (.getfield 24, 10, 7, 0, 0), (.iconst 0, 0, 0, 0, 0), (.iconst 5, 0, 0, 0, 5), (.invokestatic 48, 142, 3, 0, 0), (.ifCond .eq 15, 24, 0, 0, 0), (.aload_n 0, 0, 0, 0, 0), (.getfield 20, 10, 2, 0, 0), (.aload_n 0, 0, 0, 0, 0), (.getfield 24, 10, 7, 0, 0), (.aaload, 0, 0, 0, 0), (.goto 4, 25, 0, 0, 0)]
  | 24 => [(.aconst_null, 0, 0, 0, 0)]
  | 25 => [(.areturn, 0, 0, 0, 0)]
  | _ => []
theorem kX10_lawInForce (pc : Nat) : chk 94 (bX10_lawInForce pc) pc = true := by
  unfold bX10_lawInForce; split
  · decide +kernel
  · decide +kernel
  · decide +kernel
  · rfl
def bX10_isStone : Nat → List Ins := fun pc => match pc with
  | 0 => [(.iload_n 1, 0, 0, 0, 0), (.iconst 0, 0, 0, 0, 0), (.aload_n 0, 0, 0, 0, 0), (.getfield 28, 10, 3, 0, 0), (.iconst 1, 0, 0, 0, 1), (.isub, 0, 0, 0, 0), (.invokestatic 48, 142, 3, 0, 0), (.ireturn, 1, 0, 0, 0)]
  | _ => []
theorem kX10_isStone (pc : Nat) : chk 95 (bX10_isStone pc) pc = true := by
  unfold bX10_isStone; split
  · decide +kernel
  · rfl
def bX10_isPlace : Nat → List Ins := fun pc => match pc with
  | 0 => [(.aload_n 0, 0, 0, 0, 0), (.iload_n 1, 0, 0, 0, 0), (.invokevirtual 56, 95, 1, 10, 0), (.ifCond .ne 21, 26, 0, 0, 0), (.iload_n 1, 0, 0, 0, 0), (.bipush 14, 0, 0, 0, 14), (.bipush 14, 0, 0, 0, 14), (.aload_n 0, 0, 0, 0, 0), (.getfield 31, 10, 4, 0, 0), (.iadd, 0, 0, 0, 0), (.iconst 1, 0, 0, 0, 1), (.isub, 0, 0, 0, 0), (.invokestatic 48, 142, 3, 0, 0), (.ifCond .eq 7, 30, 0, 0, 0)]
  | 26 => [(.iconst 1, 0, 0, 0, 1), (.goto 4, 31, 0, 0, 0)]
  | 30 => [(.iconst 0, 0, 0, 0, 0)]
  | 31 => [(.ireturn, 1, 0, 0, 0)]
  | _ => []
theorem kX10_isPlace (pc : Nat) : chk 96 (bX10_isPlace pc) pc = true := by
  unfold bX10_isPlace; split
  · decide +kernel
  · decide +kernel
  · decide +kernel
  · decide +kernel
  · rfl
def bX10_allStones : Nat → List Ins := fun pc => match pc with
  | 0 => [(.iconst 1, 0, 0, 0, 1), (.aload_n 0, 0, 0, 0, 0), (.getfield 28, 10, 3, 0, 0), (.ishl, 0, 0, 0, 0), (.iconst 1, 0, 0, 0, 1), (.isub, 0, 0, 0, 0), (.ireturn, 0, 0, 0, 0)]
  | _ => []
theorem kX10_allStones (pc : Nat) : chk 97 (bX10_allStones pc) pc = true := by
  unfold bX10_allStones; split
  · decide +kernel
  · rfl
def bX10_covers : Nat → List Ins := fun pc => match pc with
  | 0 => [(.iload_n 2, 0, 0, 0, 0), (.aload_n 0, 0, 0, 0, 0), (.iload_n 1, 0, 0, 0, 0), (.iconst 0, 0, 0, 0, 0), (.invokevirtual 60, 90, 2, 10, 0), (.iload 4, 0, 0, 0, 0), (.isub, 0, 0, 0, 0), (.iconst 1, 0, 0, 0, 1), (.iadd, 0, 0, 0, 0), (.aload_n 0, 0, 0, 0, 0), (.iload_n 1, 0, 0, 0, 0), (.iconst 0, 0, 0, 0, 0), (.invokevirtual 60, 90, 2, 10, 0), (.aload_n 0, 0, 0, 0, 0), (.iload_n 1, 0, 0, 0, 0), (.iconst 2, 0, 0, 0, 2), (.invokevirtual 60, 90, 2, 10, 0), (.iadd, 0, 0, 0, 0), (.iconst 1, 0, 0, 0, 1), (.isub, 0, 0, 0, 0), (.invokestatic 48, 142, 3, 0, 0), (.ifCond .eq 40, 70, 0, 0, 0), (.iload_n 3, 0, 0, 0, 0), (.aload_n 0, 0, 0, 0, 0), (.iload_n 1, 0, 0, 0, 0), (.iconst 1, 0, 0, 0, 1), (.invokevirtual 60, 90, 2, 10, 0), (.iload 5, 0, 0, 0, 0), (.isub, 0, 0, 0, 0), (.iconst 1, 0, 0, 0, 1), (.iadd, 0, 0, 0, 0), (.aload_n 0, 0, 0, 0, 0), (.iload_n 1, 0, 0, 0, 0), (.iconst 1, 0, 0, 0, 1), (.invokevirtual 60, 90, 2, 10, 0), (.aload_n 0, 0, 0, 0, 0), (.iload_n 1, 0, 0, 0, 0), (.iconst 3, 0, 0, 0, 3), (.invokevirtual 60, 90, 2, 10, 0), (.iadd, 0, 0, 0, 0), (.iconst 1, 0, 0, 0, 1), (.isub, 0, 0, 0, 0), (.invokestatic 48, 142, 3, 0, 0), (.ifCond .eq 7, 70, 0, 0, 0), (.iconst 1, 0, 0, 0, 1), (.goto 4, 71, 0, 0, 0)]
  | 70 => [(.iconst 0, 0, 0, 0, 0)]
  | 71 => [(.ireturn, 1, 0, 0, 0)]
  | _ => []
theorem kX10_covers (pc : Nat) : chk 98 (bX10_covers pc) pc = true := by
  unfold bX10_covers; split
  · decide +kernel
  · decide +kernel
  · decide +kernel
  · rfl
def bX10_isTaken : Nat → List Ins := fun pc => match pc with
  | 0 => [(.iconst 0, 0, 0, 0, 0), (.istore 5, 0, 0, 0, 0)]
  | 3 => [(.iload 5, 0, 0, 0, 0), (.bipush 22, 0, 0, 0, 22), (.if_icmp .ge 34, 41, 0, 0, 0), (.aload_n 0, 0, 0, 0, 0), (.iload 5, 0, 0, 0, 0), (.invokevirtual 64, 96, 1, 10, 0), (.ifCond .eq 19, 35, 0, 0, 0), (.aload_n 0, 0, 0, 0, 0), (.iload 5, 0, 0, 0, 0), (.iload_n 1, 0, 0, 0, 0), (.iload_n 2, 0, 0, 0, 0), (.iload_n 3, 0, 0, 0, 0), (.iload 4, 0, 0, 0, 0), (.invokevirtual 67, 98, 5, 10, 0), (.ifCond .eq 5, 35, 0, 0, 0), (.iconst 1, 0, 0, 0, 1), (.ireturn, 1, 0, 0, 0)]
  | 35 => [(.iinc 5 1, 0, 0, 0, 1), (.goto (-35), 3, 0, 0, 0)]
  | 41 => [(.iconst 0, 0, 0, 0, 0), (.ireturn, 1, 0, 0, 0)]
  | _ => []
theorem kX10_isTaken (pc : Nat) : chk 99 (bX10_isTaken pc) pc = true := by
  unfold bX10_isTaken; split
  · decide +kernel
  · decide +kernel
  · decide +kernel
  · decide +kernel
  · rfl
def bX10_weightOf : Nat → List Ins := fun pc => match pc with
  | 0 => [(.iconst 0, 0, 0, 0, 0), (.istore_n 2, 0, 0, 0, 0), (.iconst 0, 0, 0, 0, 0), (.istore_n 3, 0, 0, 0, 0)]
  | 4 => [(.iload_n 3, 0, 0, 0, 0), (.bipush 14, 0, 0, 0, 14), (.if_icmp .ge 26, 33, 0, 0, 0), (.iload_n 1, 0, 0, 0, 0), (.iload_n 3, 0, 0, 0, 0), (.ishr, 0, 0, 0, 0), (.iconst 1, 0, 0, 0, 1), (.iand, 0, 0, 0, 0), (.ifCond .eq 12, 27, 0, 0, 0), (.iload_n 2, 0, 0, 0, 0), (.aload_n 0, 0, 0, 0, 0), (.iload_n 3, 0, 0, 0, 0), (.iconst 4, 0, 0, 0, 4), (.invokevirtual 60, 90, 2, 10, 0), (.iadd, 0, 0, 0, 0), (.istore_n 2, 0, 0, 0, 0)]
  | 27 => [(.iinc 3 1, 0, 0, 0, 1), (.goto (-26), 4, 0, 0, 0)]
  | 33 => [(.iload_n 2, 0, 0, 0, 0), (.ireturn, 0, 0, 0, 0)]
  | _ => []
theorem kX10_weightOf (pc : Nat) : chk 100 (bX10_weightOf pc) pc = true := by
  unfold bX10_weightOf; split
  · decide +kernel
  · decide +kernel
  · decide +kernel
  · decide +kernel
  · rfl
