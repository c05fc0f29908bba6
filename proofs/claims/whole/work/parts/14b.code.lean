/-! the code of the methods, as lists (wip/gen/code.py) -/
def bX5_read : Nat → List Ins := fun pc => match pc with
  | 0 => [(.aload_n 0, 0, 0, 0, 0), (.iload_n 1, 0, 0, 0, 0), (.putfield 26, 5, 3, 0, 0), (.aload_n 0, 0, 0, 0, 0), (.iconst 0, 0, 0, 0, 0), (.putfield 29, 5, 5, 0, 0), (.aload_n 0, 0, 0, 0, 0), (.iconst 0, 0, 0, 0, 0), (.putfield 32, 5, 6, 0, 0), (.aload_n 0, 0, 0, 0, 0), (.iconst 0, 0, 0, 0, 0), (.putfield 35, 5, 7, 0, 0), (.aload_n 0, 0, 0, 0, 0), (.iconst 0, 0, 0, 0, 0), (.putfield 38, 5, 8, 0, 0), (.aload_n 0, 0, 0, 0, 0), (.invokevirtual 41, 48, 0, 5, 0), (.aload_n 0, 0, 0, 0, 0), (.invokevirtual 44, 37, 0, 5, 0), (.istore_n 2, 0, 0, 0, 0), (.iconst 1, 0, 0, 0, 1), (.istore_n 3, 0, 0, 0, 0), (.iconst 0, 0, 0, 0, 0), (.istore 4, 0, 0, 0, 0)]
  | 39 => [(.iload 4, 0, 0, 0, 0), (.bipush 12, 0, 0, 0, 12), (.if_icmp .ge 48, 91, 0, 0, 0), (.iload_n 2, 0, 0, 0, 0), (.ifCond .eq 44, 91, 0, 0, 0), (.aload_n 0, 0, 0, 0, 0), (.ldc 48, 25, 1, 0, 0), (.invokevirtual 50, 50, 1, 5, 0), (.ifCond .eq 35, 91, 0, 0, 0), (.aload_n 0, 0, 0, 0, 0), (.invokevirtual 41, 48, 0, 5, 0), (.iload_n 3, 0, 0, 0, 0), (.bipush 12, 0, 0, 0, 12), (.if_icmp .ge 14, 80, 0, 0, 0), (.aload_n 0, 0, 0, 0, 0), (.invokevirtual 44, 37, 0, 5, 0), (.ifCond .eq 7, 80, 0, 0, 0), (.iconst 1, 0, 0, 0, 1), (.goto 4, 81, 0, 0, 0)]
  | 80 => [(.iconst 0, 0, 0, 0, 0)]
  | 81 => [(.istore_n 2, 0, 0, 0, 0), (.iinc 3 1, 0, 0, 0, 1), (.iinc 4 1, 0, 0, 0, 1), (.goto (-49), 39, 0, 0, 0)]
  | 91 => [(.iload_n 2, 0, 0, 0, 0), (.ifCond .eq 14, 106, 0, 0, 0), (.aload_n 0, 0, 0, 0, 0), (.getfield 54, 5, 4, 0, 0), (.aload_n 0, 0, 0, 0, 0), (.getfield 26, 5, 3, 0, 0), (.if_icmp .ge 13, 116, 0, 0, 0)]
  | 106 => [(.aload_n 0, 0, 0, 0, 0), (.aload_n 0, 0, 0, 0, 0), (.getfield 54, 5, 4, 0, 0), (.putfield 18, 5, 9, 0, 0), (.aconst_null, 0, 0, 0, 0), (.areturn, 0, 0, 0, 0)]
  | 116 => [(.aload_n 0, 0, 0, 0, 0), (.iconst (-1), 0, 0, 0, (-1)), (.putfield 18, 5, 9, 0, 0)]
  | _ => []
theorem kX5_read (pc : Nat) : chk 36 (bX5_read pc) pc = true := by
  unfold bX5_read; split
  · decide +kernel
  · decide +kernel
  · decide +kernel
  · decide +kernel
  · decide +kernel
  · decide +kernel
  · decide +kernel
  · rfl
def bX5_readClause : Nat → List Ins := fun pc => match pc with
  | 0 => [(.aload_n 0, 0, 0, 0, 0), (.invokevirtual 62, 53, 0, 5, 0), (.aload_n 0, 0, 0, 0, 0), (.ldc 65, 0, 1, 0, 0), (.invokevirtual 50, 50, 1, 5, 0), (.istore_n 1, 0, 0, 0, 0), (.iload_n 1, 0, 0, 0, 0), (.ifCond .eq 10, 22, 0, 0, 0), (.aload_n 0, 0, 0, 0, 0), (.invokevirtual 41, 48, 0, 5, 0), (.goto 22, 41, 0, 0, 0)]
  | 22 => [(.aload_n 0, 0, 0, 0, 0), (.ldc 67, 1, 1, 0, 0), (.invokevirtual 50, 50, 1, 5, 0), (.ifCond .eq 13, 41, 0, 0, 0), (.aload_n 0, 0, 0, 0, 0), (.invokevirtual 41, 48, 0, 5, 0), (.aload_n 0, 0, 0, 0, 0), (.iconst 0, 0, 0, 0, 0), (.invokevirtual 69, 42, 1, 5, 0), (.istore_n 1, 0, 0, 0, 0)]
  | 41 => [(.aload_n 0, 0, 0, 0, 0), (.invokevirtual 62, 53, 0, 5, 0), (.iload_n 1, 0, 0, 0, 0), (.ifCond .eq 22, 68, 0, 0, 0), (.aload_n 0, 0, 0, 0, 0), (.ldc 73, 24, 1, 0, 0), (.invokevirtual 50, 50, 1, 5, 0), (.ifCond .eq 13, 68, 0, 0, 0), (.aload_n 0, 0, 0, 0, 0), (.invokevirtual 41, 48, 0, 5, 0), (.aload_n 0, 0, 0, 0, 0), (.iconst 0, 0, 0, 0, 0), (.invokevirtual 75, 38, 1, 5, 0), (.ireturn, 1, 0, 0, 0)]
  | 68 => [(.iload_n 1, 0, 0, 0, 0), (.ireturn, 1, 0, 0, 0)]
  | _ => []
theorem kX5_readClause (pc : Nat) : chk 37 (bX5_readClause pc) pc = true := by
  unfold bX5_readClause; split
  · decide +kernel
  · decide +kernel
  · decide +kernel
  · decide +kernel
  · rfl
def bX5_readTest : Nat → List Ins := fun pc => match pc with
  | 0 => [(.aload_n 0, 0, 0, 0, 0), (.iload_n 1, 0, 0, 0, 0), (.invokevirtual 78, 39, 1, 5, 0), (.istore_n 2, 0, 0, 0, 0), (.iconst 0, 0, 0, 0, 0), (.istore_n 3, 0, 0, 0, 0)]
  | 8 => [(.iload_n 3, 0, 0, 0, 0), (.sipush 400, 0, 0, 0, 400), (.if_icmp .ge 47, 59, 0, 0, 0), (.iload_n 2, 0, 0, 0, 0), (.ifCond .eq 43, 59, 0, 0, 0), (.aload_n 0, 0, 0, 0, 0), (.ldc 81, 11, 1, 0, 0), (.invokevirtual 50, 50, 1, 5, 0), (.ifCond .eq 34, 59, 0, 0, 0), (.aload_n 0, 0, 0, 0, 0), (.bipush 11, 0, 0, 0, 11), (.iconst 0, 0, 0, 0, 0), (.invokevirtual 83, 51, 2, 5, 0), (.istore 4, 0, 0, 0, 0), (.aload_n 0, 0, 0, 0, 0), (.invokevirtual 41, 48, 0, 5, 0), (.aload_n 0, 0, 0, 0, 0), (.iload_n 1, 0, 0, 0, 0), (.invokevirtual 78, 39, 1, 5, 0), (.istore_n 2, 0, 0, 0, 0), (.aload_n 0, 0, 0, 0, 0), (.iload 4, 0, 0, 0, 0), (.invokevirtual 87, 52, 1, 5, 0), (.iinc 3 1, 0, 0, 0, 1), (.goto (-48), 8, 0, 0, 0)]
  | 59 => [(.iload_n 2, 0, 0, 0, 0), (.ireturn, 1, 0, 0, 0)]
  | _ => []
theorem kX5_readTest (pc : Nat) : chk 38 (bX5_readTest pc) pc = true := by
  unfold bX5_readTest; split
  · decide +kernel
  · decide +kernel
  · decide +kernel
  · rfl
def bX5_readBoth : Nat → List Ins := fun pc => match pc with
  | 0 => [(.aload_n 0, 0, 0, 0, 0), (.iload_n 1, 0, 0, 0, 0), (.invokevirtual 91, 40, 1, 5, 0), (.istore_n 2, 0, 0, 0, 0), (.iconst 0, 0, 0, 0, 0), (.istore_n 3, 0, 0, 0, 0)]
  | 8 => [(.iload_n 3, 0, 0, 0, 0), (.sipush 400, 0, 0, 0, 400), (.if_icmp .ge 47, 59, 0, 0, 0), (.iload_n 2, 0, 0, 0, 0), (.ifCond .eq 43, 59, 0, 0, 0), (.aload_n 0, 0, 0, 0, 0), (.ldc 94, 10, 1, 0, 0), (.invokevirtual 50, 50, 1, 5, 0), (.ifCond .eq 34, 59, 0, 0, 0), (.aload_n 0, 0, 0, 0, 0), (.bipush 10, 0, 0, 0, 10), (.iconst 0, 0, 0, 0, 0), (.invokevirtual 83, 51, 2, 5, 0), (.istore 4, 0, 0, 0, 0), (.aload_n 0, 0, 0, 0, 0), (.invokevirtual 41, 48, 0, 5, 0), (.aload_n 0, 0, 0, 0, 0), (.iload_n 1, 0, 0, 0, 0), (.invokevirtual 91, 40, 1, 5, 0), (.istore_n 2, 0, 0, 0, 0), (.aload_n 0, 0, 0, 0, 0), (.iload 4, 0, 0, 0, 0), (.invokevirtual 87, 52, 1, 5, 0), (.iinc 3 1, 0, 0, 0, 1), (.goto (-48), 8, 0, 0, 0)]
  | 59 => [(.iload_n 2, 0, 0, 0, 0), (.ireturn, 1, 0, 0, 0)]
  | _ => []
theorem kX5_readBoth (pc : Nat) : chk 39 (bX5_readBoth pc) pc = true := by
  unfold bX5_readBoth; split
  · decide +kernel
  · decide +kernel
  · decide +kernel
  · rfl
def bX5_readPlain : Nat → List Ins := fun pc => match pc with
  | 0 => [(.iconst 0, 0, 0, 0, 0), (.istore_n 2, 0, 0, 0, 0), (.iconst 0, 0, 0, 0, 0), (.istore_n 3, 0, 0, 0, 0)]
  | 4 => [(.iload_n 3, 0, 0, 0, 0), (.sipush 400, 0, 0, 0, 400), (.if_icmp .ge 32, 40, 0, 0, 0), (.aload_n 0, 0, 0, 0, 0), (.ldc 96, 4, 1, 0, 0), (.invokevirtual 50, 50, 1, 5, 0), (.ifCond .eq 23, 40, 0, 0, 0), (.iload_n 2, 0, 0, 0, 0), (.ifCond .ne 7, 28, 0, 0, 0), (.iconst 1, 0, 0, 0, 1), (.goto 4, 29, 0, 0, 0)]
  | 28 => [(.iconst 0, 0, 0, 0, 0)]
  | 29 => [(.istore_n 2, 0, 0, 0, 0), (.aload_n 0, 0, 0, 0, 0), (.invokevirtual 41, 48, 0, 5, 0), (.iinc 3 1, 0, 0, 0, 1), (.goto (-33), 4, 0, 0, 0)]
  | 40 => [(.aload_n 0, 0, 0, 0, 0), (.ldc 98, 5, 1, 0, 0), (.invokevirtual 50, 50, 1, 5, 0), (.ifCond .eq 14, 60, 0, 0, 0), (.aload_n 0, 0, 0, 0, 0), (.iload_n 1, 0, 0, 0, 0), (.iconst 1, 0, 0, 0, 1), (.ldc 100, 6, 1, 0, 0), (.invokevirtual 102, 45, 3, 5, 0), (.goto 8, 65, 0, 0, 0)]
  | 60 => [(.aload_n 0, 0, 0, 0, 0), (.iload_n 1, 0, 0, 0, 0), (.invokevirtual 106, 41, 1, 5, 0)]
  | 65 => [(.istore_n 3, 0, 0, 0, 0), (.iload_n 2, 0, 0, 0, 0), (.ifCond .eq 11, 78, 0, 0, 0), (.aload_n 0, 0, 0, 0, 0), (.bipush 9, 0, 0, 0, 9), (.iconst 0, 0, 0, 0, 0), (.invokevirtual 83, 51, 2, 5, 0), (.pop, 0, 0, 0, 0)]
  | 78 => [(.iload_n 3, 0, 0, 0, 0), (.ireturn, 1, 0, 0, 0)]
  | _ => []
theorem kX5_readPlain (pc : Nat) : chk 40 (bX5_readPlain pc) pc = true := by
  unfold bX5_readPlain; split
  · decide +kernel
  · decide +kernel
  · decide +kernel
  · decide +kernel
  · decide +kernel
  · decide +kernel
  · decide +kernel
  · decide +kernel
  · rfl
def bX5_readCompared : Nat → List Ins := fun pc => match pc with
  | 0 => [(.aload_n 0, 0, 0, 0, 0), (.iload_n 1, 0, 0, 0, 0), (.invokevirtual 69, 42, 1, 5, 0), (.ifCond .ne 5, 10, 0, 0, 0), (.iconst 0, 0, 0, 0, 0), (.ireturn, 1, 0, 0, 0)]
  | 10 => [(.aload_n 0, 0, 0, 0, 0), (.ldc 109, 7, 1, 0, 0), (.invokevirtual 50, 50, 1, 5, 0), (.ifCond .eq 8, 24, 0, 0, 0), (.bipush 6, 0, 0, 0, 6), (.goto 32, 53, 0, 0, 0)]
  | 24 => [(.aload_n 0, 0, 0, 0, 0), (.ldc 111, 8, 1, 0, 0), (.invokevirtual 50, 50, 1, 5, 0), (.ifCond .eq 8, 38, 0, 0, 0), (.bipush 7, 0, 0, 0, 7), (.goto 18, 53, 0, 0, 0)]
  | 38 => [(.aload_n 0, 0, 0, 0, 0), (.ldc 113, 9, 1, 0, 0), (.invokevirtual 50, 50, 1, 5, 0), (.ifCond .eq 8, 52, 0, 0, 0), (.bipush 8, 0, 0, 0, 8), (.goto 4, 53, 0, 0, 0)]
  | 52 => [(.iconst (-1), 0, 0, 0, (-1))]
  | 53 => [(.istore_n 2, 0, 0, 0, 0), (.iload_n 2, 0, 0, 0, 0), (.iconst (-1), 0, 0, 0, (-1)), (.if_icmp .ne 5, 61, 0, 0, 0), (.iconst 0, 0, 0, 0, 0), (.ireturn, 1, 0, 0, 0)]
  | 61 => [(.aload_n 0, 0, 0, 0, 0), (.invokevirtual 41, 48, 0, 5, 0), (.aload_n 0, 0, 0, 0, 0), (.iload_n 1, 0, 0, 0, 0), (.invokevirtual 69, 42, 1, 5, 0), (.istore_n 3, 0, 0, 0, 0), (.aload_n 0, 0, 0, 0, 0), (.iload_n 2, 0, 0, 0, 0), (.iconst 0, 0, 0, 0, 0), (.invokevirtual 83, 51, 2, 5, 0), (.pop, 0, 0, 0, 0), (.iload_n 3, 0, 0, 0, 0), (.ireturn, 1, 0, 0, 0)]
  | _ => []
theorem kX5_readCompared (pc : Nat) : chk 41 (bX5_readCompared pc) pc = true := by
  unfold bX5_readCompared; split
  · decide +kernel
  · decide +kernel
  · decide +kernel
  · decide +kernel
  · decide +kernel
  · decide +kernel
  · decide +kernel
  · rfl
def bX5_readSum : Nat → List Ins := fun pc => match pc with
  | 0 => [(.aload_n 0, 0, 0, 0, 0), (.iload_n 1, 0, 0, 0, 0), (.invokevirtual 115, 43, 1, 5, 0), (.istore_n 2, 0, 0, 0, 0), (.iconst 0, 0, 0, 0, 0), (.istore_n 3, 0, 0, 0, 0)]
  | 8 => [(.iload_n 3, 0, 0, 0, 0), (.sipush 400, 0, 0, 0, 400), (.if_icmp .ge 65, 77, 0, 0, 0), (.iload_n 2, 0, 0, 0, 0), (.ifCond .eq 61, 77, 0, 0, 0), (.aload_n 0, 0, 0, 0, 0), (.ldc 118, 22, 1, 0, 0), (.invokevirtual 50, 50, 1, 5, 0), (.ifCond .ne 12, 37, 0, 0, 0), (.aload_n 0, 0, 0, 0, 0), (.ldc 120, 23, 1, 0, 0), (.invokevirtual 50, 50, 1, 5, 0), (.ifCond .eq 43, 77, 0, 0, 0)]
  | 37 => [(.aload_n 0, 0, 0, 0, 0), (.ldc 118, 22, 1, 0, 0), (.invokevirtual 50, 50, 1, 5, 0), (.ifCond .eq 7, 50, 0, 0, 0), (.iconst 2, 0, 0, 0, 2), (.goto 4, 51, 0, 0, 0)]
  | 50 => [(.iconst 3, 0, 0, 0, 3)]
  | 51 => [(.istore 4, 0, 0, 0, 0), (.aload_n 0, 0, 0, 0, 0), (.invokevirtual 41, 48, 0, 5, 0), (.aload_n 0, 0, 0, 0, 0), (.iload_n 1, 0, 0, 0, 0), (.invokevirtual 115, 43, 1, 5, 0), (.istore_n 2, 0, 0, 0, 0), (.aload_n 0, 0, 0, 0, 0), (.iload 4, 0, 0, 0, 0), (.iconst 0, 0, 0, 0, 0), (.invokevirtual 83, 51, 2, 5, 0), (.pop, 0, 0, 0, 0), (.iinc 3 1, 0, 0, 0, 1), (.goto (-66), 8, 0, 0, 0)]
  | 77 => [(.iload_n 2, 0, 0, 0, 0), (.ireturn, 1, 0, 0, 0)]
  | _ => []
theorem kX5_readSum (pc : Nat) : chk 42 (bX5_readSum pc) pc = true := by
  unfold bX5_readSum; split
  · decide +kernel
  · decide +kernel
  · decide +kernel
  · decide +kernel
  · decide +kernel
  · decide +kernel
  · rfl
def bX5_readTerm : Nat → List Ins := fun pc => match pc with
  | 0 => [(.aload_n 0, 0, 0, 0, 0), (.iload_n 1, 0, 0, 0, 0), (.invokevirtual 122, 44, 1, 5, 0), (.istore_n 2, 0, 0, 0, 0), (.iconst 0, 0, 0, 0, 0), (.istore_n 3, 0, 0, 0, 0)]
  | 8 => [(.iload_n 3, 0, 0, 0, 0), (.sipush 400, 0, 0, 0, 400), (.if_icmp .ge 65, 77, 0, 0, 0), (.iload_n 2, 0, 0, 0, 0), (.ifCond .eq 61, 77, 0, 0, 0), (.aload_n 0, 0, 0, 0, 0), (.ldc 125, 20, 1, 0, 0), (.invokevirtual 50, 50, 1, 5, 0), (.ifCond .ne 12, 37, 0, 0, 0), (.aload_n 0, 0, 0, 0, 0), (.ldc 127, 21, 1, 0, 0), (.invokevirtual 50, 50, 1, 5, 0), (.ifCond .eq 43, 77, 0, 0, 0)]
  | 37 => [(.aload_n 0, 0, 0, 0, 0), (.ldc 125, 20, 1, 0, 0), (.invokevirtual 50, 50, 1, 5, 0), (.ifCond .eq 7, 50, 0, 0, 0), (.iconst 4, 0, 0, 0, 4), (.goto 4, 51, 0, 0, 0)]
  | 50 => [(.iconst 5, 0, 0, 0, 5)]
  | 51 => [(.istore 4, 0, 0, 0, 0), (.aload_n 0, 0, 0, 0, 0), (.invokevirtual 41, 48, 0, 5, 0), (.aload_n 0, 0, 0, 0, 0), (.iload_n 1, 0, 0, 0, 0), (.invokevirtual 122, 44, 1, 5, 0), (.istore_n 2, 0, 0, 0, 0), (.aload_n 0, 0, 0, 0, 0), (.iload 4, 0, 0, 0, 0), (.iconst 0, 0, 0, 0, 0), (.invokevirtual 83, 51, 2, 5, 0), (.pop, 0, 0, 0, 0), (.iinc 3 1, 0, 0, 0, 1), (.goto (-66), 8, 0, 0, 0)]
  | 77 => [(.iload_n 2, 0, 0, 0, 0), (.ireturn, 1, 0, 0, 0)]
  | _ => []
theorem kX5_readTerm (pc : Nat) : chk 43 (bX5_readTerm pc) pc = true := by
  unfold bX5_readTerm; split
  · decide +kernel
  · decide +kernel
  · decide +kernel
  · decide +kernel
  · decide +kernel
  · decide +kernel
  · rfl
def bX5_readPart : Nat → List Ins := fun pc => match pc with
  | 0 => [(.aload_n 0, 0, 0, 0, 0), (.ldc 129, 2, 1, 0, 0), (.invokevirtual 50, 50, 1, 5, 0), (.ifCond .eq 12, 18, 0, 0, 0), (.aload_n 0, 0, 0, 0, 0), (.iload_n 1, 0, 0, 0, 0), (.iconst 0, 0, 0, 0, 0), (.ldc 131, 3, 1, 0, 0), (.invokevirtual 102, 45, 3, 5, 0), (.ireturn, 1, 0, 0, 0)]
  | 18 => [(.aload_n 0, 0, 0, 0, 0), (.invokevirtual 133, 46, 0, 5, 0), (.istore_n 2, 0, 0, 0, 0), (.aload_n 0, 0, 0, 0, 0), (.invokevirtual 137, 47, 0, 5, 0), (.istore_n 3, 0, 0, 0, 0), (.aload_n 0, 0, 0, 0, 0), (.getfield 38, 5, 8, 0, 0), (.bipush 50, 0, 0, 0, 50), (.if_icmp .ge 13, 47, 0, 0, 0), (.iload_n 2, 0, 0, 0, 0), (.iconst (-1), 0, 0, 0, (-1)), (.if_icmp .ne 10, 49, 0, 0, 0), (.iload_n 3, 0, 0, 0, 0), (.iconst (-1), 0, 0, 0, (-1)), (.if_icmp .ne 5, 49, 0, 0, 0)]
  | 47 => [(.iconst 0, 0, 0, 0, 0), (.ireturn, 1, 0, 0, 0)]
  | 49 => [(.aload_n 0, 0, 0, 0, 0), (.dup, 0, 0, 0, 0), (.getfield 38, 5, 8, 0, 0), (.iconst 1, 0, 0, 0, 1), (.iadd, 0, 0, 0, 0), (.putfield 38, 5, 8, 0, 0), (.iload_n 2, 0, 0, 0, 0), (.iconst (-1), 0, 0, 0, (-1)), (.if_icmp .ne 13, 74, 0, 0, 0), (.aload_n 0, 0, 0, 0, 0), (.iconst 0, 0, 0, 0, 0), (.iload_n 3, 0, 0, 0, 0), (.invokevirtual 83, 51, 2, 5, 0), (.pop, 0, 0, 0, 0), (.goto 10, 81, 0, 0, 0)]
  | 74 => [(.aload_n 0, 0, 0, 0, 0), (.iconst 1, 0, 0, 0, 1), (.iload_n 2, 0, 0, 0, 0), (.invokevirtual 83, 51, 2, 5, 0), (.pop, 0, 0, 0, 0)]
  | 81 => [(.aload_n 0, 0, 0, 0, 0), (.invokevirtual 41, 48, 0, 5, 0), (.iconst 1, 0, 0, 0, 1), (.ireturn, 1, 0, 0, 0)]
  | _ => []
theorem kX5_readPart (pc : Nat) : chk 44 (bX5_readPart pc) pc = true := by
  unfold bX5_readPart; split
  · decide +kernel
  · decide +kernel
  · decide +kernel
  · decide +kernel
  · decide +kernel
  · decide +kernel
  · rfl
def bX5_readBracketed : Nat → List Ins := fun pc => match pc with
  | 0 => [(.iload_n 1, 0, 0, 0, 0), (.bipush 8, 0, 0, 0, 8), (.if_icmp .lt 5, 8, 0, 0, 0), (.iconst 0, 0, 0, 0, 0), (.ireturn, 1, 0, 0, 0)]
  | 8 => [(.aload_n 0, 0, 0, 0, 0), (.invokevirtual 41, 48, 0, 5, 0), (.iload_n 2, 0, 0, 0, 0), (.ifCond .eq 13, 26, 0, 0, 0), (.aload_n 0, 0, 0, 0, 0), (.iload_n 1, 0, 0, 0, 0), (.iconst 1, 0, 0, 0, 1), (.iadd, 0, 0, 0, 0), (.invokevirtual 75, 38, 1, 5, 0), (.goto 10, 33, 0, 0, 0)]
  | 26 => [(.aload_n 0, 0, 0, 0, 0), (.iload_n 1, 0, 0, 0, 0), (.iconst 1, 0, 0, 0, 1), (.iadd, 0, 0, 0, 0), (.invokevirtual 69, 42, 1, 5, 0)]
  | 33 => [(.istore 4, 0, 0, 0, 0), (.iload 4, 0, 0, 0, 0), (.ifCond .eq 11, 48, 0, 0, 0), (.aload_n 0, 0, 0, 0, 0), (.aload_n 3, 0, 0, 0, 0), (.invokevirtual 50, 50, 1, 5, 0), (.ifCond .ne 5, 50, 0, 0, 0)]
  | 48 => [(.iconst 0, 0, 0, 0, 0), (.ireturn, 1, 0, 0, 0)]
  | 50 => [(.aload_n 0, 0, 0, 0, 0), (.invokevirtual 41, 48, 0, 5, 0), (.iconst 1, 0, 0, 0, 1), (.ireturn, 1, 0, 0, 0)]
  | _ => []
theorem kX5_readBracketed (pc : Nat) : chk 45 (bX5_readBracketed pc) pc = true := by
  unfold bX5_readBracketed; split
  · decide +kernel
  · decide +kernel
  · decide +kernel
  · decide +kernel
  · decide +kernel
  · decide +kernel
  · rfl
def bX5_namedFact : Nat → List Ins := fun pc => match pc with
  | 0 => [(.aload_n 0, 0, 0, 0, 0), (.ldc 140, 12, 1, 0, 0), (.invokevirtual 50, 50, 1, 5, 0), (.ifCond .eq 6, 12, 0, 0, 0), (.bipush 7, 0, 0, 0, 7), (.ireturn, 0, 0, 0, 0)]
  | 12 => [(.aload_n 0, 0, 0, 0, 0), (.ldc 142, 13, 1, 0, 0), (.invokevirtual 50, 50, 1, 5, 0), (.ifCond .eq 5, 23, 0, 0, 0), (.iconst 0, 0, 0, 0, 0), (.ireturn, 0, 0, 0, 0)]
  | 23 => [(.aload_n 0, 0, 0, 0, 0), (.ldc 144, 14, 1, 0, 0), (.invokevirtual 50, 50, 1, 5, 0), (.ifCond .eq 5, 34, 0, 0, 0), (.iconst 1, 0, 0, 0, 1), (.ireturn, 0, 0, 0, 0)]
  | 34 => [(.aload_n 0, 0, 0, 0, 0), (.ldc 146, 15, 1, 0, 0), (.invokevirtual 50, 50, 1, 5, 0), (.ifCond .eq 5, 45, 0, 0, 0), (.iconst 2, 0, 0, 0, 2), (.ireturn, 0, 0, 0, 0)]
  | 45 => [(.aload_n 0, 0, 0, 0, 0), (.ldc 148, 16, 1, 0, 0), (.invokevirtual 50, 50, 1, 5, 0), (.ifCond .eq 5, 56, 0, 0, 0), (.iconst 3, 0, 0, 0, 3), (.ireturn, 0, 0, 0, 0)]
  | 56 => [(.aload_n 0, 0, 0, 0, 0), (.ldc 150, 17, 1, 0, 0), (.invokevirtual 50, 50, 1, 5, 0), (.ifCond .eq 5, 67, 0, 0, 0), (.iconst 4, 0, 0, 0, 4), (.ireturn, 0, 0, 0, 0)]
  | 67 => [(.aload_n 0, 0, 0, 0, 0), (.ldc 152, 18, 1, 0, 0), (.invokevirtual 50, 50, 1, 5, 0), (.ifCond .eq 5, 78, 0, 0, 0), (.iconst 5, 0, 0, 0, 5), (.ireturn, 0, 0, 0, 0)]
  | 78 => [(.aload_n 0, 0, 0, 0, 0), (.ldc 154, 19, 1, 0, 0), (.invokevirtual 50, 50, 1, 5, 0), (.ifCond .eq 8, 92, 0, 0, 0), (.bipush 6, 0, 0, 0, 6), (.goto 4, 93, 0, 0, 0)]
  | 92 => [(.iconst (-1), 0, 0, 0, (-1))]
  | 93 => [(.ireturn, 0, 0, 0, 0)]
  | _ => []
theorem kX5_namedFact (pc : Nat) : chk 46 (bX5_namedFact pc) pc = true := by
  unfold bX5_namedFact; split
  · decide +kernel
  · decide +kernel
  · decide +kernel
  · decide +kernel
  · decide +kernel
  · decide +kernel
  · decide +kernel
  · decide +kernel
  · decide +kernel
  · decide +kernel
  · rfl
def bX5_numberTold : Nat → List Ins := fun pc => match pc with
  | 0 => [(.aload_n 0, 0, 0, 0, 0), (.getfield 54, 5, 4, 0, 0), (.aload_n 0, 0, 0, 0, 0), (.getfield 26, 5, 3, 0, 0), (.if_icmp .ge 21, 29, 0, 0, 0), (.aload_n 0, 0, 0, 0, 0), (.getfield 22, 5, 2, 0, 0), (.aload_n 0, 0, 0, 0, 0), (.getfield 54, 5, 4, 0, 0), (.invokevirtual 156, 68, 1, 8, 0), (.invokestatic 162, 49, 1, 0, 0), (.iconst 1, 0, 0, 0, 1), (.if_icmp .eq 5, 31, 0, 0, 0)]
  | 29 => [(.iconst (-1), 0, 0, 0, (-1)), (.ireturn, 0, 0, 0, 0)]
  | 31 => [(.iconst 0, 0, 0, 0, 0), (.istore_n 1, 0, 0, 0, 0), (.aload_n 0, 0, 0, 0, 0), (.getfield 54, 5, 4, 0, 0), (.istore_n 2, 0, 0, 0, 0)]
  | 38 => [(.iload_n 2, 0, 0, 0, 0), (.aload_n 0, 0, 0, 0, 0), (.getfield 29, 5, 5, 0, 0), (.if_icmp .ge 33, 76, 0, 0, 0), (.iload_n 1, 0, 0, 0, 0), (.sipush 1000, 0, 0, 0, 1000), (.if_icmp .gt 26, 76, 0, 0, 0), (.iload_n 1, 0, 0, 0, 0), (.bipush 10, 0, 0, 0, 10), (.imul, 0, 0, 0, 0), (.aload_n 0, 0, 0, 0, 0), (.getfield 22, 5, 2, 0, 0), (.iload_n 2, 0, 0, 0, 0), (.invokevirtual 156, 68, 1, 8, 0), (.iadd, 0, 0, 0, 0), (.bipush 48, 0, 0, 0, 48), (.isub, 0, 0, 0, 0), (.istore_n 1, 0, 0, 0, 0), (.iinc 2 1, 0, 0, 0, 1), (.goto (-35), 38, 0, 0, 0)]
  | 76 => [(.iload_n 1, 0, 0, 0, 0), (.sipush 1000, 0, 0, 0, 1000), (.if_icmp .gt 7, 87, 0, 0, 0), (.iload_n 1, 0, 0, 0, 0), (.goto 4, 88, 0, 0, 0)]
  | 87 => [(.iconst (-1), 0, 0, 0, (-1))]
  | 88 => [(.ireturn, 0, 0, 0, 0)]
  | _ => []
theorem kX5_numberTold (pc : Nat) : chk 47 (bX5_numberTold pc) pc = true := by
  unfold bX5_numberTold; split
  · decide +kernel
  · decide +kernel
  · decide +kernel
  · decide +kernel
  · decide +kernel
  · decide +kernel
  · decide +kernel
  · rfl
def bX5_advance : Nat → List Ins := fun pc => match pc with
  | 0 => [(.aload_n 0, 0, 0, 0, 0), (.aload_n 0, 0, 0, 0, 0), (.getfield 29, 5, 5, 0, 0), (.putfield 54, 5, 4, 0, 0)]
  | 8 => [(.aload_n 0, 0, 0, 0, 0), (.getfield 54, 5, 4, 0, 0), (.aload_n 0, 0, 0, 0, 0), (.getfield 26, 5, 3, 0, 0), (.if_icmp .ge 32, 48, 0, 0, 0), (.aload_n 0, 0, 0, 0, 0), (.getfield 22, 5, 2, 0, 0), (.aload_n 0, 0, 0, 0, 0), (.getfield 54, 5, 4, 0, 0), (.invokevirtual 156, 68, 1, 8, 0), (.bipush 32, 0, 0, 0, 32), (.if_icmp .ne 16, 48, 0, 0, 0), (.aload_n 0, 0, 0, 0, 0), (.dup, 0, 0, 0, 0), (.getfield 54, 5, 4, 0, 0), (.iconst 1, 0, 0, 0, 1), (.iadd, 0, 0, 0, 0), (.putfield 54, 5, 4, 0, 0), (.goto (-37), 8, 0, 0, 0)]
  | 48 => [(.aload_n 0, 0, 0, 0, 0), (.aload_n 0, 0, 0, 0, 0), (.getfield 54, 5, 4, 0, 0), (.iconst 1, 0, 0, 0, 1), (.iadd, 0, 0, 0, 0), (.aload_n 0, 0, 0, 0, 0), (.getfield 26, 5, 3, 0, 0), (.invokestatic 165, 239, 2, 1, 0), (.putfield 29, 5, 5, 0, 0), (.aload_n 0, 0, 0, 0, 0), (.getfield 22, 5, 2, 0, 0), (.aload_n 0, 0, 0, 0, 0), (.getfield 54, 5, 4, 0, 0), (.invokevirtual 156, 68, 1, 8, 0), (.invokestatic 162, 49, 1, 0, 0), (.istore_n 1, 0, 0, 0, 0)]
  | 80 => [(.aload_n 0, 0, 0, 0, 0), (.getfield 29, 5, 5, 0, 0), (.aload_n 0, 0, 0, 0, 0), (.getfield 26, 5, 3, 0, 0), (.if_icmp .ge 39, 127, 0, 0, 0), (.iload_n 1, 0, 0, 0, 0), (.iconst 2, 0, 0, 0, 2), (.if_icmp .eq 34, 127, 0, 0, 0), (.aload_n 0, 0, 0, 0, 0), (.getfield 22, 5, 2, 0, 0), (.aload_n 0, 0, 0, 0, 0), (.getfield 29, 5, 5, 0, 0), (.invokevirtual 156, 68, 1, 8, 0), (.invokestatic 162, 49, 1, 0, 0), (.iload_n 1, 0, 0, 0, 0), (.if_icmp .ne 16, 127, 0, 0, 0), (.aload_n 0, 0, 0, 0, 0), (.dup, 0, 0, 0, 0), (.getfield 29, 5, 5, 0, 0), (.iconst 1, 0, 0, 0, 1), (.iadd, 0, 0, 0, 0), (.putfield 29, 5, 5, 0, 0), (.goto (-44), 80, 0, 0, 0)]
  | 127 => [(.return_, 0, 0, 0, 0)]
  | _ => []
theorem kX5_advance (pc : Nat) : chk 48 (bX5_advance pc) pc = true := by
  unfold bX5_advance; split
  · decide +kernel
  · decide +kernel
  · decide +kernel
  · decide +kernel
  · decide +kernel
  · rfl
def bX5_sortOf : Nat → List Ins := fun pc => match pc with
  | 0 => [(.iload_n 0, 0, 0, 0, 0), (.bipush 97, 0, 0, 0, 97), (.if_icmp .lt 11, 14, 0, 0, 0), (.iload_n 0, 0, 0, 0, 0), (.bipush 122, 0, 0, 0, 122), (.if_icmp .gt 5, 14, 0, 0, 0), (.iconst 0, 0, 0, 0, 0), (.ireturn, 0, 0, 0, 0)]
  | 14 => [(.iload_n 0, 0, 0, 0, 0), (.bipush 48, 0, 0, 0, 48), (.if_icmp .lt 13, 30, 0, 0, 0), (.iload_n 0, 0, 0, 0, 0), (.bipush 57, 0, 0, 0, 57), (.if_icmp .gt 7, 30, 0, 0, 0), (.iconst 1, 0, 0, 0, 1), (.goto 4, 31, 0, 0, 0)]
  | 30 => [(.iconst 2, 0, 0, 0, 2)]
  | 31 => [(.ireturn, 0, 0, 0, 0)]
  | _ => []
theorem kX5_sortOf (pc : Nat) : chk 49 (bX5_sortOf pc) pc = true := by
  unfold bX5_sortOf; split
  · decide +kernel
  · decide +kernel
  · decide +kernel
  · decide +kernel
  · rfl
def bX5_is : Nat → List Ins := fun pc => match pc with
  | 0 => [(.aload_n 0, 0, 0, 0, 0), (.getfield 29, 5, 5, 0, 0), (.aload_n 0, 0, 0, 0, 0), (.getfield 54, 5, 4, 0, 0), (.isub, 0, 0, 0, 0), (.aload_n 1, 0, 0, 0, 0)]
  | 18 => [(.iconst 0, 0, 0, 0, 0), (.istore_n 2, 0, 0, 0, 0)]
  | 20 => [(.iload_n 2, 0, 0, 0, 0), (.aload_n 1, 0, 0, 0, 0)]
  | 51 => [(.iinc 2 1, 0, 0, 0, 1), (.goto (-34), 20, 0, 0, 0)]
  | 57 => [(.iconst 1, 0, 0, 0, 1), (.ireturn, 1, 0, 0, 0)]
  | _ => []
theorem kX5_is (pc : Nat) : chk 50 (bX5_is pc) pc = true := by
  unfold bX5_is; split
  · decide +kernel
  · decide +kernel
  · decide +kernel
  · decide +kernel
  · decide +kernel
  · rfl
def bX5_addStep : Nat → List Ins := fun pc => match pc with
  | 0 => [(.aload_n 0, 0, 0, 0, 0), (.getfield 32, 5, 6, 0, 0), (.iconst 0, 0, 0, 0, 0), (.sipush 399, 0, 0, 0, 399), (.invokestatic 178, 142, 3, 0, 0), (.ifCond .ne 5, 16, 0, 0, 0), (.iconst (-1), 0, 0, 0, (-1)), (.ireturn, 0, 0, 0, 0)]
  | 16 => [(.aload_n 0, 0, 0, 0, 0), (.getfield 9, 5, 0, 0, 0), (.aload_n 0, 0, 0, 0, 0), (.getfield 32, 5, 6, 0, 0), (.iload_n 1, 0, 0, 0, 0), (.bipush 10, 0, 0, 0, 10), (.ishl, 0, 0, 0, 0), (.iload_n 2, 0, 0, 0, 0), (.sipush 1023, 0, 0, 0, 1023), (.iand, 0, 0, 0, 0), (.ior, 0, 0, 0, 0), (.iastore, 0, 0, 0, 0), (.aload_n 0, 0, 0, 0, 0), (.dup, 0, 0, 0, 0), (.getfield 32, 5, 6, 0, 0), (.iconst 1, 0, 0, 0, 1), (.iadd, 0, 0, 0, 0), (.putfield 32, 5, 6, 0, 0), (.aload_n 0, 0, 0, 0, 0), (.getfield 32, 5, 6, 0, 0), (.iconst 1, 0, 0, 0, 1), (.isub, 0, 0, 0, 0), (.ireturn, 0, 0, 0, 0)]
  | _ => []
theorem kX5_addStep (pc : Nat) : chk 51 (bX5_addStep pc) pc = true := by
  unfold bX5_addStep; split
  · decide +kernel
  · decide +kernel
  · rfl
def bX5_aimHere : Nat → List Ins := fun pc => match pc with
  | 0 => [(.iload_n 1, 0, 0, 0, 0), (.iconst 0, 0, 0, 0, 0), (.sipush 399, 0, 0, 0, 399), (.invokestatic 178, 142, 3, 0, 0), (.ifCond .eq 20, 28, 0, 0, 0), (.aload_n 0, 0, 0, 0, 0), (.getfield 9, 5, 0, 0, 0), (.iload_n 1, 0, 0, 0, 0), (.dup2, 0, 0, 0, 0), (.iaload, 0, 0, 0, 0), (.aload_n 0, 0, 0, 0, 0), (.getfield 32, 5, 6, 0, 0), (.sipush 1023, 0, 0, 0, 1023), (.iand, 0, 0, 0, 0), (.ior, 0, 0, 0, 0), (.iastore, 0, 0, 0, 0)]
  | 28 => [(.return_, 0, 0, 0, 0)]
  | _ => []
theorem kX5_aimHere (pc : Nat) : chk 52 (bX5_aimHere pc) pc = true := by
  unfold bX5_aimHere; split
  · decide +kernel
  · decide +kernel
  · rfl
def bX5_mark : Nat → List Ins := fun pc => match pc with
  | 0 => [(.aload_n 0, 0, 0, 0, 0), (.getfield 35, 5, 7, 0, 0), (.iconst 0, 0, 0, 0, 0), (.aload_n 0, 0, 0, 0, 0), (.getfield 15, 5, 1, 0, 0), (.arraylength, 0, 0, 0, 0), (.iconst 1, 0, 0, 0, 1), (.isub, 0, 0, 0, 0), (.invokestatic 178, 142, 3, 0, 0), (.ifCond .eq 26, 41, 0, 0, 0), (.aload_n 0, 0, 0, 0, 0), (.getfield 15, 5, 1, 0, 0), (.aload_n 0, 0, 0, 0, 0), (.getfield 35, 5, 7, 0, 0), (.aload_n 0, 0, 0, 0, 0), (.getfield 32, 5, 6, 0, 0), (.iastore, 0, 0, 0, 0), (.aload_n 0, 0, 0, 0, 0), (.dup, 0, 0, 0, 0), (.getfield 35, 5, 7, 0, 0), (.iconst 1, 0, 0, 0, 1), (.iadd, 0, 0, 0, 0), (.putfield 35, 5, 7, 0, 0)]
  | 41 => [(.return_, 0, 0, 0, 0)]
  | _ => []
theorem kX5_mark (pc : Nat) : chk 53 (bX5_mark pc) pc = true := by
  unfold bX5_mark; split
  · decide +kernel
  · decide +kernel
  · rfl
def bX6_pass : Nat → List Ins := fun pc => match pc with
  | 0 => [(.aload_n 0, 0, 0, 0, 0), (.iload_n 3, 0, 0, 0, 0), (.putfield 15, 6, 2, 0, 0), (.aload_n 0, 0, 0, 0, 0), (.bipush 40, 0, 0, 0, 40), (.iload 4, 0, 0, 0, 0), (.invokestatic 19, 239, 2, 1, 0), (.putfield 25, 6, 1, 0, 0), (.aload_n 1, 0, 0, 0, 0), (.getfield 28, 10, 5, 0, 0), (.istore 5, 0, 0, 0, 0), (.iconst 0, 0, 0, 0, 0), (.istore 6, 0, 0, 0, 0)]
  | 25 => [(.iload 6, 0, 0, 0, 0), (.aload_n 0, 0, 0, 0, 0), (.getfield 25, 6, 1, 0, 0), (.if_icmp .ge 56, 87, 0, 0, 0), (.aload_n 2, 0, 0, 0, 0), (.iload 5, 0, 0, 0, 0), (.aload_n 0, 0, 0, 0, 0), (.aload_n 1, 0, 0, 0, 0), (.iload 5, 0, 0, 0, 0), (.invokevirtual 33, 57, 2, 6, 0), (.iconst (-1), 0, 0, 0, (-1)), (.ixor, 0, 0, 0, 0), (.iand, 0, 0, 0, 0), (.invokevirtual 37, 22, 1, 2, 0), (.istore 5, 0, 0, 0, 0), (.iload 5, 0, 0, 0, 0), (.aload_n 2, 0, 0, 0, 0), (.iload 5, 0, 0, 0, 0), (.aload_n 1, 0, 0, 0, 0), (.invokevirtual 43, 97, 0, 10, 0), (.iload 5, 0, 0, 0, 0), (.iconst (-1), 0, 0, 0, (-1)), (.ixor, 0, 0, 0, 0), (.iand, 0, 0, 0, 0), (.invokestatic 47, 59, 3, 0, 0), (.ior, 0, 0, 0, 0), (.istore 5, 0, 0, 0, 0), (.aload_n 0, 0, 0, 0, 0), (.getfield 11, 6, 0, 0, 0), (.iload 6, 0, 0, 0, 0), (.iload 5, 0, 0, 0, 0), (.iastore, 0, 0, 0, 0), (.iinc 6 1, 0, 0, 0, 1), (.goto (-59), 25, 0, 0, 0)]
  | 87 => [(.iload 5, 0, 0, 0, 0), (.invokestatic 51, 236, 1, 0, 0), (.ireturn, 0, 0, 0, 0)]
  | _ => []
theorem kX6_pass (pc : Nat) : chk 55 (bX6_pass pc) pc = true := by
  unfold bX6_pass; split
  · decide +kernel
  · decide +kernel
  · decide +kernel
  · rfl
def bX6_leftBehind : Nat → List Ins := fun pc => match pc with
  | 0 => [(.iload_n 1, 0, 0, 0, 0), (.iconst 0, 0, 0, 0, 0), (.aload_n 0, 0, 0, 0, 0), (.getfield 25, 6, 1, 0, 0), (.iconst 1, 0, 0, 0, 1), (.isub, 0, 0, 0, 0), (.invokestatic 56, 142, 3, 0, 0), (.ifCond .eq 18, 29, 0, 0, 0), (.iload_n 1, 0, 0, 0, 0), (.bipush 40, 0, 0, 0, 40), (.if_icmp .ge 12, 29, 0, 0, 0), (.aload_n 0, 0, 0, 0, 0), (.getfield 11, 6, 0, 0, 0), (.iload_n 1, 0, 0, 0, 0), (.iaload, 0, 0, 0, 0), (.goto 4, 30, 0, 0, 0)]
  | 29 => [(.iconst (-1), 0, 0, 0, (-1))]
  | 30 => [(.ireturn, 0, 0, 0, 0)]
  | _ => []
theorem kX6_leftBehind (pc : Nat) : chk 56 (bX6_leftBehind pc) pc = true := by
  unfold bX6_leftBehind; split
  · decide +kernel
  · decide +kernel
  · decide +kernel
  · rfl
def bX6_frozen : Nat → List Ins := fun pc => match pc with
  | 0 => [(.iconst 0, 0, 0, 0, 0), (.istore_n 3, 0, 0, 0, 0), (.iconst 0, 0, 0, 0, 0), (.istore 4, 0, 0, 0, 0)]
  | 5 => [(.iload 4, 0, 0, 0, 0), (.bipush 14, 0, 0, 0, 14), (.if_icmp .ge 42, 51, 0, 0, 0), (.iload_n 2, 0, 0, 0, 0), (.iload 4, 0, 0, 0, 0), (.ishr, 0, 0, 0, 0), (.iconst 1, 0, 0, 0, 1), (.iand, 0, 0, 0, 0), (.ifCond .eq 27, 45, 0, 0, 0), (.aload_n 0, 0, 0, 0, 0), (.bipush 100, 0, 0, 0, 100), (.invokevirtual 60, 58, 1, 6, 0), (.aload_n 1, 0, 0, 0, 0), (.iload 4, 0, 0, 0, 0), (.bipush 6, 0, 0, 0, 6), (.invokevirtual 63, 90, 2, 10, 0), (.if_icmp .ge 10, 45, 0, 0, 0), (.iload_n 3, 0, 0, 0, 0), (.iconst 1, 0, 0, 0, 1), (.iload 4, 0, 0, 0, 0), (.ishl, 0, 0, 0, 0), (.ior, 0, 0, 0, 0), (.istore_n 3, 0, 0, 0, 0)]
  | 45 => [(.iinc 4 1, 0, 0, 0, 1), (.goto (-43), 5, 0, 0, 0)]
  | 51 => [(.iload_n 3, 0, 0, 0, 0), (.ireturn, 0, 0, 0, 0)]
  | _ => []
theorem kX6_frozen (pc : Nat) : chk 57 (bX6_frozen pc) pc = true := by
  unfold bX6_frozen; split
  · decide +kernel
  · decide +kernel
  · decide +kernel
  · decide +kernel
  · rfl
def bX6_draw : Nat → List Ins := fun pc => match pc with
  | 0 => [(.aload_n 0, 0, 0, 0, 0), (.aload_n 0, 0, 0, 0, 0), (.getfield 15, 6, 2, 0, 0), (.i2l, 0, 0, 0, 0), (.ldc2_w 66, 1103, 0, 0, 0), (.lmul, 0, 0, 0, 0), (.ldc2_w 68, 12345, 0, 0, 0), (.ladd, 0, 0, 0, 0), (.ldc2_w 70, 1000003, 0, 0, 0), (.lrem, 0, 0, 0, 0), (.l2i, 0, 0, 0, 0), (.putfield 15, 6, 2, 0, 0), (.iload_n 1, 0, 0, 0, 0), (.ifCond .le 12, 35, 0, 0, 0), (.aload_n 0, 0, 0, 0, 0), (.getfield 15, 6, 2, 0, 0), (.iload_n 1, 0, 0, 0, 0), (.irem, 0, 0, 0, 0), (.goto 4, 36, 0, 0, 0)]
  | 35 => [(.iconst 0, 0, 0, 0, 0)]
  | 36 => [(.ireturn, 0, 0, 0, 0)]
  | _ => []
theorem kX6_draw (pc : Nat) : chk 58 (bX6_draw pc) pc = true := by
  unfold bX6_draw; split
  · decide +kernel
  · decide +kernel
  · decide +kernel
  · rfl
def bX6_toPutBack : Nat → List Ins := fun pc => match pc with
  | 0 => [(.iconst 0, 0, 0, 0, 0), (.istore_n 3, 0, 0, 0, 0), (.bipush 23, 0, 0, 0, 23), (.istore 4, 0, 0, 0, 0), (.iconst 0, 0, 0, 0, 0), (.istore 5, 0, 0, 0, 0)]
  | 9 => [(.iload 5, 0, 0, 0, 0), (.bipush 14, 0, 0, 0, 14), (.if_icmp .ge 49, 62, 0, 0, 0), (.iconst 1, 0, 0, 0, 1), (.iload 5, 0, 0, 0, 0), (.ishl, 0, 0, 0, 0), (.iload_n 2, 0, 0, 0, 0), (.iand, 0, 0, 0, 0), (.istore 6, 0, 0, 0, 0), (.aload_n 0, 0, 0, 0, 0), (.iload_n 1, 0, 0, 0, 0), (.iload 6, 0, 0, 0, 0), (.ior, 0, 0, 0, 0), (.invokevirtual 72, 21, 1, 2, 0), (.invokestatic 51, 236, 1, 0, 0), (.istore 7, 0, 0, 0, 0), (.iload 6, 0, 0, 0, 0), (.ifCond .eq 17, 56, 0, 0, 0), (.iload 7, 0, 0, 0, 0), (.iload 4, 0, 0, 0, 0), (.if_icmp .ge 10, 56, 0, 0, 0), (.iload 7, 0, 0, 0, 0), (.istore 4, 0, 0, 0, 0), (.iload 6, 0, 0, 0, 0), (.istore_n 3, 0, 0, 0, 0)]
  | 56 => [(.iinc 5 1, 0, 0, 0, 1), (.goto (-50), 9, 0, 0, 0)]
  | 62 => [(.iload_n 3, 0, 0, 0, 0), (.ireturn, 0, 0, 0, 0)]
  | _ => []
theorem kX6_toPutBack (pc : Nat) : chk 59 (bX6_toPutBack pc) pc = true := by
  unfold bX6_toPutBack; split
  · decide +kernel
  · decide +kernel
  · decide +kernel
  · decide +kernel
  · rfl
def bX7_clear : Nat → List Ins := fun pc => match pc with
  | 0 => [(.iconst 0, 0, 0, 0, 0), (.istore_n 1, 0, 0, 0, 0)]
  | 2 => [(.iload_n 1, 0, 0, 0, 0), (.sipush 256, 0, 0, 0, 256), (.if_icmp .ge 16, 22, 0, 0, 0), (.aload_n 0, 0, 0, 0, 0), (.getfield 9, 7, 0, 0, 0), (.iload_n 1, 0, 0, 0, 0), (.lconst 0, 0, 0, 0, 0), (.lastore, 0, 0, 0, 0), (.iinc 1 1, 0, 0, 0, 1), (.goto (-17), 2, 0, 0, 0)]
  | 22 => [(.return_, 0, 0, 0, 0)]
  | _ => []
theorem kX7_clear (pc : Nat) : chk 61 (bX7_clear pc) pc = true := by
  unfold bX7_clear; split
  · decide +kernel
  · decide +kernel
  · decide +kernel
  · rfl
def bX7_add : Nat → List Ins := fun pc => match pc with
  | 0 => [(.iload_n 1, 0, 0, 0, 0), (.iconst 0, 0, 0, 0, 0), (.sipush 16383, 0, 0, 0, 16383), (.invokestatic 15, 142, 3, 0, 0), (.ifCond .eq 21, 29, 0, 0, 0), (.aload_n 0, 0, 0, 0, 0), (.getfield 9, 7, 0, 0, 0), (.iload_n 1, 0, 0, 0, 0), (.bipush 6, 0, 0, 0, 6), (.ishr, 0, 0, 0, 0), (.dup2, 0, 0, 0, 0), (.laload, 0, 0, 0, 0), (.lconst 1, 1, 0, 0, 0), (.iload_n 1, 0, 0, 0, 0), (.bipush 63, 0, 0, 0, 63), (.iand, 0, 0, 0, 0), (.lshl, 0, 0, 0, 0), (.lor, 0, 0, 0, 0), (.lastore, 0, 0, 0, 0)]
  | 29 => [(.return_, 0, 0, 0, 0)]
  | _ => []
theorem kX7_add (pc : Nat) : chk 62 (bX7_add pc) pc = true := by
  unfold bX7_add; split
  · decide +kernel
  · decide +kernel
  · rfl
def bX7_has : Nat → List Ins := fun pc => match pc with
  | 0 => [(.iload_n 1, 0, 0, 0, 0), (.iconst 0, 0, 0, 0, 0), (.sipush 16383, 0, 0, 0, 16383), (.invokestatic 15, 142, 3, 0, 0), (.ifCond .eq 28, 36, 0, 0, 0), (.aload_n 0, 0, 0, 0, 0), (.getfield 9, 7, 0, 0, 0), (.iload_n 1, 0, 0, 0, 0), (.bipush 6, 0, 0, 0, 6), (.ishr, 0, 0, 0, 0), (.laload, 0, 0, 0, 0), (.iload_n 1, 0, 0, 0, 0), (.bipush 63, 0, 0, 0, 63), (.iand, 0, 0, 0, 0), (.lshr, 0, 0, 0, 0), (.lconst 1, 1, 0, 0, 0), (.land, 0, 0, 0, 0), (.lconst 0, 0, 0, 0, 0), (.lcmp, 0, 0, 0, 0), (.ifCond .eq 7, 36, 0, 0, 0), (.iconst 1, 0, 0, 0, 1), (.goto 4, 37, 0, 0, 0)]
  | 36 => [(.iconst 0, 0, 0, 0, 0)]
  | 37 => [(.ireturn, 1, 0, 0, 0)]
  | _ => []
theorem kX7_has (pc : Nat) : chk 63 (bX7_has pc) pc = true := by
  unfold bX7_has; split
  · decide +kernel
  · decide +kernel
  · decide +kernel
  · rfl
def bX7_hasWithoutOne : Nat → List Ins := fun pc => match pc with
  | 0 => [(.iconst 0, 0, 0, 0, 0), (.istore_n 3, 0, 0, 0, 0)]
  | 2 => [(.iload_n 3, 0, 0, 0, 0), (.bipush 14, 0, 0, 0, 14), (.if_icmp .ge 38, 43, 0, 0, 0), (.iconst 1, 0, 0, 0, 1), (.iload_n 3, 0, 0, 0, 0), (.ishl, 0, 0, 0, 0), (.iload_n 2, 0, 0, 0, 0), (.iand, 0, 0, 0, 0), (.iload_n 1, 0, 0, 0, 0), (.iand, 0, 0, 0, 0), (.istore 4, 0, 0, 0, 0), (.iload 4, 0, 0, 0, 0), (.ifCond .eq 18, 37, 0, 0, 0), (.aload_n 0, 0, 0, 0, 0), (.iload_n 1, 0, 0, 0, 0), (.iload 4, 0, 0, 0, 0), (.iconst (-1), 0, 0, 0, (-1)), (.ixor, 0, 0, 0, 0), (.iand, 0, 0, 0, 0), (.invokevirtual 19, 63, 1, 7, 0), (.ifCond .eq 5, 37, 0, 0, 0), (.iconst 1, 0, 0, 0, 1), (.ireturn, 1, 0, 0, 0)]
  | 37 => [(.iinc 3 1, 0, 0, 0, 1), (.goto (-38), 2, 0, 0, 0)]
  | 43 => [(.iconst 0, 0, 0, 0, 0), (.ireturn, 1, 0, 0, 0)]
  | _ => []
theorem kX7_hasWithoutOne (pc : Nat) : chk 64 (bX7_hasWithoutOne pc) pc = true := by
  unfold bX7_hasWithoutOne; split
  · decide +kernel
  · decide +kernel
  · decide +kernel
  · decide +kernel
  · rfl
def bX7_hasWithOne : Nat → List Ins := fun pc => match pc with
  | 0 => [(.iconst 0, 0, 0, 0, 0), (.istore_n 3, 0, 0, 0, 0)]
  | 2 => [(.iload_n 3, 0, 0, 0, 0), (.bipush 14, 0, 0, 0, 14), (.if_icmp .ge 38, 43, 0, 0, 0), (.iconst 1, 0, 0, 0, 1), (.iload_n 3, 0, 0, 0, 0), (.ishl, 0, 0, 0, 0), (.iload_n 2, 0, 0, 0, 0), (.iand, 0, 0, 0, 0), (.iload_n 1, 0, 0, 0, 0), (.iconst (-1), 0, 0, 0, (-1)), (.ixor, 0, 0, 0, 0), (.iand, 0, 0, 0, 0), (.istore 4, 0, 0, 0, 0), (.iload 4, 0, 0, 0, 0), (.ifCond .eq 16, 37, 0, 0, 0), (.aload_n 0, 0, 0, 0, 0), (.iload_n 1, 0, 0, 0, 0), (.iload 4, 0, 0, 0, 0), (.ior, 0, 0, 0, 0), (.invokevirtual 19, 63, 1, 7, 0), (.ifCond .eq 5, 37, 0, 0, 0), (.iconst 1, 0, 0, 0, 1), (.ireturn, 1, 0, 0, 0)]
  | 37 => [(.iinc 3 1, 0, 0, 0, 1), (.goto (-38), 2, 0, 0, 0)]
  | 43 => [(.iconst 0, 0, 0, 0, 0), (.ireturn, 1, 0, 0, 0)]
  | _ => []
theorem kX7_hasWithOne (pc : Nat) : chk 65 (bX7_hasWithOne pc) pc = true := by
  unfold bX7_hasWithOne; split
  · decide +kernel
  · decide +kernel
  · decide +kernel
  · decide +kernel
  · rfl
def bX8_add : Nat → List Ins := fun pc => match pc with
  | 0 => [(.bipush 24, 0, 0, 0, 24), (.istore_n 2, 0, 0, 0, 0)]
  | 3 => [(.iload_n 2, 0, 0, 0, 0), (.ifCond .lt 49, 53, 0, 0, 0), (.aload_n 0, 0, 0, 0, 0), (.getfield 15, 8, 1, 0, 0), (.iconst 0, 0, 0, 0, 0), (.sipush 399, 0, 0, 0, 399), (.invokestatic 19, 142, 3, 0, 0), (.ifCond .eq 29, 47, 0, 0, 0), (.aload_n 0, 0, 0, 0, 0), (.getfield 9, 8, 0, 0, 0), (.aload_n 0, 0, 0, 0, 0), (.getfield 15, 8, 1, 0, 0), (.iload_n 1, 0, 0, 0, 0), (.iload_n 2, 0, 0, 0, 0), (.iushr, 0, 0, 0, 0), (.sipush 255, 0, 0, 0, 255), (.iand, 0, 0, 0, 0), (.iastore, 0, 0, 0, 0), (.aload_n 0, 0, 0, 0, 0), (.dup, 0, 0, 0, 0), (.getfield 15, 8, 1, 0, 0), (.iconst 1, 0, 0, 0, 1), (.iadd, 0, 0, 0, 0), (.putfield 15, 8, 1, 0, 0)]
  | 47 => [(.iinc 2 (-8), 0, 0, 0, (-8)), (.goto (-47), 3, 0, 0, 0)]
  | 53 => [(.return_, 0, 0, 0, 0)]
  | _ => []
theorem kX8_add (pc : Nat) : chk 67 (bX8_add pc) pc = true := by
  unfold bX8_add; split
  · decide +kernel
  · decide +kernel
  · decide +kernel
  · decide +kernel
  · rfl
def bX8_byteAt : Nat → List Ins := fun pc => match pc with
  | 0 => [(.iload_n 1, 0, 0, 0, 0), (.ifCond .lt 19, 20, 0, 0, 0), (.iload_n 1, 0, 0, 0, 0), (.sipush 400, 0, 0, 0, 400), (.if_icmp .ge 12, 20, 0, 0, 0), (.aload_n 0, 0, 0, 0, 0), (.getfield 9, 8, 0, 0, 0), (.iload_n 1, 0, 0, 0, 0), (.iaload, 0, 0, 0, 0), (.goto 4, 21, 0, 0, 0)]
  | 20 => [(.iconst (-1), 0, 0, 0, (-1))]
  | 21 => [(.ireturn, 0, 0, 0, 0)]
  | _ => []
theorem kX8_byteAt (pc : Nat) : chk 68 (bX8_byteAt pc) pc = true := by
  unfold bX8_byteAt; split
  · decide +kernel
  · decide +kernel
  · decide +kernel
  · rfl
def bbitCount : Nat → List Ins := fun pc => match pc with
  | 0 => [(.iload_n 0, 0, 0, 0, 0), (.iload_n 0, 0, 0, 0, 0), (.iconst 1, 0, 0, 0, 1), (.iushr, 0, 0, 0, 0), (.ldc_w 265, 0, 0, 0, 1431655765), (.iand, 0, 0, 0, 0), (.isub, 0, 0, 0, 0), (.istore_n 0, 0, 0, 0, 0), (.iload_n 0, 0, 0, 0, 0), (.ldc_w 266, 0, 0, 0, 858993459), (.iand, 0, 0, 0, 0), (.iload_n 0, 0, 0, 0, 0), (.iconst 2, 0, 0, 0, 2), (.iushr, 0, 0, 0, 0), (.ldc_w 266, 0, 0, 0, 858993459), (.iand, 0, 0, 0, 0), (.iadd, 0, 0, 0, 0), (.istore_n 0, 0, 0, 0, 0), (.iload_n 0, 0, 0, 0, 0), (.iload_n 0, 0, 0, 0, 0), (.iconst 4, 0, 0, 0, 4), (.iushr, 0, 0, 0, 0), (.iadd, 0, 0, 0, 0), (.ldc_w 267, 0, 0, 0, 252645135), (.iand, 0, 0, 0, 0), (.istore_n 0, 0, 0, 0, 0), (.iload_n 0, 0, 0, 0, 0), (.iload_n 0, 0, 0, 0, 0), (.bipush 8, 0, 0, 0, 8), (.iushr, 0, 0, 0, 0), (.iadd, 0, 0, 0, 0), (.istore_n 0, 0, 0, 0, 0), (.iload_n 0, 0, 0, 0, 0), (.iload_n 0, 0, 0, 0, 0), (.bipush 16, 0, 0, 0, 16), (.iushr, 0, 0, 0, 0), (.iadd, 0, 0, 0, 0), (.istore_n 0, 0, 0, 0, 0), (.iload_n 0, 0, 0, 0, 0), (.bipush 63, 0, 0, 0, 63), (.iand, 0, 0, 0, 0), (.ireturn, 0, 0, 0, 0)]
  | _ => []
theorem kbitCount (pc : Nat) : chk 236 (bbitCount pc) pc = true := by
  unfold bbitCount; split
  · decide +kernel
  · rfl
