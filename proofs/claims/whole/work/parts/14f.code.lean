/-! the code of the methods, as lists (wip/gen/code.py) -/
def bX12_fault : Nat → List Ins := fun pc => match pc with
  | 0 => [(.aload_n 0, 0, 0, 0, 0), (.getfield 40, 12, 11, 0, 0), (.ireturn, 0, 0, 0, 0)]
  | _ => []
theorem kX12_fault (pc : Nat) : chk 190 (bX12_fault pc) pc = true := by
  unfold bX12_fault; split
  · decide +kernel
  · rfl
def bX12_force : Nat → List Ins := fun pc => match pc with
  | 0 => [(.iload_n 1, 0, 0, 0, 0), (.iconst (-1), 0, 0, 0, (-1)), (.aload_n 0, 0, 0, 0, 0), (.getfield 20, 12, 3, 0, 0), (.sipush 160, 0, 0, 0, 160), (.iaload, 0, 0, 0, 0), (.iconst 1, 0, 0, 0, 1), (.isub, 0, 0, 0, 0), (.invokestatic 91, 144, 3, 0, 0), (.ifCond .ne 10, 25, 0, 0, 0), (.aload_n 0, 0, 0, 0, 0), (.bipush (-2), 0, 0, 0, (-2)), (.invokevirtual 95, 145, 1, 12, 0), (.ireturn, 0, 0, 0, 0)]
  | 25 => [(.aload_n 0, 0, 0, 0, 0), (.getfield 20, 12, 3, 0, 0), (.sipush 161, 0, 0, 0, 161), (.iaload, 0, 0, 0, 0), (.istore_n 2, 0, 0, 0, 0), (.aload_n 0, 0, 0, 0, 0), (.getfield 20, 12, 3, 0, 0), (.sipush 161, 0, 0, 0, 161), (.iload_n 1, 0, 0, 0, 0), (.iastore, 0, 0, 0, 0), (.aload_n 0, 0, 0, 0, 0), (.iload_n 2, 0, 0, 0, 0), (.invokevirtual 99, 146, 1, 12, 0), (.ireturn, 0, 0, 0, 0)]
  | _ => []
theorem kX12_force (pc : Nat) : chk 191 (bX12_force pc) pc = true := by
  unfold bX12_force; split
  · decide +kernel
  · decide +kernel
  · rfl
def bX12_codeAt : Nat → List Ins := fun pc => match pc with
  | 0 => [(.iload_n 1, 0, 0, 0, 0), (.aload_n 0, 0, 0, 0, 0), (.getfield 215, 12, 20, 0, 0), (.if_icmp .ge 16, 21, 0, 0, 0), (.aload_n 0, 0, 0, 0, 0), (.getfield 20, 12, 3, 0, 0), (.sipush 168, 0, 0, 0, 168), (.iload_n 1, 0, 0, 0, 0), (.iadd, 0, 0, 0, 0), (.iaload, 0, 0, 0, 0), (.goto 4, 22, 0, 0, 0)]
  | 21 => [(.iconst 0, 0, 0, 0, 0)]
  | 22 => [(.ireturn, 0, 0, 0, 0)]
  | _ => []
theorem kX12_codeAt (pc : Nat) : chk 192 (bX12_codeAt pc) pc = true := by
  unfold bX12_codeAt; split
  · decide +kernel
  · decide +kernel
  · decide +kernel
  · rfl
def bX12_passes0 : Nat → List Ins := fun pc => match pc with
  | 0 => [(.aload_n 0, 0, 0, 0, 0), (.aload_n 0, 0, 0, 0, 0), (.getfield 218, 12, 19, 0, 0), (.invokevirtual 221, 192, 1, 12, 0), (.iload_n 1, 0, 0, 0, 0), (.if_icmp .ne 7, 16, 0, 0, 0), (.iconst 1, 0, 0, 0, 1), (.goto 4, 17, 0, 0, 0)]
  | 16 => [(.iconst 0, 0, 0, 0, 0)]
  | 17 => [(.istore_n 2, 0, 0, 0, 0), (.iload_n 2, 0, 0, 0, 0), (.ifCond .eq 13, 32, 0, 0, 0), (.aload_n 0, 0, 0, 0, 0), (.dup, 0, 0, 0, 0), (.getfield 218, 12, 19, 0, 0), (.iconst 1, 0, 0, 0, 1), (.iadd, 0, 0, 0, 0), (.putfield 218, 12, 19, 0, 0)]
  | 32 => [(.iload_n 2, 0, 0, 0, 0), (.ireturn, 1, 0, 0, 0)]
  | _ => []
theorem kX12_passes0 (pc : Nat) : chk 193 (bX12_passes0 pc) pc = true := by
  unfold bX12_passes0; split
  · decide +kernel
  · decide +kernel
  · decide +kernel
  · decide +kernel
  · rfl
def bX12_bounded : Nat → List Ins := fun pc => match pc with
  | 0 => [(.iload_n 3, 0, 0, 0, 0), (.ifCond .eq 24, 25, 0, 0, 0), (.lload_n 1, 0, 0, 0, 0), (.ldc2_w 224, 1000000000, 0, 0, 0), (.lcmp, 0, 0, 0, 0), (.ifCond .gt 11, 20, 0, 0, 0), (.lload_n 1, 0, 0, 0, 0), (.ldc2_w 226, 1000000000, 1, 0, 0), (.lcmp, 0, 0, 0, 0), (.ifCond .ge 8, 25, 0, 0, 0)]
  | 20 => [(.aload_n 0, 0, 0, 0, 0), (.iconst 1, 0, 0, 0, 1), (.putfield 228, 12, 21, 1, 0)]
  | 25 => [(.aload_n 0, 0, 0, 0, 0), (.getfield 228, 12, 21, 0, 0), (.ifCond .eq 7, 36, 0, 0, 0), (.lconst 0, 0, 0, 0, 0), (.goto 4, 37, 0, 0, 0)]
  | 36 => [(.lload_n 1, 0, 0, 0, 0)]
  | 37 => [(.lreturn, 0, 0, 0, 0)]
  | _ => []
theorem kX12_bounded (pc : Nat) : chk 194 (bX12_bounded pc) pc = true := by
  unfold bX12_bounded; split
  · decide +kernel
  · decide +kernel
  · decide +kernel
  · decide +kernel
  · decide +kernel
  · rfl
def bX12_sumOf : Nat → List Ins := fun pc => match pc with
  | 0 => [(.aload_n 0, 0, 0, 0, 0), (.iload_n 1, 0, 0, 0, 0), (.invokevirtual 232, 196, 1, 12, 0), (.lstore_n 2, 0, 0, 0, 0)]
  | 6 => [(.aload_n 0, 0, 0, 0, 0), (.aload_n 0, 0, 0, 0, 0), (.getfield 218, 12, 19, 0, 0), (.invokevirtual 221, 192, 1, 12, 0), (.bipush 43, 0, 0, 0, 43), (.invokestatic 193, 180, 1, 0, 0), (.if_icmp .eq 19, 38, 0, 0, 0), (.aload_n 0, 0, 0, 0, 0), (.aload_n 0, 0, 0, 0, 0), (.getfield 218, 12, 19, 0, 0), (.invokevirtual 221, 192, 1, 12, 0), (.bipush 45, 0, 0, 0, 45), (.invokestatic 193, 180, 1, 0, 0), (.if_icmp .ne 68, 103, 0, 0, 0)]
  | 38 => [(.aload_n 0, 0, 0, 0, 0), (.aload_n 0, 0, 0, 0, 0), (.getfield 218, 12, 19, 0, 0), (.invokevirtual 221, 192, 1, 12, 0), (.bipush 43, 0, 0, 0, 43), (.invokestatic 193, 180, 1, 0, 0), (.if_icmp .ne 7, 58, 0, 0, 0), (.iconst 1, 0, 0, 0, 1), (.goto 4, 59, 0, 0, 0)]
  | 58 => [(.iconst 0, 0, 0, 0, 0)]
  | 59 => [(.istore 4, 0, 0, 0, 0), (.aload_n 0, 0, 0, 0, 0), (.dup, 0, 0, 0, 0), (.getfield 218, 12, 19, 0, 0), (.iconst 1, 0, 0, 0, 1), (.iadd, 0, 0, 0, 0), (.putfield 218, 12, 19, 0, 0), (.aload_n 0, 0, 0, 0, 0), (.iload_n 1, 0, 0, 0, 0), (.invokevirtual 232, 196, 1, 12, 0), (.lstore 5, 0, 0, 0, 0), (.aload_n 0, 0, 0, 0, 0), (.iload 4, 0, 0, 0, 0), (.ifCond .eq 10, 91, 0, 0, 0), (.lload_n 2, 0, 0, 0, 0), (.lload 5, 0, 0, 0, 0), (.ladd, 0, 0, 0, 0), (.goto 7, 95, 0, 0, 0)]
  | 91 => [(.lload_n 2, 0, 0, 0, 0), (.lload 5, 0, 0, 0, 0), (.lsub, 0, 0, 0, 0)]
  | 95 => [(.iload_n 1, 0, 0, 0, 0), (.invokevirtual 236, 194, 2, 12, 0), (.lstore_n 2, 0, 0, 0, 0), (.goto (-94), 6, 0, 0, 0)]
  | 103 => [(.lload_n 2, 0, 0, 0, 0), (.lreturn, 0, 0, 0, 0)]
  | _ => []
theorem kX12_sumOf (pc : Nat) : chk 195 (bX12_sumOf pc) pc = true := by
  unfold bX12_sumOf; split
  · decide +kernel
  · decide +kernel
  · decide +kernel
  · decide +kernel
  · decide +kernel
  · decide +kernel
  · decide +kernel
  · decide +kernel
  · rfl
def bX12_termOf : Nat → List Ins := fun pc => match pc with
  | 0 => [(.aload_n 0, 0, 0, 0, 0), (.iload_n 1, 0, 0, 0, 0), (.invokevirtual 240, 197, 1, 12, 0), (.lstore_n 2, 0, 0, 0, 0)]
  | 6 => [(.aload_n 0, 0, 0, 0, 0), (.aload_n 0, 0, 0, 0, 0), (.getfield 218, 12, 19, 0, 0), (.invokevirtual 221, 192, 1, 12, 0), (.bipush 42, 0, 0, 0, 42), (.invokestatic 193, 180, 1, 0, 0), (.if_icmp .eq 19, 38, 0, 0, 0), (.aload_n 0, 0, 0, 0, 0), (.aload_n 0, 0, 0, 0, 0), (.getfield 218, 12, 19, 0, 0), (.invokevirtual 221, 192, 1, 12, 0), (.bipush 47, 0, 0, 0, 47), (.invokestatic 193, 180, 1, 0, 0), (.if_icmp .ne 103, 138, 0, 0, 0)]
  | 38 => [(.aload_n 0, 0, 0, 0, 0), (.aload_n 0, 0, 0, 0, 0), (.getfield 218, 12, 19, 0, 0), (.invokevirtual 221, 192, 1, 12, 0), (.bipush 42, 0, 0, 0, 42), (.invokestatic 193, 180, 1, 0, 0), (.if_icmp .ne 7, 58, 0, 0, 0), (.iconst 1, 0, 0, 0, 1), (.goto 4, 59, 0, 0, 0)]
  | 58 => [(.iconst 0, 0, 0, 0, 0)]
  | 59 => [(.istore 4, 0, 0, 0, 0), (.aload_n 0, 0, 0, 0, 0), (.dup, 0, 0, 0, 0), (.getfield 218, 12, 19, 0, 0), (.iconst 1, 0, 0, 0, 1), (.iadd, 0, 0, 0, 0), (.putfield 218, 12, 19, 0, 0), (.aload_n 0, 0, 0, 0, 0), (.iload_n 1, 0, 0, 0, 0), (.invokevirtual 240, 197, 1, 12, 0), (.lstore 5, 0, 0, 0, 0), (.iload 4, 0, 0, 0, 0), (.ifCond .ne 33, 113, 0, 0, 0), (.lload 5, 0, 0, 0, 0), (.lconst 0, 0, 0, 0, 0), (.lcmp, 0, 0, 0, 0), (.ifCond .ne 26, 113, 0, 0, 0), (.aload_n 0, 0, 0, 0, 0), (.aload_n 0, 0, 0, 0, 0), (.getfield 228, 12, 21, 0, 0), (.ifCond .ne 7, 102, 0, 0, 0), (.iload_n 1, 0, 0, 0, 0), (.ifCond .eq 7, 106, 0, 0, 0)]
  | 102 => [(.iconst 1, 0, 0, 0, 1), (.goto 4, 107, 0, 0, 0)]
  | 106 => [(.iconst 0, 0, 0, 0, 0)]
  | 107 => [(.putfield 228, 12, 21, 1, 0), (.lconst 1, 1, 0, 0, 0), (.lstore 5, 0, 0, 0, 0)]
  | 113 => [(.aload_n 0, 0, 0, 0, 0), (.iload 4, 0, 0, 0, 0), (.ifCond .eq 10, 126, 0, 0, 0), (.lload_n 2, 0, 0, 0, 0), (.lload 5, 0, 0, 0, 0), (.lmul, 0, 0, 0, 0), (.goto 7, 130, 0, 0, 0)]
  | 126 => [(.lload_n 2, 0, 0, 0, 0), (.lload 5, 0, 0, 0, 0), (.ldiv, 0, 0, 0, 0)]
  | 130 => [(.iload_n 1, 0, 0, 0, 0), (.invokevirtual 236, 194, 2, 12, 0), (.lstore_n 2, 0, 0, 0, 0), (.goto (-129), 6, 0, 0, 0)]
  | 138 => [(.lload_n 2, 0, 0, 0, 0), (.lreturn, 0, 0, 0, 0)]
  | _ => []
theorem kX12_termOf (pc : Nat) : chk 196 (bX12_termOf pc) pc = true := by
  unfold bX12_termOf; split
  · decide +kernel
  · decide +kernel
  · decide +kernel
  · decide +kernel
  · decide +kernel
  · decide +kernel
  · decide +kernel
  · decide +kernel
  · decide +kernel
  · decide +kernel
  · decide +kernel
  · decide +kernel
  · rfl
def bX12_partOf : Nat → List Ins := fun pc => match pc with
  | 0 => [(.aload_n 0, 0, 0, 0, 0), (.bipush 91, 0, 0, 0, 91), (.invokestatic 193, 180, 1, 0, 0), (.invokevirtual 243, 193, 1, 12, 0), (.ifCond .eq 21, 30, 0, 0, 0), (.aload_n 0, 0, 0, 0, 0), (.iload_n 1, 0, 0, 0, 0), (.invokevirtual 246, 195, 1, 12, 0), (.lstore_n 2, 0, 0, 0, 0), (.aload_n 0, 0, 0, 0, 0), (.dup, 0, 0, 0, 0), (.getfield 218, 12, 19, 0, 0), (.iconst 1, 0, 0, 0, 1), (.iadd, 0, 0, 0, 0), (.putfield 218, 12, 19, 0, 0), (.lload_n 2, 0, 0, 0, 0), (.lreturn, 0, 0, 0, 0)]
  | 30 => [(.aload_n 0, 0, 0, 0, 0), (.aload_n 0, 0, 0, 0, 0), (.getfield 218, 12, 19, 0, 0), (.invokevirtual 221, 192, 1, 12, 0), (.istore_n 2, 0, 0, 0, 0), (.aload_n 0, 0, 0, 0, 0), (.dup, 0, 0, 0, 0), (.getfield 218, 12, 19, 0, 0), (.iconst 1, 0, 0, 0, 1), (.iadd, 0, 0, 0, 0), (.putfield 218, 12, 19, 0, 0), (.iload_n 1, 0, 0, 0, 0), (.ifCond .eq 10, 60, 0, 0, 0), (.aload_n 0, 0, 0, 0, 0), (.getfield 228, 12, 21, 0, 0), (.ifCond .eq 5, 62, 0, 0, 0)]
  | 60 => [(.lconst 0, 0, 0, 0, 0), (.lreturn, 0, 0, 0, 0)]
  | 62 => [(.iload_n 2, 0, 0, 0, 0), (.bipush 50, 0, 0, 0, 50), (.if_icmp .ne 22, 87, 0, 0, 0), (.aload_n 0, 0, 0, 0, 0), (.getfield 20, 12, 3, 0, 0), (.sipush 2568, 0, 0, 0, 2568), (.aload_n 0, 0, 0, 0, 0), (.getfield 218, 12, 19, 0, 0), (.iadd, 0, 0, 0, 0), (.iconst 1, 0, 0, 0, 1), (.isub, 0, 0, 0, 0), (.iaload, 0, 0, 0, 0), (.i2l, 0, 0, 0, 0), (.goto 13, 97, 0, 0, 0)]
  | 87 => [(.aload_n 0, 0, 0, 0, 0), (.getfield 52, 12, 22, 0, 0), (.iload_n 2, 0, 0, 0, 0), (.bipush 7, 0, 0, 0, 7), (.isub, 0, 0, 0, 0), (.iaload, 0, 0, 0, 0), (.i2l, 0, 0, 0, 0)]
  | 97 => [(.lreturn, 0, 0, 0, 0)]
  | _ => []
theorem kX12_partOf (pc : Nat) : chk 197 (bX12_partOf pc) pc = true := by
  unfold bX12_partOf; split
  · decide +kernel
  · decide +kernel
  · decide +kernel
  · decide +kernel
  · decide +kernel
  · decide +kernel
  · rfl
def bX12_testOf : Nat → List Ins := fun pc => match pc with
  | 0 => [(.aload_n 0, 0, 0, 0, 0), (.iload_n 1, 0, 0, 0, 0), (.invokevirtual 249, 199, 1, 12, 0), (.istore_n 2, 0, 0, 0, 0)]
  | 6 => [(.aload_n 0, 0, 0, 0, 0), (.iconst 4, 0, 0, 0, 4), (.invokevirtual 243, 193, 1, 12, 0), (.ifCond .eq 38, 49, 0, 0, 0), (.aload_n 0, 0, 0, 0, 0), (.iload_n 1, 0, 0, 0, 0), (.ifCond .eq 11, 27, 0, 0, 0), (.iload_n 2, 0, 0, 0, 0), (.ifCond .ne 7, 27, 0, 0, 0), (.iconst 1, 0, 0, 0, 1), (.goto 4, 28, 0, 0, 0)]
  | 27 => [(.iconst 0, 0, 0, 0, 0)]
  | 28 => [(.invokevirtual 249, 199, 1, 12, 0), (.istore_n 3, 0, 0, 0, 0), (.iload_n 2, 0, 0, 0, 0), (.ifCond .ne 7, 40, 0, 0, 0), (.iload_n 3, 0, 0, 0, 0), (.ifCond .eq 7, 44, 0, 0, 0)]
  | 40 => [(.iconst 1, 0, 0, 0, 1), (.goto 4, 45, 0, 0, 0)]
  | 44 => [(.iconst 0, 0, 0, 0, 0)]
  | 45 => [(.istore_n 2, 0, 0, 0, 0), (.goto (-40), 6, 0, 0, 0)]
  | 49 => [(.iload_n 2, 0, 0, 0, 0), (.ireturn, 1, 0, 0, 0)]
  | _ => []
theorem kX12_testOf (pc : Nat) : chk 198 (bX12_testOf pc) pc = true := by
  unfold bX12_testOf; split
  · decide +kernel
  · decide +kernel
  · decide +kernel
  · decide +kernel
  · decide +kernel
  · decide +kernel
  · decide +kernel
  · decide +kernel
  · rfl
def bX12_bothOf : Nat → List Ins := fun pc => match pc with
  | 0 => [(.aload_n 0, 0, 0, 0, 0), (.iload_n 1, 0, 0, 0, 0), (.invokevirtual 253, 200, 1, 12, 0), (.istore_n 2, 0, 0, 0, 0)]
  | 6 => [(.aload_n 0, 0, 0, 0, 0), (.iconst 5, 0, 0, 0, 5), (.invokevirtual 243, 193, 1, 12, 0), (.ifCond .eq 38, 49, 0, 0, 0), (.aload_n 0, 0, 0, 0, 0), (.iload_n 1, 0, 0, 0, 0), (.ifCond .eq 11, 27, 0, 0, 0), (.iload_n 2, 0, 0, 0, 0), (.ifCond .eq 7, 27, 0, 0, 0), (.iconst 1, 0, 0, 0, 1), (.goto 4, 28, 0, 0, 0)]
  | 27 => [(.iconst 0, 0, 0, 0, 0)]
  | 28 => [(.invokevirtual 253, 200, 1, 12, 0), (.istore_n 3, 0, 0, 0, 0), (.iload_n 2, 0, 0, 0, 0), (.ifCond .eq 11, 44, 0, 0, 0), (.iload_n 3, 0, 0, 0, 0), (.ifCond .eq 7, 44, 0, 0, 0), (.iconst 1, 0, 0, 0, 1), (.goto 4, 45, 0, 0, 0)]
  | 44 => [(.iconst 0, 0, 0, 0, 0)]
  | 45 => [(.istore_n 2, 0, 0, 0, 0), (.goto (-40), 6, 0, 0, 0)]
  | 49 => [(.iload_n 2, 0, 0, 0, 0), (.ireturn, 1, 0, 0, 0)]
  | _ => []
theorem kX12_bothOf (pc : Nat) : chk 199 (bX12_bothOf pc) pc = true := by
  unfold bX12_bothOf; split
  · decide +kernel
  · decide +kernel
  · decide +kernel
  · decide +kernel
  · decide +kernel
  · decide +kernel
  · decide +kernel
  · rfl
def bX12_plainOf : Nat → List Ins := fun pc => match pc with
  | 0 => [(.iconst 0, 0, 0, 0, 0), (.istore_n 2, 0, 0, 0, 0)]
  | 2 => [(.aload_n 0, 0, 0, 0, 0), (.bipush 6, 0, 0, 0, 6), (.invokevirtual 243, 193, 1, 12, 0), (.ifCond .eq 16, 24, 0, 0, 0), (.iload_n 2, 0, 0, 0, 0), (.ifCond .ne 7, 19, 0, 0, 0), (.iconst 1, 0, 0, 0, 1), (.goto 4, 20, 0, 0, 0)]
  | 19 => [(.iconst 0, 0, 0, 0, 0)]
  | 20 => [(.istore_n 2, 0, 0, 0, 0), (.goto (-19), 2, 0, 0, 0)]
  | 24 => [(.aload_n 0, 0, 0, 0, 0), (.iload_n 1, 0, 0, 0, 0), (.invokevirtual 256, 201, 1, 12, 0), (.iload_n 2, 0, 0, 0, 0), (.if_icmp .eq 7, 37, 0, 0, 0), (.iconst 1, 0, 0, 0, 1), (.goto 4, 38, 0, 0, 0)]
  | 37 => [(.iconst 0, 0, 0, 0, 0)]
  | 38 => [(.ireturn, 1, 0, 0, 0)]
  | _ => []
theorem kX12_plainOf (pc : Nat) : chk 200 (bX12_plainOf pc) pc = true := by
  unfold bX12_plainOf; split
  · decide +kernel
  · decide +kernel
  · decide +kernel
  · decide +kernel
  · decide +kernel
  · decide +kernel
  · decide +kernel
  · rfl
def bX12_positiveOf : Nat → List Ins := fun pc => match pc with
  | 0 => [(.aload_n 0, 0, 0, 0, 0), (.bipush 40, 0, 0, 0, 40), (.invokestatic 193, 180, 1, 0, 0), (.invokevirtual 243, 193, 1, 12, 0), (.ifCond .eq 21, 30, 0, 0, 0), (.aload_n 0, 0, 0, 0, 0), (.iload_n 1, 0, 0, 0, 0), (.invokevirtual 259, 198, 1, 12, 0), (.istore_n 2, 0, 0, 0, 0), (.aload_n 0, 0, 0, 0, 0), (.dup, 0, 0, 0, 0), (.getfield 218, 12, 19, 0, 0), (.iconst 1, 0, 0, 0, 1), (.iadd, 0, 0, 0, 0), (.putfield 218, 12, 19, 0, 0), (.iload_n 2, 0, 0, 0, 0), (.ireturn, 1, 0, 0, 0)]
  | 30 => [(.aload_n 0, 0, 0, 0, 0), (.iload_n 1, 0, 0, 0, 0), (.invokevirtual 246, 195, 1, 12, 0), (.lstore_n 2, 0, 0, 0, 0), (.aload_n 0, 0, 0, 0, 0), (.aload_n 0, 0, 0, 0, 0), (.getfield 218, 12, 19, 0, 0), (.invokevirtual 221, 192, 1, 12, 0), (.istore 4, 0, 0, 0, 0), (.aload_n 0, 0, 0, 0, 0), (.dup, 0, 0, 0, 0), (.getfield 218, 12, 19, 0, 0), (.iconst 1, 0, 0, 0, 1), (.iadd, 0, 0, 0, 0), (.putfield 218, 12, 19, 0, 0), (.aload_n 0, 0, 0, 0, 0), (.iload_n 1, 0, 0, 0, 0), (.invokevirtual 246, 195, 1, 12, 0), (.lstore 5, 0, 0, 0, 0), (.iload_n 1, 0, 0, 0, 0), (.ifCond .eq 61, 125, 0, 0, 0), (.aload_n 0, 0, 0, 0, 0), (.getfield 228, 12, 21, 0, 0), (.ifCond .ne 54, 125, 0, 0, 0), (.iload 4, 0, 0, 0, 0), (.bipush 60, 0, 0, 0, 60), (.invokestatic 193, 180, 1, 0, 0), (.if_icmp .ne 13, 94, 0, 0, 0), (.lload_n 2, 0, 0, 0, 0), (.lload 5, 0, 0, 0, 0), (.lcmp, 0, 0, 0, 0), (.ifCond .ge 37, 125, 0, 0, 0), (.goto 30, 121, 0, 0, 0)]
  | 94 => [(.iload 4, 0, 0, 0, 0), (.bipush 62, 0, 0, 0, 62), (.invokestatic 193, 180, 1, 0, 0), (.if_icmp .ne 13, 114, 0, 0, 0), (.lload_n 2, 0, 0, 0, 0), (.lload 5, 0, 0, 0, 0), (.lcmp, 0, 0, 0, 0), (.ifCond .le 17, 125, 0, 0, 0), (.goto 10, 121, 0, 0, 0)]
  | 114 => [(.lload_n 2, 0, 0, 0, 0), (.lload 5, 0, 0, 0, 0), (.lcmp, 0, 0, 0, 0), (.ifCond .ne 7, 125, 0, 0, 0)]
  | 121 => [(.iconst 1, 0, 0, 0, 1), (.goto 4, 126, 0, 0, 0)]
  | 125 => [(.iconst 0, 0, 0, 0, 0)]
  | 126 => [(.ireturn, 1, 0, 0, 0)]
  | _ => []
theorem kX12_positiveOf (pc : Nat) : chk 201 (bX12_positiveOf pc) pc = true := by
  unfold bX12_positiveOf; split
  · decide +kernel
  · decide +kernel
  · decide +kernel
  · decide +kernel
  · decide +kernel
  · decide +kernel
  · decide +kernel
  · rfl
def bX12_asksOf : Nat → List Ins := fun pc => match pc with
  | 0 => [(.aload_n 0, 0, 0, 0, 0), (.getfield 55, 12, 23, 0, 0), (.iload_n 1, 0, 0, 0, 0), (.aload_n 0, 0, 0, 0, 0), (.getfield 20, 12, 3, 0, 0), (.sipush 154, 0, 0, 0, 154), (.iaload, 0, 0, 0, 0), (.iastore, 0, 0, 0, 0), (.aload_n 0, 0, 0, 0, 0), (.getfield 58, 12, 24, 0, 0), (.iload_n 1, 0, 0, 0, 0), (.iconst 0, 0, 0, 0, 0), (.bastore, 0, 0, 0, 0), (.aload_n 0, 0, 0, 0, 0), (.getfield 20, 12, 3, 0, 0), (.sipush 161, 0, 0, 0, 161), (.iaload, 0, 0, 0, 0), (.iconst (-1), 0, 0, 0, (-1)), (.if_icmp .ne 4, 34, 0, 0, 0), (.return_, 0, 0, 0, 0)]
  | 34 => [(.aload_n 0, 0, 0, 0, 0), (.getfield 52, 12, 22, 0, 0), (.iconst 0, 0, 0, 0, 0), (.iload_n 1, 0, 0, 0, 0), (.iastore, 0, 0, 0, 0), (.iconst 0, 0, 0, 0, 0), (.istore_n 2, 0, 0, 0, 0)]
  | 43 => [(.iload_n 2, 0, 0, 0, 0), (.bipush 7, 0, 0, 0, 7), (.if_icmp .ge 23, 69, 0, 0, 0), (.aload_n 0, 0, 0, 0, 0), (.getfield 52, 12, 22, 0, 0), (.iconst 1, 0, 0, 0, 1), (.iload_n 2, 0, 0, 0, 0), (.iadd, 0, 0, 0, 0), (.aload_n 0, 0, 0, 0, 0), (.iload_n 1, 0, 0, 0, 0), (.iload_n 2, 0, 0, 0, 0), (.invokevirtual 113, 155, 2, 12, 0), (.iastore, 0, 0, 0, 0), (.iinc 2 1, 0, 0, 0, 1), (.goto (-23), 43, 0, 0, 0)]
  | 69 => [(.aload_n 0, 0, 0, 0, 0), (.sipush 400, 0, 0, 0, 400), (.aload_n 0, 0, 0, 0, 0), (.getfield 20, 12, 3, 0, 0), (.sipush 161, 0, 0, 0, 161), (.iaload, 0, 0, 0, 0), (.imul, 0, 0, 0, 0), (.putfield 218, 12, 19, 0, 0), (.aload_n 0, 0, 0, 0, 0), (.aload_n 0, 0, 0, 0, 0), (.getfield 218, 12, 19, 0, 0), (.aload_n 0, 0, 0, 0, 0), (.getfield 20, 12, 3, 0, 0), (.sipush 162, 0, 0, 0, 162), (.aload_n 0, 0, 0, 0, 0), (.getfield 20, 12, 3, 0, 0), (.sipush 161, 0, 0, 0, 161), (.iaload, 0, 0, 0, 0), (.iadd, 0, 0, 0, 0), (.iaload, 0, 0, 0, 0), (.iadd, 0, 0, 0, 0), (.putfield 215, 12, 20, 0, 0)]
  | 111 => [(.aload_n 0, 0, 0, 0, 0), (.getfield 218, 12, 19, 0, 0), (.aload_n 0, 0, 0, 0, 0), (.getfield 215, 12, 20, 0, 0), (.if_icmp .ge 173, 292, 0, 0, 0), (.aload_n 0, 0, 0, 0, 0), (.aload_n 0, 0, 0, 0, 0), (.getfield 218, 12, 19, 0, 0), (.invokevirtual 221, 192, 1, 12, 0), (.iconst 2, 0, 0, 0, 2), (.if_icmp .ne 7, 138, 0, 0, 0), (.iconst 1, 0, 0, 0, 1), (.goto 4, 139, 0, 0, 0)]
  | 138 => [(.iconst 0, 0, 0, 0, 0)]
  | 139 => [(.istore_n 2, 0, 0, 0, 0), (.aload_n 0, 0, 0, 0, 0), (.iconst 0, 0, 0, 0, 0), (.putfield 228, 12, 21, 1, 0), (.aload_n 0, 0, 0, 0, 0), (.dup, 0, 0, 0, 0), (.getfield 218, 12, 19, 0, 0), (.iconst 1, 0, 0, 0, 1), (.iadd, 0, 0, 0, 0), (.putfield 218, 12, 19, 0, 0), (.iload_n 2, 0, 0, 0, 0), (.ifCond .eq 7, 163, 0, 0, 0), (.lconst 0, 0, 0, 0, 0), (.goto 8, 168, 0, 0, 0)]
  | 163 => [(.aload_n 0, 0, 0, 0, 0), (.iconst 1, 0, 0, 0, 1), (.invokevirtual 246, 195, 1, 12, 0)]
  | 168 => [(.lstore_n 3, 0, 0, 0, 0), (.aload_n 0, 0, 0, 0, 0), (.getfield 228, 12, 21, 0, 0), (.istore 5, 0, 0, 0, 0), (.aload_n 0, 0, 0, 0, 0), (.iconst 0, 0, 0, 0, 0), (.putfield 228, 12, 21, 1, 0), (.aload_n 0, 0, 0, 0, 0), (.iconst 3, 0, 0, 0, 3), (.invokevirtual 243, 193, 1, 12, 0), (.ifCond .eq 11, 196, 0, 0, 0), (.aload_n 0, 0, 0, 0, 0), (.iconst 1, 0, 0, 0, 1), (.invokevirtual 259, 198, 1, 12, 0), (.ifCond .eq 7, 200, 0, 0, 0)]
  | 196 => [(.iconst 1, 0, 0, 0, 1), (.goto 4, 201, 0, 0, 0)]
  | 200 => [(.iconst 0, 0, 0, 0, 0)]
  | 201 => [(.istore 6, 0, 0, 0, 0), (.iload 6, 0, 0, 0, 0), (.ifCond .eq 74, 279, 0, 0, 0), (.aload_n 0, 0, 0, 0, 0), (.getfield 228, 12, 21, 0, 0), (.ifCond .ne 67, 279, 0, 0, 0), (.iload 5, 0, 0, 0, 0), (.ifCond .ne 62, 279, 0, 0, 0), (.aload_n 0, 0, 0, 0, 0), (.getfield 58, 12, 24, 0, 0), (.iload_n 1, 0, 0, 0, 0), (.aload_n 0, 0, 0, 0, 0), (.getfield 58, 12, 24, 0, 0), (.iload_n 1, 0, 0, 0, 0), (.baload, 0, 0, 0, 0), (.ifCond .ne 7, 238, 0, 0, 0), (.iload_n 2, 0, 0, 0, 0), (.ifCond .eq 7, 242, 0, 0, 0)]
  | 238 => [(.iconst 1, 0, 0, 0, 1), (.goto 4, 243, 0, 0, 0)]
  | 242 => [(.iconst 0, 0, 0, 0, 0)]
  | 243 => [(.bastore, 0, 0, 0, 0), (.iload_n 2, 0, 0, 0, 0), (.ifCond .ne 34, 279, 0, 0, 0), (.aload_n 0, 0, 0, 0, 0), (.getfield 55, 12, 23, 0, 0), (.iload_n 1, 0, 0, 0, 0), (.lload_n 3, 0, 0, 0, 0), (.lconst 0, 0, 0, 0, 0), (.lcmp, 0, 0, 0, 0), (.ifCond .ge 7, 263, 0, 0, 0), (.iconst 0, 0, 0, 0, 0), (.goto 18, 278, 0, 0, 0)]
  | 263 => [(.lload_n 3, 0, 0, 0, 0), (.ldc2_w 262, 12, 0, 0, 0), (.lcmp, 0, 0, 0, 0), (.ifCond .le 8, 276, 0, 0, 0), (.bipush 12, 0, 0, 0, 12), (.goto 5, 278, 0, 0, 0)]
  | 276 => [(.lload_n 3, 0, 0, 0, 0), (.l2i, 0, 0, 0, 0)]
  | 278 => [(.iastore, 0, 0, 0, 0)]
  | 279 => [(.aload_n 0, 0, 0, 0, 0), (.dup, 0, 0, 0, 0), (.getfield 218, 12, 19, 0, 0), (.iconst 1, 0, 0, 0, 1), (.iadd, 0, 0, 0, 0), (.putfield 218, 12, 19, 0, 0), (.goto (-178), 111, 0, 0, 0)]
  | 292 => [(.return_, 0, 0, 0, 0)]
  | _ => []
theorem kX12_asksOf (pc : Nat) : chk 202 (bX12_asksOf pc) pc = true := by
  unfold bX12_asksOf; split
  · decide +kernel
  · decide +kernel
  · decide +kernel
  · decide +kernel
  · decide +kernel
  · decide +kernel
  · decide +kernel
  · decide +kernel
  · decide +kernel
  · decide +kernel
  · decide +kernel
  · decide +kernel
  · decide +kernel
  · decide +kernel
  · decide +kernel
  · decide +kernel
  · decide +kernel
  · decide +kernel
  · decide +kernel
  · decide +kernel
  · rfl
def bX12_touch : Nat → List Ins := fun pc => match pc with
  | 0 => [(.iconst 0, 0, 0, 0, 0), (.istore_n 3, 0, 0, 0, 0)]
  | 2 => [(.iload_n 3, 0, 0, 0, 0), (.aload_n 0, 0, 0, 0, 0), (.iload_n 1, 0, 0, 0, 0), (.iconst 2, 0, 0, 0, 2), (.invokevirtual 113, 155, 2, 12, 0), (.aload_n 0, 0, 0, 0, 0), (.iload_n 1, 0, 0, 0, 0), (.iconst 3, 0, 0, 0, 3), (.invokevirtual 113, 155, 2, 12, 0), (.imul, 0, 0, 0, 0), (.if_icmp .ge 101, 117, 0, 0, 0), (.aload_n 0, 0, 0, 0, 0), (.iload_n 1, 0, 0, 0, 0), (.iconst 0, 0, 0, 0, 0), (.invokevirtual 113, 155, 2, 12, 0), (.iload_n 3, 0, 0, 0, 0), (.aload_n 0, 0, 0, 0, 0), (.iload_n 1, 0, 0, 0, 0), (.iconst 2, 0, 0, 0, 2), (.invokevirtual 113, 155, 2, 12, 0), (.irem, 0, 0, 0, 0), (.iadd, 0, 0, 0, 0), (.istore 4, 0, 0, 0, 0), (.aload_n 0, 0, 0, 0, 0), (.iload_n 1, 0, 0, 0, 0), (.iconst 1, 0, 0, 0, 1), (.invokevirtual 113, 155, 2, 12, 0), (.iload_n 3, 0, 0, 0, 0), (.aload_n 0, 0, 0, 0, 0), (.iload_n 1, 0, 0, 0, 0), (.iconst 2, 0, 0, 0, 2), (.invokevirtual 113, 155, 2, 12, 0), (.idiv, 0, 0, 0, 0), (.iadd, 0, 0, 0, 0), (.istore 5, 0, 0, 0, 0), (.aload_n 0, 0, 0, 0, 0), (.iload_n 2, 0, 0, 0, 0), (.iload 4, 0, 0, 0, 0), (.iconst 1, 0, 0, 0, 1), (.iadd, 0, 0, 0, 0), (.iload 5, 0, 0, 0, 0), (.invokevirtual 120, 157, 3, 12, 0), (.ifCond .ne 45, 109, 0, 0, 0), (.aload_n 0, 0, 0, 0, 0), (.iload_n 2, 0, 0, 0, 0), (.iload 4, 0, 0, 0, 0), (.iconst 1, 0, 0, 0, 1), (.isub, 0, 0, 0, 0), (.iload 5, 0, 0, 0, 0), (.invokevirtual 120, 157, 3, 12, 0), (.ifCond .ne 31, 109, 0, 0, 0), (.aload_n 0, 0, 0, 0, 0), (.iload_n 2, 0, 0, 0, 0), (.iload 4, 0, 0, 0, 0), (.iload 5, 0, 0, 0, 0), (.iconst 1, 0, 0, 0, 1), (.iadd, 0, 0, 0, 0), (.invokevirtual 120, 157, 3, 12, 0), (.ifCond .ne 17, 109, 0, 0, 0), (.aload_n 0, 0, 0, 0, 0), (.iload_n 2, 0, 0, 0, 0), (.iload 4, 0, 0, 0, 0), (.iload 5, 0, 0, 0, 0), (.iconst 1, 0, 0, 0, 1), (.isub, 0, 0, 0, 0), (.invokevirtual 120, 157, 3, 12, 0), (.ifCond .eq 5, 111, 0, 0, 0)]
  | 109 => [(.iconst 1, 0, 0, 0, 1), (.ireturn, 1, 0, 0, 0)]
  | 111 => [(.iinc 3 1, 0, 0, 0, 1), (.goto (-112), 2, 0, 0, 0)]
  | 117 => [(.iconst 0, 0, 0, 0, 0), (.ireturn, 1, 0, 0, 0)]
  | _ => []
theorem kX12_touch (pc : Nat) : chk 203 (bX12_touch pc) pc = true := by
  unfold bX12_touch; split
  · decide +kernel
  · decide +kernel
  · decide +kernel
  · decide +kernel
  · decide +kernel
  · rfl
def bX12_looks : Nat → List Ins := fun pc => match pc with
  | 0 => [(.aload_n 0, 0, 0, 0, 0), (.getfield 67, 12, 27, 0, 0), (.aload_n 0, 0, 0, 0, 0), (.getfield 11, 12, 1, 0, 0), (.if_icmp .ne 4, 12, 0, 0, 0), (.return_, 0, 0, 0, 0)]
  | 12 => [(.aload_n 0, 0, 0, 0, 0), (.aload_n 0, 0, 0, 0, 0), (.getfield 11, 12, 1, 0, 0), (.putfield 67, 12, 27, 0, 0), (.iconst 0, 0, 0, 0, 0), (.istore_n 1, 0, 0, 0, 0)]
  | 22 => [(.iload_n 1, 0, 0, 0, 0), (.bipush 22, 0, 0, 0, 22), (.if_icmp .ge 164, 189, 0, 0, 0), (.aload_n 0, 0, 0, 0, 0), (.iload_n 1, 0, 0, 0, 0), (.invokevirtual 117, 156, 1, 12, 0), (.ifCond .ne 6, 39, 0, 0, 0), (.goto 147, 183, 0, 0, 0)]
  | 39 => [(.aload_n 0, 0, 0, 0, 0), (.iload_n 1, 0, 0, 0, 0), (.invokevirtual 264, 202, 1, 12, 0), (.aload_n 0, 0, 0, 0, 0), (.getfield 61, 12, 25, 0, 0), (.iload_n 1, 0, 0, 0, 0), (.iconst 0, 0, 0, 0, 0), (.iastore, 0, 0, 0, 0), (.iconst 0, 0, 0, 0, 0), (.istore_n 2, 0, 0, 0, 0)]
  | 53 => [(.iload_n 2, 0, 0, 0, 0), (.bipush 22, 0, 0, 0, 22), (.if_icmp .ge 47, 103, 0, 0, 0), (.aload_n 0, 0, 0, 0, 0), (.getfield 61, 12, 25, 0, 0), (.iload_n 1, 0, 0, 0, 0), (.dup2, 0, 0, 0, 0), (.iaload, 0, 0, 0, 0), (.iload_n 2, 0, 0, 0, 0), (.iload_n 1, 0, 0, 0, 0), (.if_icmp .eq 26, 94, 0, 0, 0), (.aload_n 0, 0, 0, 0, 0), (.iload_n 2, 0, 0, 0, 0), (.invokevirtual 117, 156, 1, 12, 0), (.ifCond .eq 18, 94, 0, 0, 0), (.aload_n 0, 0, 0, 0, 0), (.iload_n 1, 0, 0, 0, 0), (.iload_n 2, 0, 0, 0, 0), (.invokevirtual 267, 203, 2, 12, 0), (.ifCond .eq 9, 94, 0, 0, 0), (.iconst 1, 0, 0, 0, 1), (.iload_n 2, 0, 0, 0, 0), (.ishl, 0, 0, 0, 0), (.goto 4, 95, 0, 0, 0)]
  | 94 => [(.iconst 0, 0, 0, 0, 0)]
  | 95 => [(.ior, 0, 0, 0, 0), (.iastore, 0, 0, 0, 0), (.iinc 2 1, 0, 0, 0, 1), (.goto (-47), 53, 0, 0, 0)]
  | 103 => [(.aload_n 0, 0, 0, 0, 0), (.getfield 64, 12, 26, 0, 0), (.iload_n 1, 0, 0, 0, 0), (.aload_n 0, 0, 0, 0, 0), (.iload_n 1, 0, 0, 0, 0), (.iconst 1, 0, 0, 0, 1), (.invokevirtual 113, 155, 2, 12, 0), (.ifCond .ne 14, 128, 0, 0, 0), (.aload_n 0, 0, 0, 0, 0), (.getfield 20, 12, 3, 0, 0), (.sipush 155, 0, 0, 0, 155), (.iaload, 0, 0, 0, 0), (.goto 4, 129, 0, 0, 0)]
  | 128 => [(.iconst 0, 0, 0, 0, 0)]
  | 129 => [(.aload_n 0, 0, 0, 0, 0), (.iload_n 1, 0, 0, 0, 0), (.iconst 0, 0, 0, 0, 0), (.invokevirtual 113, 155, 2, 12, 0), (.ifCond .ne 14, 149, 0, 0, 0), (.aload_n 0, 0, 0, 0, 0), (.getfield 20, 12, 3, 0, 0), (.sipush 156, 0, 0, 0, 156), (.iaload, 0, 0, 0, 0), (.goto 4, 150, 0, 0, 0)]
  | 149 => [(.iconst 0, 0, 0, 0, 0)]
  | 150 => [(.iadd, 0, 0, 0, 0), (.aload_n 0, 0, 0, 0, 0), (.iload_n 1, 0, 0, 0, 0), (.iconst 0, 0, 0, 0, 0), (.invokevirtual 113, 155, 2, 12, 0), (.aload_n 0, 0, 0, 0, 0), (.iload_n 1, 0, 0, 0, 0), (.iconst 2, 0, 0, 0, 2), (.invokevirtual 113, 155, 2, 12, 0), (.iadd, 0, 0, 0, 0), (.bipush 12, 0, 0, 0, 12), (.if_icmp .ne 14, 180, 0, 0, 0), (.aload_n 0, 0, 0, 0, 0), (.getfield 20, 12, 3, 0, 0), (.sipush 156, 0, 0, 0, 156), (.iaload, 0, 0, 0, 0), (.goto 4, 181, 0, 0, 0)]
  | 180 => [(.iconst 0, 0, 0, 0, 0)]
  | 181 => [(.iadd, 0, 0, 0, 0), (.iastore, 0, 0, 0, 0)]
  | 183 => [(.iinc 1 1, 0, 0, 0, 1), (.goto (-164), 22, 0, 0, 0)]
  | 189 => [(.return_, 0, 0, 0, 0)]
  | _ => []
theorem kX12_looks (pc : Nat) : chk 204 (bX12_looks pc) pc = true := by
  unfold bX12_looks; split
  · decide +kernel
  · decide +kernel
  · decide +kernel
  · decide +kernel
  · decide +kernel
  · decide +kernel
  · decide +kernel
  · decide +kernel
  · decide +kernel
  · decide +kernel
  · decide +kernel
  · decide +kernel
  · decide +kernel
  · decide +kernel
  · decide +kernel
  · decide +kernel
  · rfl
def bX12_stands : Nat → List Ins := fun pc => match pc with
  | 0 => [(.aload_n 0, 0, 0, 0, 0), (.getfield 58, 12, 24, 0, 0), (.iload_n 1, 0, 0, 0, 0), (.baload, 0, 0, 0, 0), (.ifCond .ne 30, 36, 0, 0, 0), (.aload_n 0, 0, 0, 0, 0), (.getfield 61, 12, 25, 0, 0), (.iload_n 1, 0, 0, 0, 0), (.iaload, 0, 0, 0, 0), (.iload_n 2, 0, 0, 0, 0), (.iand, 0, 0, 0, 0), (.invokestatic 271, 148, 1, 0, 0), (.aload_n 0, 0, 0, 0, 0), (.getfield 64, 12, 26, 0, 0), (.iload_n 1, 0, 0, 0, 0), (.iaload, 0, 0, 0, 0), (.iadd, 0, 0, 0, 0), (.aload_n 0, 0, 0, 0, 0), (.getfield 55, 12, 23, 0, 0), (.iload_n 1, 0, 0, 0, 0), (.iaload, 0, 0, 0, 0), (.if_icmp .lt 7, 40, 0, 0, 0)]
  | 36 => [(.iconst 1, 0, 0, 0, 1), (.goto 4, 41, 0, 0, 0)]
  | 40 => [(.iconst 0, 0, 0, 0, 0)]
  | 41 => [(.ireturn, 1, 0, 0, 0)]
  | _ => []
theorem kX12_stands (pc : Nat) : chk 205 (bX12_stands pc) pc = true := by
  unfold bX12_stands; split
  · decide +kernel
  · decide +kernel
  · decide +kernel
  · decide +kernel
  · rfl
def bX12_loose : Nat → List Ins := fun pc => match pc with
  | 0 => [(.iconst 0, 0, 0, 0, 0), (.istore_n 2, 0, 0, 0, 0), (.iconst 0, 0, 0, 0, 0), (.istore_n 3, 0, 0, 0, 0)]
  | 4 => [(.iload_n 3, 0, 0, 0, 0), (.bipush 22, 0, 0, 0, 22), (.if_icmp .ge 32, 39, 0, 0, 0), (.iload_n 1, 0, 0, 0, 0), (.iload_n 3, 0, 0, 0, 0), (.invokestatic 274, 147, 2, 0, 0), (.ifCond .eq 18, 33, 0, 0, 0), (.aload_n 0, 0, 0, 0, 0), (.iload_n 3, 0, 0, 0, 0), (.iload_n 1, 0, 0, 0, 0), (.invokevirtual 277, 205, 2, 12, 0), (.ifCond .ne 9, 33, 0, 0, 0), (.iload_n 2, 0, 0, 0, 0), (.iconst 1, 0, 0, 0, 1), (.iload_n 3, 0, 0, 0, 0), (.ishl, 0, 0, 0, 0), (.ior, 0, 0, 0, 0), (.istore_n 2, 0, 0, 0, 0)]
  | 33 => [(.iinc 3 1, 0, 0, 0, 1), (.goto (-32), 4, 0, 0, 0)]
  | 39 => [(.iload_n 2, 0, 0, 0, 0), (.ireturn, 0, 0, 0, 0)]
  | _ => []
theorem kX12_loose (pc : Nat) : chk 206 (bX12_loose pc) pc = true := by
  unfold bX12_loose; split
  · decide +kernel
  · decide +kernel
  · decide +kernel
  · decide +kernel
  · rfl
def bX12_fall : Nat → List Ins := fun pc => match pc with
  | 0 => [(.iload_n 1, 0, 0, 0, 0), (.istore_n 2, 0, 0, 0, 0)]
  | 2 => [(.aload_n 0, 0, 0, 0, 0), (.iload_n 2, 0, 0, 0, 0), (.invokevirtual 280, 206, 1, 12, 0), (.ifCond .eq 16, 23, 0, 0, 0), (.iload_n 2, 0, 0, 0, 0), (.aload_n 0, 0, 0, 0, 0), (.iload_n 2, 0, 0, 0, 0), (.invokevirtual 280, 206, 1, 12, 0), (.iconst (-1), 0, 0, 0, (-1)), (.ixor, 0, 0, 0, 0), (.iand, 0, 0, 0, 0), (.istore_n 2, 0, 0, 0, 0), (.goto (-18), 2, 0, 0, 0)]
  | 23 => [(.iload_n 2, 0, 0, 0, 0), (.ireturn, 0, 0, 0, 0)]
  | _ => []
theorem kX12_fall (pc : Nat) : chk 207 (bX12_fall pc) pc = true := by
  unfold bX12_fall; split
  · decide +kernel
  · decide +kernel
  · decide +kernel
  · rfl
def bX12_at : Nat → List Ins := fun pc => match pc with
  | 0 => [(.iconst 0, 0, 0, 0, 0), (.istore_n 3, 0, 0, 0, 0)]
  | 2 => [(.iload_n 3, 0, 0, 0, 0), (.aload_n 0, 0, 0, 0, 0), (.invokevirtual 102, 152, 0, 12, 0), (.if_icmp .ge 36, 43, 0, 0, 0), (.aload_n 0, 0, 0, 0, 0), (.getfield 20, 12, 3, 0, 0), (.sipush 159, 0, 0, 0, 159), (.iaload, 0, 0, 0, 0), (.iload_n 3, 0, 0, 0, 0), (.invokestatic 274, 147, 2, 0, 0), (.ifCond .eq 15, 37, 0, 0, 0), (.aload_n 0, 0, 0, 0, 0), (.iload_n 3, 0, 0, 0, 0), (.iload_n 1, 0, 0, 0, 0), (.iload_n 2, 0, 0, 0, 0), (.invokevirtual 120, 157, 3, 12, 0), (.ifCond .eq 5, 37, 0, 0, 0), (.iload_n 3, 0, 0, 0, 0), (.ireturn, 0, 0, 0, 0)]
  | 37 => [(.iinc 3 1, 0, 0, 0, 1), (.goto (-38), 2, 0, 0, 0)]
  | 43 => [(.iconst (-1), 0, 0, 0, (-1)), (.ireturn, 0, 0, 0, 0)]
  | _ => []
theorem kX12_at (pc : Nat) : chk 208 (bX12_at pc) pc = true := by
  unfold bX12_at; split
  · decide +kernel
  · decide +kernel
  · decide +kernel
  · decide +kernel
  · rfl
def bX12_touches : Nat → List Ins := fun pc => match pc with
  | 0 => [(.aload_n 0, 0, 0, 0, 0), (.iload_n 1, 0, 0, 0, 0), (.invokevirtual 106, 154, 1, 12, 0), (.ifCond .eq 12, 17, 0, 0, 0), (.iload_n 2, 0, 0, 0, 0), (.iconst 0, 0, 0, 0, 0), (.iconst 3, 0, 0, 0, 3), (.invokestatic 91, 144, 3, 0, 0), (.ifCond .ne 5, 19, 0, 0, 0)]
  | 17 => [(.iconst (-1), 0, 0, 0, (-1)), (.ireturn, 0, 0, 0, 0)]
  | 19 => [(.aload_n 0, 0, 0, 0, 0), (.invokevirtual 283, 204, 0, 12, 0), (.aload_n 0, 0, 0, 0, 0), (.getfield 61, 12, 25, 0, 0), (.iload_n 1, 0, 0, 0, 0), (.iaload, 0, 0, 0, 0), (.aload_n 0, 0, 0, 0, 0), (.getfield 20, 12, 3, 0, 0), (.sipush 159, 0, 0, 0, 159), (.iaload, 0, 0, 0, 0), (.iand, 0, 0, 0, 0), (.istore_n 3, 0, 0, 0, 0), (.iload_n 2, 0, 0, 0, 0), (.ifCond .ne 10, 50, 0, 0, 0), (.aload_n 0, 0, 0, 0, 0), (.getfield 55, 12, 23, 0, 0), (.iload_n 1, 0, 0, 0, 0), (.iaload, 0, 0, 0, 0), (.ireturn, 0, 0, 0, 0)]
  | 50 => [(.iload_n 2, 0, 0, 0, 0), (.iconst 1, 0, 0, 0, 1), (.if_icmp .ne 34, 86, 0, 0, 0), (.aload_n 0, 0, 0, 0, 0), (.getfield 20, 12, 3, 0, 0), (.sipush 159, 0, 0, 0, 159), (.iaload, 0, 0, 0, 0), (.iload_n 1, 0, 0, 0, 0), (.invokestatic 274, 147, 2, 0, 0), (.ifCond .eq 17, 84, 0, 0, 0), (.iload_n 3, 0, 0, 0, 0), (.invokestatic 271, 148, 1, 0, 0), (.aload_n 0, 0, 0, 0, 0), (.getfield 64, 12, 26, 0, 0), (.iload_n 1, 0, 0, 0, 0), (.iaload, 0, 0, 0, 0), (.iadd, 0, 0, 0, 0), (.goto 4, 85, 0, 0, 0)]
  | 84 => [(.iconst (-1), 0, 0, 0, (-1))]
  | 85 => [(.ireturn, 0, 0, 0, 0)]
  | 86 => [(.iload_n 2, 0, 0, 0, 0), (.iconst 2, 0, 0, 0, 2), (.if_icmp .ne 20, 108, 0, 0, 0), (.aload_n 0, 0, 0, 0, 0), (.getfield 58, 12, 24, 0, 0), (.iload_n 1, 0, 0, 0, 0), (.baload, 0, 0, 0, 0), (.ifCond .eq 7, 104, 0, 0, 0), (.iconst 1, 0, 0, 0, 1), (.goto 8, 109, 0, 0, 0)]
  | 104 => [(.iconst 0, 0, 0, 0, 0), (.goto 4, 109, 0, 0, 0)]
  | 108 => [(.iload_n 3, 0, 0, 0, 0)]
  | 109 => [(.ireturn, 0, 0, 0, 0)]
  | _ => []
theorem kX12_touches (pc : Nat) : chk 209 (bX12_touches pc) pc = true := by
  unfold bX12_touches; split
  · decide +kernel
  · decide +kernel
  · decide +kernel
  · decide +kernel
  · decide +kernel
  · decide +kernel
  · decide +kernel
  · decide +kernel
  · decide +kernel
  · decide +kernel
  · rfl
def bX12_unlawful : Nat → List Ins := fun pc => match pc with
  | 0 => [(.aload_n 0, 0, 0, 0, 0), (.invokevirtual 283, 204, 0, 12, 0), (.aload_n 0, 0, 0, 0, 0), (.aload_n 0, 0, 0, 0, 0), (.getfield 20, 12, 3, 0, 0), (.sipush 159, 0, 0, 0, 159), (.iaload, 0, 0, 0, 0), (.invokevirtual 280, 206, 1, 12, 0), (.istore_n 1, 0, 0, 0, 0), (.iconst 0, 0, 0, 0, 0), (.istore_n 2, 0, 0, 0, 0)]
  | 19 => [(.iload_n 2, 0, 0, 0, 0), (.aload_n 0, 0, 0, 0, 0), (.invokevirtual 102, 152, 0, 12, 0), (.if_icmp .ge 19, 43, 0, 0, 0), (.iload_n 1, 0, 0, 0, 0), (.iload_n 2, 0, 0, 0, 0), (.invokestatic 274, 147, 2, 0, 0), (.ifCond .eq 5, 37, 0, 0, 0), (.iload_n 2, 0, 0, 0, 0), (.ireturn, 0, 0, 0, 0)]
  | 37 => [(.iinc 2 1, 0, 0, 0, 1), (.goto (-21), 19, 0, 0, 0)]
  | 43 => [(.iconst (-1), 0, 0, 0, (-1)), (.ireturn, 0, 0, 0, 0)]
  | _ => []
theorem kX12_unlawful (pc : Nat) : chk 210 (bX12_unlawful pc) pc = true := by
  unfold bX12_unlawful; split
  · decide +kernel
  · decide +kernel
  · decide +kernel
  · decide +kernel
  · rfl
def bX12_there : Nat → List Ins := fun pc => match pc with
  | 0 => [(.aload_n 0, 0, 0, 0, 0), (.getfield 20, 12, 3, 0, 0), (.sipush 159, 0, 0, 0, 159), (.iaload, 0, 0, 0, 0), (.ireturn, 0, 0, 0, 0)]
  | _ => []
theorem kX12_there (pc : Nat) : chk 211 (bX12_there pc) pc = true := by
  unfold bX12_there; split
  · decide +kernel
  · rfl
def bX12_stand : Nat → List Ins := fun pc => match pc with
  | 0 => [(.iload_n 1, 0, 0, 0, 0), (.iconst 0, 0, 0, 0, 0), (.iconst 1, 0, 0, 0, 1), (.aload_n 0, 0, 0, 0, 0), (.invokevirtual 102, 152, 0, 12, 0), (.ishl, 0, 0, 0, 0), (.iconst 1, 0, 0, 0, 1), (.isub, 0, 0, 0, 0), (.invokestatic 91, 144, 3, 0, 0), (.ifCond .ne 9, 22, 0, 0, 0), (.aload_n 0, 0, 0, 0, 0), (.iconst (-1), 0, 0, 0, (-1)), (.invokevirtual 95, 145, 1, 12, 0), (.ireturn, 0, 0, 0, 0)]
  | 22 => [(.aload_n 0, 0, 0, 0, 0), (.getfield 20, 12, 3, 0, 0), (.sipush 159, 0, 0, 0, 159), (.iaload, 0, 0, 0, 0), (.istore_n 2, 0, 0, 0, 0), (.aload_n 0, 0, 0, 0, 0), (.getfield 20, 12, 3, 0, 0), (.sipush 159, 0, 0, 0, 159), (.iload_n 1, 0, 0, 0, 0), (.iastore, 0, 0, 0, 0), (.aload_n 0, 0, 0, 0, 0), (.iload_n 2, 0, 0, 0, 0), (.invokevirtual 99, 146, 1, 12, 0), (.ireturn, 0, 0, 0, 0)]
  | _ => []
theorem kX12_stand (pc : Nat) : chk 212 (bX12_stand pc) pc = true := by
  unfold bX12_stand; split
  · decide +kernel
  · decide +kernel
  · rfl
def bX12_areThere : Nat → List Ins := fun pc => match pc with
  | 0 => [(.iload_n 1, 0, 0, 0, 0), (.iconst 0, 0, 0, 0, 0), (.sipush 16383, 0, 0, 0, 16383), (.invokestatic 91, 144, 3, 0, 0), (.ifCond .eq 22, 30, 0, 0, 0), (.iload_n 1, 0, 0, 0, 0), (.aload_n 0, 0, 0, 0, 0), (.getfield 20, 12, 3, 0, 0), (.sipush 159, 0, 0, 0, 159), (.iaload, 0, 0, 0, 0), (.iconst (-1), 0, 0, 0, (-1)), (.ixor, 0, 0, 0, 0), (.iand, 0, 0, 0, 0), (.ifCond .ne 7, 30, 0, 0, 0), (.iconst 1, 0, 0, 0, 1), (.goto 4, 31, 0, 0, 0)]
  | 30 => [(.iconst 0, 0, 0, 0, 0)]
  | 31 => [(.ireturn, 1, 0, 0, 0)]
  | _ => []
theorem kX12_areThere (pc : Nat) : chk 213 (bX12_areThere pc) pc = true := by
  unfold bX12_areThere; split
  · decide +kernel
  · decide +kernel
  · decide +kernel
  · rfl
def bX12_weightOf : Nat → List Ins := fun pc => match pc with
  | 0 => [(.iconst 0, 0, 0, 0, 0), (.istore_n 2, 0, 0, 0, 0), (.iconst 0, 0, 0, 0, 0), (.istore_n 3, 0, 0, 0, 0)]
  | 4 => [(.iload_n 3, 0, 0, 0, 0), (.aload_n 0, 0, 0, 0, 0), (.invokevirtual 102, 152, 0, 12, 0), (.if_icmp .ge 30, 39, 0, 0, 0), (.iload_n 2, 0, 0, 0, 0), (.iload_n 1, 0, 0, 0, 0), (.iload_n 3, 0, 0, 0, 0), (.invokestatic 274, 147, 2, 0, 0), (.ifCond .eq 12, 30, 0, 0, 0), (.aload_n 0, 0, 0, 0, 0), (.iload_n 3, 0, 0, 0, 0), (.iconst 4, 0, 0, 0, 4), (.invokevirtual 113, 155, 2, 12, 0), (.goto 4, 31, 0, 0, 0)]
  | 30 => [(.iconst 0, 0, 0, 0, 0)]
  | 31 => [(.iadd, 0, 0, 0, 0), (.istore_n 2, 0, 0, 0, 0), (.iinc 3 1, 0, 0, 0, 1), (.goto (-32), 4, 0, 0, 0)]
  | 39 => [(.iload_n 2, 0, 0, 0, 0), (.ireturn, 0, 0, 0, 0)]
  | _ => []
theorem kX12_weightOf (pc : Nat) : chk 214 (bX12_weightOf pc) pc = true := by
  unfold bX12_weightOf; split
  · decide +kernel
  · decide +kernel
  · decide +kernel
  · decide +kernel
  · decide +kernel
  · rfl
def bX12_falls : Nat → List Ins := fun pc => match pc with
  | 0 => [(.aload_n 0, 0, 0, 0, 0), (.iload_n 1, 0, 0, 0, 0), (.invokevirtual 286, 213, 1, 12, 0), (.ifCond .eq 12, 17, 0, 0, 0), (.iload_n 2, 0, 0, 0, 0), (.iconst 0, 0, 0, 0, 0), (.iconst 3, 0, 0, 0, 3), (.invokestatic 91, 144, 3, 0, 0), (.ifCond .ne 5, 19, 0, 0, 0)]
  | 17 => [(.iconst (-1), 0, 0, 0, (-1)), (.ireturn, 0, 0, 0, 0)]
  | 19 => [(.aload_n 0, 0, 0, 0, 0), (.invokevirtual 283, 204, 0, 12, 0), (.aload_n 0, 0, 0, 0, 0), (.getfield 20, 12, 3, 0, 0), (.sipush 159, 0, 0, 0, 159), (.iaload, 0, 0, 0, 0), (.iload_n 1, 0, 0, 0, 0), (.iconst (-1), 0, 0, 0, (-1)), (.ixor, 0, 0, 0, 0), (.iand, 0, 0, 0, 0), (.istore_n 3, 0, 0, 0, 0), (.iconst 0, 0, 0, 0, 0), (.istore 4, 0, 0, 0, 0)]
  | 39 => [(.aload_n 0, 0, 0, 0, 0), (.iload_n 3, 0, 0, 0, 0), (.invokevirtual 280, 206, 1, 12, 0), (.ifCond .eq 19, 63, 0, 0, 0), (.iload_n 3, 0, 0, 0, 0), (.aload_n 0, 0, 0, 0, 0), (.iload_n 3, 0, 0, 0, 0), (.invokevirtual 280, 206, 1, 12, 0), (.iconst (-1), 0, 0, 0, (-1)), (.ixor, 0, 0, 0, 0), (.iand, 0, 0, 0, 0), (.istore_n 3, 0, 0, 0, 0), (.iinc 4 1, 0, 0, 0, 1), (.goto (-21), 39, 0, 0, 0)]
  | 63 => [(.aload_n 0, 0, 0, 0, 0), (.getfield 20, 12, 3, 0, 0), (.sipush 159, 0, 0, 0, 159), (.iaload, 0, 0, 0, 0), (.iload_n 1, 0, 0, 0, 0), (.iconst (-1), 0, 0, 0, (-1)), (.ixor, 0, 0, 0, 0), (.iand, 0, 0, 0, 0), (.iload_n 3, 0, 0, 0, 0), (.iconst (-1), 0, 0, 0, (-1)), (.ixor, 0, 0, 0, 0), (.iand, 0, 0, 0, 0), (.istore 5, 0, 0, 0, 0), (.iload_n 2, 0, 0, 0, 0), (.ifCond .ne 11, 93, 0, 0, 0), (.iload 5, 0, 0, 0, 0), (.invokestatic 271, 148, 1, 0, 0), (.goto 28, 118, 0, 0, 0)]
  | 93 => [(.iload_n 2, 0, 0, 0, 0), (.iconst 1, 0, 0, 0, 1), (.if_icmp .ne 8, 103, 0, 0, 0), (.iload 4, 0, 0, 0, 0), (.goto 18, 118, 0, 0, 0)]
  | 103 => [(.iload_n 2, 0, 0, 0, 0), (.iconst 2, 0, 0, 0, 2), (.if_icmp .ne 7, 112, 0, 0, 0), (.iload_n 3, 0, 0, 0, 0), (.goto 9, 118, 0, 0, 0)]
  | 112 => [(.aload_n 0, 0, 0, 0, 0), (.iload 5, 0, 0, 0, 0), (.invokevirtual 289, 214, 1, 12, 0)]
  | 118 => [(.ireturn, 0, 0, 0, 0)]
  | _ => []
theorem kX12_falls (pc : Nat) : chk 215 (bX12_falls pc) pc = true := by
  unfold bX12_falls; split
  · decide +kernel
  · decide +kernel
  · decide +kernel
  · decide +kernel
  · decide +kernel
  · decide +kernel
  · decide +kernel
  · decide +kernel
  · decide +kernel
  · rfl
def bX12_round : Nat → List Ins := fun pc => match pc with
  | 0 => [(.aload_n 0, 0, 0, 0, 0), (.iload_n 1, 0, 0, 0, 0), (.invokevirtual 286, 213, 1, 12, 0), (.ifCond .eq 26, 31, 0, 0, 0), (.aload_n 0, 0, 0, 0, 0), (.iload_n 2, 0, 0, 0, 0), (.invokevirtual 106, 154, 1, 12, 0), (.ifCond .eq 18, 31, 0, 0, 0), (.aload_n 0, 0, 0, 0, 0), (.getfield 20, 12, 3, 0, 0), (.sipush 159, 0, 0, 0, 159), (.iaload, 0, 0, 0, 0), (.iload_n 2, 0, 0, 0, 0), (.invokestatic 274, 147, 2, 0, 0), (.ifCond .ne 5, 33, 0, 0, 0)]
  | 31 => [(.iconst (-1), 0, 0, 0, (-1)), (.ireturn, 0, 0, 0, 0)]
  | 33 => [(.iload_n 1, 0, 0, 0, 0), (.iload_n 2, 0, 0, 0, 0), (.invokestatic 274, 147, 2, 0, 0), (.ifCond .eq 5, 43, 0, 0, 0), (.iconst 0, 0, 0, 0, 0), (.ireturn, 0, 0, 0, 0)]
  | 43 => [(.aload_n 0, 0, 0, 0, 0), (.invokevirtual 283, 204, 0, 12, 0), (.aload_n 0, 0, 0, 0, 0), (.getfield 20, 12, 3, 0, 0), (.sipush 159, 0, 0, 0, 159), (.iaload, 0, 0, 0, 0), (.iload_n 1, 0, 0, 0, 0), (.iconst (-1), 0, 0, 0, (-1)), (.ixor, 0, 0, 0, 0), (.iand, 0, 0, 0, 0), (.istore_n 3, 0, 0, 0, 0), (.iconst 0, 0, 0, 0, 0), (.istore 4, 0, 0, 0, 0)]
  | 63 => [(.aload_n 0, 0, 0, 0, 0), (.iload_n 3, 0, 0, 0, 0), (.invokevirtual 280, 206, 1, 12, 0), (.ifCond .eq 27, 95, 0, 0, 0), (.iload_n 3, 0, 0, 0, 0), (.aload_n 0, 0, 0, 0, 0), (.iload_n 3, 0, 0, 0, 0), (.invokevirtual 280, 206, 1, 12, 0), (.iconst (-1), 0, 0, 0, (-1)), (.ixor, 0, 0, 0, 0), (.iand, 0, 0, 0, 0), (.istore_n 3, 0, 0, 0, 0), (.iinc 4 1, 0, 0, 0, 1), (.iload_n 3, 0, 0, 0, 0), (.iload_n 2, 0, 0, 0, 0), (.invokestatic 274, 147, 2, 0, 0), (.ifCond .ne (-26), 63, 0, 0, 0), (.iload 4, 0, 0, 0, 0), (.ireturn, 0, 0, 0, 0)]
  | 95 => [(.iconst (-1), 0, 0, 0, (-1)), (.ireturn, 0, 0, 0, 0)]
  | _ => []
theorem kX12_round (pc : Nat) : chk 216 (bX12_round pc) pc = true := by
  unfold bX12_round; split
  · decide +kernel
  · decide +kernel
  · decide +kernel
  · decide +kernel
  · decide +kernel
  · decide +kernel
  · rfl
def bX12_take : Nat → List Ins := fun pc => match pc with
  | 0 => [(.aload_n 0, 0, 0, 0, 0), (.iload_n 1, 0, 0, 0, 0), (.invokevirtual 286, 213, 1, 12, 0), (.ifCond .ne 9, 14, 0, 0, 0), (.aload_n 0, 0, 0, 0, 0), (.iconst (-1), 0, 0, 0, (-1)), (.invokevirtual 95, 145, 1, 12, 0), (.ireturn, 0, 0, 0, 0)]
  | 14 => [(.aload_n 0, 0, 0, 0, 0), (.invokevirtual 283, 204, 0, 12, 0), (.aload_n 0, 0, 0, 0, 0), (.getfield 20, 12, 3, 0, 0), (.sipush 159, 0, 0, 0, 159), (.iaload, 0, 0, 0, 0), (.istore_n 2, 0, 0, 0, 0), (.aload_n 0, 0, 0, 0, 0), (.getfield 20, 12, 3, 0, 0), (.sipush 159, 0, 0, 0, 159), (.aload_n 0, 0, 0, 0, 0), (.iload_n 2, 0, 0, 0, 0), (.iload_n 1, 0, 0, 0, 0), (.iconst (-1), 0, 0, 0, (-1)), (.ixor, 0, 0, 0, 0), (.iand, 0, 0, 0, 0), (.invokevirtual 292, 207, 1, 12, 0), (.iastore, 0, 0, 0, 0), (.aload_n 0, 0, 0, 0, 0), (.iload_n 2, 0, 0, 0, 0), (.invokestatic 271, 148, 1, 0, 0), (.aload_n 0, 0, 0, 0, 0), (.getfield 20, 12, 3, 0, 0), (.sipush 159, 0, 0, 0, 159), (.iaload, 0, 0, 0, 0), (.invokestatic 271, 148, 1, 0, 0), (.isub, 0, 0, 0, 0), (.invokevirtual 99, 146, 1, 12, 0), (.ireturn, 0, 0, 0, 0)]
  | _ => []
theorem kX12_take (pc : Nat) : chk 217 (bX12_take pc) pc = true := by
  unfold bX12_take; split
  · decide +kernel
  · decide +kernel
  · rfl
def bX12_farm : Nat → List Ins := fun pc => match pc with
  | 0 => [(.aload_n 0, 0, 0, 0, 0), (.iload_n 1, 0, 0, 0, 0), (.invokevirtual 286, 213, 1, 12, 0), (.ifCond .eq 12, 17, 0, 0, 0), (.iload_n 2, 0, 0, 0, 0), (.iconst 0, 0, 0, 0, 0), (.iconst 3, 0, 0, 0, 3), (.invokestatic 91, 144, 3, 0, 0), (.ifCond .ne 5, 19, 0, 0, 0)]
  | 17 => [(.iconst (-1), 0, 0, 0, (-1)), (.ireturn, 0, 0, 0, 0)]
  | 19 => [(.aload_n 0, 0, 0, 0, 0), (.invokevirtual 283, 204, 0, 12, 0), (.aload_n 0, 0, 0, 0, 0), (.getfield 20, 12, 3, 0, 0), (.sipush 159, 0, 0, 0, 159), (.iaload, 0, 0, 0, 0), (.aload_n 0, 0, 0, 0, 0), (.aload_n 0, 0, 0, 0, 0), (.getfield 20, 12, 3, 0, 0), (.sipush 159, 0, 0, 0, 159), (.iaload, 0, 0, 0, 0), (.iload_n 1, 0, 0, 0, 0), (.iconst (-1), 0, 0, 0, (-1)), (.ixor, 0, 0, 0, 0), (.iand, 0, 0, 0, 0), (.invokevirtual 292, 207, 1, 12, 0), (.iconst (-1), 0, 0, 0, (-1)), (.ixor, 0, 0, 0, 0), (.iand, 0, 0, 0, 0), (.istore_n 3, 0, 0, 0, 0), (.iconst 0, 0, 0, 0, 0), (.istore 4, 0, 0, 0, 0), (.iconst 0, 0, 0, 0, 0), (.istore 5, 0, 0, 0, 0)]
  | 57 => [(.iload 5, 0, 0, 0, 0), (.aload_n 0, 0, 0, 0, 0), (.invokevirtual 102, 152, 0, 12, 0), (.if_icmp .ge 39, 102, 0, 0, 0), (.iload 4, 0, 0, 0, 0), (.iload_n 3, 0, 0, 0, 0), (.iload 5, 0, 0, 0, 0), (.invokestatic 274, 147, 2, 0, 0), (.ifCond .eq 18, 92, 0, 0, 0), (.aload_n 0, 0, 0, 0, 0), (.iload 5, 0, 0, 0, 0), (.iconst 5, 0, 0, 0, 5), (.invokevirtual 113, 155, 2, 12, 0), (.iload_n 2, 0, 0, 0, 0), (.if_icmp .ne 7, 92, 0, 0, 0), (.iconst 1, 0, 0, 0, 1), (.goto 4, 93, 0, 0, 0)]
  | 92 => [(.iconst 0, 0, 0, 0, 0)]
  | 93 => [(.iadd, 0, 0, 0, 0), (.istore 4, 0, 0, 0, 0), (.iinc 5 1, 0, 0, 0, 1), (.goto (-42), 57, 0, 0, 0)]
  | 102 => [(.iload 4, 0, 0, 0, 0), (.ireturn, 0, 0, 0, 0)]
  | _ => []
theorem kX12_farm (pc : Nat) : chk 218 (bX12_farm pc) pc = true := by
  unfold bX12_farm; split
  · decide +kernel
  · decide +kernel
  · decide +kernel
  · decide +kernel
  · decide +kernel
  · decide +kernel
  · decide +kernel
  · rfl
def bX12_sets : Nat → List Ins := fun pc => match pc with
  | 0 => [(.aload_n 0, 0, 0, 0, 0), (.invokevirtual 283, 204, 0, 12, 0), (.aload_n 0, 0, 0, 0, 0), (.getfield 82, 12, 32, 0, 0), (.aload_n 0, 0, 0, 0, 0), (.getfield 11, 12, 1, 0, 0), (.if_icmp .ne 4, 16, 0, 0, 0), (.return_, 0, 0, 0, 0)]
  | 16 => [(.aload_n 0, 0, 0, 0, 0), (.aload_n 0, 0, 0, 0, 0), (.getfield 11, 12, 1, 0, 0), (.putfield 82, 12, 32, 0, 0), (.iconst 1, 0, 0, 0, 1), (.aload_n 0, 0, 0, 0, 0), (.invokevirtual 102, 152, 0, 12, 0), (.ishl, 0, 0, 0, 0), (.istore_n 1, 0, 0, 0, 0), (.iconst 0, 0, 0, 0, 0), (.istore_n 2, 0, 0, 0, 0)]
  | 33 => [(.iload_n 2, 0, 0, 0, 0), (.iload_n 1, 0, 0, 0, 0), (.if_icmp .ge 144, 179, 0, 0, 0), (.aload_n 0, 0, 0, 0, 0), (.iload_n 2, 0, 0, 0, 0), (.invokevirtual 280, 206, 1, 12, 0), (.istore_n 3, 0, 0, 0, 0), (.aload_n 0, 0, 0, 0, 0), (.getfield 70, 12, 28, 0, 0), (.iload_n 2, 0, 0, 0, 0), (.iload_n 2, 0, 0, 0, 0), (.ifCond .eq 11, 61, 0, 0, 0), (.iload_n 3, 0, 0, 0, 0), (.ifCond .ne 7, 61, 0, 0, 0), (.iconst 1, 0, 0, 0, 1), (.goto 4, 62, 0, 0, 0)]
  | 61 => [(.iconst 0, 0, 0, 0, 0)]
  | 62 => [(.bastore, 0, 0, 0, 0), (.aload_n 0, 0, 0, 0, 0), (.getfield 73, 12, 29, 0, 0), (.iload_n 2, 0, 0, 0, 0), (.iload_n 3, 0, 0, 0, 0), (.ifCond .ne 7, 76, 0, 0, 0), (.iload_n 2, 0, 0, 0, 0), (.goto 13, 86, 0, 0, 0)]
  | 76 => [(.aload_n 0, 0, 0, 0, 0), (.getfield 73, 12, 29, 0, 0), (.iload_n 2, 0, 0, 0, 0), (.iload_n 3, 0, 0, 0, 0), (.iconst (-1), 0, 0, 0, (-1)), (.ixor, 0, 0, 0, 0), (.iand, 0, 0, 0, 0), (.iaload, 0, 0, 0, 0)]
  | 86 => [(.iastore, 0, 0, 0, 0), (.aload_n 0, 0, 0, 0, 0), (.getfield 76, 12, 30, 0, 0), (.iload_n 2, 0, 0, 0, 0), (.iconst 0, 0, 0, 0, 0), (.bastore, 0, 0, 0, 0), (.iconst 0, 0, 0, 0, 0), (.istore 4, 0, 0, 0, 0)]
  | 97 => [(.iload 4, 0, 0, 0, 0), (.aload_n 0, 0, 0, 0, 0), (.invokevirtual 102, 152, 0, 12, 0), (.if_icmp .ge 70, 173, 0, 0, 0), (.aload_n 0, 0, 0, 0, 0), (.getfield 76, 12, 30, 0, 0), (.iload_n 2, 0, 0, 0, 0), (.aload_n 0, 0, 0, 0, 0), (.getfield 76, 12, 30, 0, 0), (.iload_n 2, 0, 0, 0, 0), (.baload, 0, 0, 0, 0), (.ifCond .ne 44, 161, 0, 0, 0), (.iload_n 2, 0, 0, 0, 0), (.iload 4, 0, 0, 0, 0), (.invokestatic 274, 147, 2, 0, 0), (.ifCond .eq 39, 165, 0, 0, 0), (.aload_n 0, 0, 0, 0, 0), (.getfield 70, 12, 28, 0, 0), (.iload_n 2, 0, 0, 0, 0), (.iconst 1, 0, 0, 0, 1), (.iload 4, 0, 0, 0, 0), (.ishl, 0, 0, 0, 0), (.iconst (-1), 0, 0, 0, (-1)), (.ixor, 0, 0, 0, 0), (.iand, 0, 0, 0, 0), (.baload, 0, 0, 0, 0), (.ifCond .eq 23, 165, 0, 0, 0), (.aload_n 0, 0, 0, 0, 0), (.getfield 76, 12, 30, 0, 0), (.iload_n 2, 0, 0, 0, 0), (.iconst 1, 0, 0, 0, 1), (.iload 4, 0, 0, 0, 0), (.ishl, 0, 0, 0, 0), (.iconst (-1), 0, 0, 0, (-1)), (.ixor, 0, 0, 0, 0), (.iand, 0, 0, 0, 0), (.baload, 0, 0, 0, 0), (.ifCond .ne 7, 165, 0, 0, 0)]
  | 161 => [(.iconst 1, 0, 0, 0, 1), (.goto 4, 166, 0, 0, 0)]
  | 165 => [(.iconst 0, 0, 0, 0, 0)]
  | 166 => [(.bastore, 0, 0, 0, 0), (.iinc 4 1, 0, 0, 0, 1), (.goto (-73), 97, 0, 0, 0)]
  | 173 => [(.iinc 2 1, 0, 0, 0, 1), (.goto (-143), 33, 0, 0, 0)]
  | 179 => [(.iload_n 1, 0, 0, 0, 0), (.iconst 1, 0, 0, 0, 1), (.isub, 0, 0, 0, 0), (.istore_n 2, 0, 0, 0, 0)]
  | 183 => [(.iload_n 2, 0, 0, 0, 0), (.ifCond .lt 122, 306, 0, 0, 0), (.aload_n 0, 0, 0, 0, 0), (.getfield 79, 12, 31, 0, 0), (.iload_n 2, 0, 0, 0, 0), (.iload_n 2, 0, 0, 0, 0), (.aload_n 0, 0, 0, 0, 0), (.getfield 20, 12, 3, 0, 0), (.sipush 159, 0, 0, 0, 159), (.iaload, 0, 0, 0, 0), (.if_icmp .ne 16, 217, 0, 0, 0), (.aload_n 0, 0, 0, 0, 0), (.getfield 70, 12, 28, 0, 0), (.iload_n 2, 0, 0, 0, 0), (.baload, 0, 0, 0, 0), (.ifCond .eq 7, 217, 0, 0, 0), (.iconst 1, 0, 0, 0, 1), (.goto 4, 218, 0, 0, 0)]
  | 217 => [(.iconst 0, 0, 0, 0, 0)]
  | 218 => [(.bastore, 0, 0, 0, 0), (.iconst 0, 0, 0, 0, 0), (.istore_n 3, 0, 0, 0, 0)]
  | 221 => [(.iload_n 3, 0, 0, 0, 0), (.aload_n 0, 0, 0, 0, 0), (.invokevirtual 102, 152, 0, 12, 0), (.if_icmp .ge 74, 300, 0, 0, 0), (.aload_n 0, 0, 0, 0, 0), (.getfield 79, 12, 31, 0, 0), (.iload_n 2, 0, 0, 0, 0), (.aload_n 0, 0, 0, 0, 0), (.getfield 79, 12, 31, 0, 0), (.iload_n 2, 0, 0, 0, 0), (.baload, 0, 0, 0, 0), (.ifCond .ne 48, 288, 0, 0, 0), (.aload_n 0, 0, 0, 0, 0), (.getfield 70, 12, 28, 0, 0), (.iload_n 2, 0, 0, 0, 0), (.baload, 0, 0, 0, 0), (.ifCond .eq 43, 292, 0, 0, 0), (.aload_n 0, 0, 0, 0, 0), (.getfield 20, 12, 3, 0, 0), (.sipush 159, 0, 0, 0, 159), (.iaload, 0, 0, 0, 0), (.iload_n 3, 0, 0, 0, 0), (.invokestatic 274, 147, 2, 0, 0), (.ifCond .eq 28, 292, 0, 0, 0), (.iload_n 2, 0, 0, 0, 0), (.iload_n 3, 0, 0, 0, 0), (.invokestatic 274, 147, 2, 0, 0), (.ifCond .ne 20, 292, 0, 0, 0), (.aload_n 0, 0, 0, 0, 0), (.getfield 79, 12, 31, 0, 0), (.iload_n 2, 0, 0, 0, 0), (.iconst 1, 0, 0, 0, 1), (.iload_n 3, 0, 0, 0, 0), (.ishl, 0, 0, 0, 0), (.ior, 0, 0, 0, 0), (.baload, 0, 0, 0, 0), (.ifCond .eq 7, 292, 0, 0, 0)]
  | 288 => [(.iconst 1, 0, 0, 0, 1), (.goto 4, 293, 0, 0, 0)]
  | 292 => [(.iconst 0, 0, 0, 0, 0)]
  | 293 => [(.bastore, 0, 0, 0, 0), (.iinc 3 1, 0, 0, 0, 1), (.goto (-76), 221, 0, 0, 0)]
  | 300 => [(.iinc 2 (-1), 0, 0, 0, (-1)), (.goto (-120), 183, 0, 0, 0)]
  | 306 => [(.return_, 0, 0, 0, 0)]
  | _ => []
theorem kX12_sets (pc : Nat) : chk 219 (bX12_sets pc) pc = true := by
  unfold bX12_sets; split
  · decide +kernel
  · decide +kernel
  · decide +kernel
  · decide +kernel
  · decide +kernel
  · decide +kernel
  · decide +kernel
  · decide +kernel
  · decide +kernel
  · decide +kernel
  · decide +kernel
  · decide +kernel
  · decide +kernel
  · decide +kernel
  · decide +kernel
  · decide +kernel
  · decide +kernel
  · decide +kernel
  · decide +kernel
  · decide +kernel
  · decide +kernel
  · decide +kernel
  · rfl
def bX12_isBetter : Nat → List Ins := fun pc => match pc with
  | 0 => [(.iload_n 1, 0, 0, 0, 0), (.invokestatic 271, 148, 1, 0, 0), (.iload_n 2, 0, 0, 0, 0), (.invokestatic 271, 148, 1, 0, 0), (.if_icmp .gt 27, 35, 0, 0, 0), (.iload_n 1, 0, 0, 0, 0), (.invokestatic 271, 148, 1, 0, 0), (.iload_n 2, 0, 0, 0, 0), (.invokestatic 271, 148, 1, 0, 0), (.if_icmp .ne 20, 39, 0, 0, 0), (.aload_n 0, 0, 0, 0, 0), (.iload_n 1, 0, 0, 0, 0), (.invokevirtual 289, 214, 1, 12, 0), (.aload_n 0, 0, 0, 0, 0), (.iload_n 2, 0, 0, 0, 0), (.invokevirtual 289, 214, 1, 12, 0), (.if_icmp .le 7, 39, 0, 0, 0)]
  | 35 => [(.iconst 1, 0, 0, 0, 1), (.goto 4, 40, 0, 0, 0)]
  | 39 => [(.iconst 0, 0, 0, 0, 0)]
  | 40 => [(.ireturn, 1, 0, 0, 0)]
  | _ => []
theorem kX12_isBetter (pc : Nat) : chk 220 (bX12_isBetter pc) pc = true := by
  unfold bX12_isBetter; split
  · decide +kernel
  · decide +kernel
  · decide +kernel
  · decide +kernel
  · rfl
def bX12_takesMost : Nat → List Ins := fun pc => match pc with
  | 0 => [(.aload_n 0, 0, 0, 0, 0), (.invokevirtual 295, 219, 0, 12, 0), (.aload_n 0, 0, 0, 0, 0), (.iconst (-1), 0, 0, 0, (-1)), (.putfield 298, 12, 33, 0, 0), (.aload_n 0, 0, 0, 0, 0), (.iconst 0, 0, 0, 0, 0), (.putfield 301, 12, 34, 0, 0), (.iconst 0, 0, 0, 0, 0), (.istore_n 2, 0, 0, 0, 0)]
  | 16 => [(.iload_n 2, 0, 0, 0, 0), (.iconst 1, 0, 0, 0, 1), (.aload_n 0, 0, 0, 0, 0), (.invokevirtual 102, 152, 0, 12, 0), (.ishl, 0, 0, 0, 0), (.if_icmp .ge 96, 119, 0, 0, 0), (.aload_n 0, 0, 0, 0, 0), (.iload_n 2, 0, 0, 0, 0), (.invokevirtual 286, 213, 1, 12, 0), (.ifCond .ne 6, 37, 0, 0, 0), (.goto 79, 113, 0, 0, 0)]
  | 37 => [(.aload_n 0, 0, 0, 0, 0), (.getfield 20, 12, 3, 0, 0), (.sipush 159, 0, 0, 0, 159), (.iaload, 0, 0, 0, 0), (.iload_n 2, 0, 0, 0, 0), (.iconst (-1), 0, 0, 0, (-1)), (.ixor, 0, 0, 0, 0), (.iand, 0, 0, 0, 0), (.istore_n 3, 0, 0, 0, 0), (.iload_n 1, 0, 0, 0, 0), (.ifCond .eq 15, 66, 0, 0, 0), (.aload_n 0, 0, 0, 0, 0), (.getfield 79, 12, 31, 0, 0), (.iload_n 3, 0, 0, 0, 0), (.baload, 0, 0, 0, 0), (.ifCond .ne 18, 78, 0, 0, 0), (.goto 50, 113, 0, 0, 0)]
  | 66 => [(.aload_n 0, 0, 0, 0, 0), (.getfield 70, 12, 28, 0, 0), (.iload_n 3, 0, 0, 0, 0), (.baload, 0, 0, 0, 0), (.ifCond .ne 6, 78, 0, 0, 0), (.goto 38, 113, 0, 0, 0)]
  | 78 => [(.aload_n 0, 0, 0, 0, 0), (.dup, 0, 0, 0, 0), (.getfield 301, 12, 34, 0, 0), (.iconst 1, 0, 0, 0, 1), (.iadd, 0, 0, 0, 0), (.putfield 301, 12, 34, 0, 0), (.aload_n 0, 0, 0, 0, 0), (.getfield 298, 12, 33, 0, 0), (.iconst (-1), 0, 0, 0, (-1)), (.if_icmp .eq 15, 108, 0, 0, 0), (.aload_n 0, 0, 0, 0, 0), (.iload_n 2, 0, 0, 0, 0), (.aload_n 0, 0, 0, 0, 0), (.getfield 298, 12, 33, 0, 0), (.invokevirtual 304, 220, 2, 12, 0), (.ifCond .eq 8, 113, 0, 0, 0)]
  | 108 => [(.aload_n 0, 0, 0, 0, 0), (.iload_n 2, 0, 0, 0, 0), (.putfield 298, 12, 33, 0, 0)]
  | 113 => [(.iinc 2 1, 0, 0, 0, 1), (.goto (-100), 16, 0, 0, 0)]
  | 119 => [(.return_, 0, 0, 0, 0)]
  | _ => []
theorem kX12_takesMost (pc : Nat) : chk 221 (bX12_takesMost pc) pc = true := by
  unfold bX12_takesMost; split
  · decide +kernel
  · decide +kernel
  · decide +kernel
  · decide +kernel
  · decide +kernel
  · decide +kernel
  · decide +kernel
  · decide +kernel
  · rfl
def bX12_told : Nat → List Ins := fun pc => match pc with
  | 0 => [(.iload_n 1, 0, 0, 0, 0), (.iconst 3, 0, 0, 0, 3), (.if_icmp .ne 10, 12, 0, 0, 0), (.aload_n 0, 0, 0, 0, 0), (.getfield 301, 12, 34, 0, 0), (.goto 45, 54, 0, 0, 0)]
  | 12 => [(.aload_n 0, 0, 0, 0, 0), (.getfield 298, 12, 33, 0, 0), (.iconst (-1), 0, 0, 0, (-1)), (.if_icmp .eq 8, 25, 0, 0, 0), (.iload_n 1, 0, 0, 0, 0), (.iconst 2, 0, 0, 0, 2), (.if_icmp .ne 10, 32, 0, 0, 0)]
  | 25 => [(.aload_n 0, 0, 0, 0, 0), (.getfield 298, 12, 33, 0, 0), (.goto 25, 54, 0, 0, 0)]
  | 32 => [(.iload_n 1, 0, 0, 0, 0), (.ifCond .ne 13, 46, 0, 0, 0), (.aload_n 0, 0, 0, 0, 0), (.getfield 298, 12, 33, 0, 0), (.invokestatic 271, 148, 1, 0, 0), (.goto 11, 54, 0, 0, 0)]
  | 46 => [(.aload_n 0, 0, 0, 0, 0), (.aload_n 0, 0, 0, 0, 0), (.getfield 298, 12, 33, 0, 0), (.invokevirtual 289, 214, 1, 12, 0)]
  | 54 => [(.ireturn, 0, 0, 0, 0)]
  | _ => []
theorem kX12_told (pc : Nat) : chk 222 (bX12_told pc) pc = true := by
  unfold bX12_told; split
  · decide +kernel
  · decide +kernel
  · decide +kernel
  · decide +kernel
  · decide +kernel
  · decide +kernel
  · rfl
def bX12_once : Nat → List Ins := fun pc => match pc with
  | 0 => [(.iload_n 1, 0, 0, 0, 0), (.iconst 0, 0, 0, 0, 0), (.iconst 3, 0, 0, 0, 3), (.invokestatic 91, 144, 3, 0, 0), (.ifCond .ne 5, 11, 0, 0, 0), (.iconst (-1), 0, 0, 0, (-1)), (.ireturn, 0, 0, 0, 0)]
  | 11 => [(.aload_n 0, 0, 0, 0, 0), (.iconst 0, 0, 0, 0, 0), (.invokevirtual 307, 221, 1, 12, 0), (.aload_n 0, 0, 0, 0, 0), (.iload_n 1, 0, 0, 0, 0), (.invokevirtual 311, 222, 1, 12, 0), (.ireturn, 0, 0, 0, 0)]
  | _ => []
theorem kX12_once (pc : Nat) : chk 223 (bX12_once pc) pc = true := by
  unfold bX12_once; split
  · decide +kernel
  · decide +kernel
  · rfl
def bX12_oneByOne : Nat → List Ins := fun pc => match pc with
  | 0 => [(.iload_n 1, 0, 0, 0, 0), (.iconst 0, 0, 0, 0, 0), (.iconst 3, 0, 0, 0, 3), (.invokestatic 91, 144, 3, 0, 0), (.ifCond .ne 5, 11, 0, 0, 0), (.iconst (-1), 0, 0, 0, (-1)), (.ireturn, 0, 0, 0, 0)]
  | 11 => [(.aload_n 0, 0, 0, 0, 0), (.iconst 1, 0, 0, 0, 1), (.invokevirtual 307, 221, 1, 12, 0), (.aload_n 0, 0, 0, 0, 0), (.iload_n 1, 0, 0, 0, 0), (.invokevirtual 311, 222, 1, 12, 0), (.ireturn, 0, 0, 0, 0)]
  | _ => []
theorem kX12_oneByOne (pc : Nat) : chk 224 (bX12_oneByOne pc) pc = true := by
  unfold bX12_oneByOne; split
  · decide +kernel
  · decide +kernel
  · rfl
def bX12_order : Nat → List Ins := fun pc => match pc with
  | 0 => [(.aload_n 0, 0, 0, 0, 0), (.iconst 1, 0, 0, 0, 1), (.invokevirtual 307, 221, 1, 12, 0), (.aload_n 0, 0, 0, 0, 0), (.getfield 298, 12, 33, 0, 0), (.iconst (-1), 0, 0, 0, (-1)), (.if_icmp .eq 20, 30, 0, 0, 0), (.iload_n 1, 0, 0, 0, 0), (.iconst 0, 0, 0, 0, 0), (.aload_n 0, 0, 0, 0, 0), (.getfield 298, 12, 33, 0, 0), (.invokestatic 271, 148, 1, 0, 0), (.iconst 1, 0, 0, 0, 1), (.isub, 0, 0, 0, 0), (.invokestatic 91, 144, 3, 0, 0), (.ifCond .ne 5, 32, 0, 0, 0)]
  | 30 => [(.iconst (-1), 0, 0, 0, (-1)), (.ireturn, 0, 0, 0, 0)]
  | 32 => [(.aload_n 0, 0, 0, 0, 0), (.getfield 20, 12, 3, 0, 0), (.sipush 159, 0, 0, 0, 159), (.iaload, 0, 0, 0, 0), (.aload_n 0, 0, 0, 0, 0), (.getfield 298, 12, 33, 0, 0), (.iconst (-1), 0, 0, 0, (-1)), (.ixor, 0, 0, 0, 0), (.iand, 0, 0, 0, 0), (.istore_n 2, 0, 0, 0, 0), (.iconst 0, 0, 0, 0, 0), (.istore_n 3, 0, 0, 0, 0)]
  | 50 => [(.iload_n 3, 0, 0, 0, 0), (.iconst 1, 0, 0, 0, 1), (.aload_n 0, 0, 0, 0, 0), (.invokevirtual 102, 152, 0, 12, 0), (.ishl, 0, 0, 0, 0), (.if_icmp .ge 106, 163, 0, 0, 0), (.aload_n 0, 0, 0, 0, 0), (.getfield 85, 12, 35, 0, 0), (.iload_n 3, 0, 0, 0, 0), (.iload_n 3, 0, 0, 0, 0), (.iload_n 2, 0, 0, 0, 0), (.if_icmp .ne 7, 74, 0, 0, 0), (.iconst 1, 0, 0, 0, 1), (.goto 4, 75, 0, 0, 0)]
  | 74 => [(.iconst 0, 0, 0, 0, 0)]
  | 75 => [(.bastore, 0, 0, 0, 0), (.iconst 0, 0, 0, 0, 0), (.istore 4, 0, 0, 0, 0)]
  | 79 => [(.iload 4, 0, 0, 0, 0), (.aload_n 0, 0, 0, 0, 0), (.invokevirtual 102, 152, 0, 12, 0), (.if_icmp .ge 72, 157, 0, 0, 0), (.aload_n 0, 0, 0, 0, 0), (.getfield 85, 12, 35, 0, 0), (.iload_n 3, 0, 0, 0, 0), (.aload_n 0, 0, 0, 0, 0), (.getfield 85, 12, 35, 0, 0), (.iload_n 3, 0, 0, 0, 0), (.baload, 0, 0, 0, 0), (.ifCond .ne 46, 145, 0, 0, 0), (.aload_n 0, 0, 0, 0, 0), (.getfield 70, 12, 28, 0, 0), (.iload_n 3, 0, 0, 0, 0), (.baload, 0, 0, 0, 0), (.ifCond .eq 41, 149, 0, 0, 0), (.iload_n 3, 0, 0, 0, 0), (.iload 4, 0, 0, 0, 0), (.invokestatic 274, 147, 2, 0, 0), (.ifCond .eq 32, 149, 0, 0, 0), (.iload_n 2, 0, 0, 0, 0), (.iload 4, 0, 0, 0, 0), (.invokestatic 274, 147, 2, 0, 0), (.ifCond .ne 23, 149, 0, 0, 0), (.aload_n 0, 0, 0, 0, 0), (.getfield 85, 12, 35, 0, 0), (.iload_n 3, 0, 0, 0, 0), (.iconst 1, 0, 0, 0, 1), (.iload 4, 0, 0, 0, 0), (.ishl, 0, 0, 0, 0), (.iconst (-1), 0, 0, 0, (-1)), (.ixor, 0, 0, 0, 0), (.iand, 0, 0, 0, 0), (.baload, 0, 0, 0, 0), (.ifCond .eq 7, 149, 0, 0, 0)]
  | 145 => [(.iconst 1, 0, 0, 0, 1), (.goto 4, 150, 0, 0, 0)]
  | 149 => [(.iconst 0, 0, 0, 0, 0)]
  | 150 => [(.bastore, 0, 0, 0, 0), (.iinc 4 1, 0, 0, 0, 1), (.goto (-75), 79, 0, 0, 0)]
  | 157 => [(.iinc 3 1, 0, 0, 0, 1), (.goto (-110), 50, 0, 0, 0)]
  | 163 => [(.aload_n 0, 0, 0, 0, 0), (.getfield 20, 12, 3, 0, 0), (.sipush 159, 0, 0, 0, 159), (.iaload, 0, 0, 0, 0), (.istore_n 3, 0, 0, 0, 0), (.iconst (-1), 0, 0, 0, (-1)), (.istore 4, 0, 0, 0, 0), (.iconst 0, 0, 0, 0, 0), (.istore 5, 0, 0, 0, 0)]
  | 178 => [(.iload 5, 0, 0, 0, 0), (.iload_n 1, 0, 0, 0, 0), (.if_icmp .gt 61, 242, 0, 0, 0), (.iconst 0, 0, 0, 0, 0), (.istore 4, 0, 0, 0, 0)]
  | 187 => [(.iload_n 3, 0, 0, 0, 0), (.iload 4, 0, 0, 0, 0), (.invokestatic 274, 147, 2, 0, 0), (.ifCond .eq 28, 221, 0, 0, 0), (.iload_n 2, 0, 0, 0, 0), (.iload 4, 0, 0, 0, 0), (.invokestatic 274, 147, 2, 0, 0), (.ifCond .ne 19, 221, 0, 0, 0), (.aload_n 0, 0, 0, 0, 0), (.getfield 85, 12, 35, 0, 0), (.iload_n 3, 0, 0, 0, 0), (.iconst 1, 0, 0, 0, 1), (.iload 4, 0, 0, 0, 0), (.ishl, 0, 0, 0, 0), (.iconst (-1), 0, 0, 0, (-1)), (.ixor, 0, 0, 0, 0), (.iand, 0, 0, 0, 0), (.baload, 0, 0, 0, 0), (.ifCond .ne 9, 227, 0, 0, 0)]
  | 221 => [(.iinc 4 1, 0, 0, 0, 1), (.goto (-37), 187, 0, 0, 0)]
  | 227 => [(.iload_n 3, 0, 0, 0, 0), (.iconst 1, 0, 0, 0, 1), (.iload 4, 0, 0, 0, 0), (.ishl, 0, 0, 0, 0), (.iconst (-1), 0, 0, 0, (-1)), (.ixor, 0, 0, 0, 0), (.iand, 0, 0, 0, 0), (.istore_n 3, 0, 0, 0, 0), (.iinc 5 1, 0, 0, 0, 1), (.goto (-61), 178, 0, 0, 0)]
  | 242 => [(.iload 4, 0, 0, 0, 0), (.ireturn, 0, 0, 0, 0)]
  | _ => []
theorem kX12_order (pc : Nat) : chk 225 (bX12_order pc) pc = true := by
  unfold bX12_order; split
  · decide +kernel
  · decide +kernel
  · decide +kernel
  · decide +kernel
  · decide +kernel
  · decide +kernel
  · decide +kernel
  · decide +kernel
  · decide +kernel
  · decide +kernel
  · decide +kernel
  · decide +kernel
  · decide +kernel
  · decide +kernel
  · decide +kernel
  · decide +kernel
  · decide +kernel
  · rfl
def bX12_fell : Nat → List Ins := fun pc => match pc with
  | 0 => [(.iload_n 1, 0, 0, 0, 0), (.iconst 0, 0, 0, 0, 0), (.iconst 2, 0, 0, 0, 2), (.invokestatic 91, 144, 3, 0, 0), (.ifCond .ne 5, 11, 0, 0, 0), (.iconst (-1), 0, 0, 0, (-1)), (.ireturn, 0, 0, 0, 0)]
  | 11 => [(.aload_n 0, 0, 0, 0, 0), (.invokevirtual 295, 219, 0, 12, 0), (.iconst (-1), 0, 0, 0, (-1)), (.istore_n 2, 0, 0, 0, 0), (.iconst 0, 0, 0, 0, 0), (.istore_n 3, 0, 0, 0, 0), (.iconst 0, 0, 0, 0, 0), (.istore 4, 0, 0, 0, 0)]
  | 22 => [(.iload 4, 0, 0, 0, 0), (.iconst 1, 0, 0, 0, 1), (.aload_n 0, 0, 0, 0, 0), (.invokevirtual 102, 152, 0, 12, 0), (.ishl, 0, 0, 0, 0), (.if_icmp .ge 84, 114, 0, 0, 0), (.aload_n 0, 0, 0, 0, 0), (.iload 4, 0, 0, 0, 0), (.invokevirtual 286, 213, 1, 12, 0), (.ifCond .eq 69, 108, 0, 0, 0), (.aload_n 0, 0, 0, 0, 0), (.getfield 73, 12, 29, 0, 0), (.aload_n 0, 0, 0, 0, 0), (.getfield 20, 12, 3, 0, 0), (.sipush 159, 0, 0, 0, 159), (.iaload, 0, 0, 0, 0), (.iload 4, 0, 0, 0, 0), (.iconst (-1), 0, 0, 0, (-1)), (.ixor, 0, 0, 0, 0), (.iand, 0, 0, 0, 0), (.iaload, 0, 0, 0, 0), (.ifCond .ne 48, 108, 0, 0, 0), (.iload_n 2, 0, 0, 0, 0), (.iconst (-1), 0, 0, 0, (-1)), (.if_icmp .eq 18, 83, 0, 0, 0), (.iload 4, 0, 0, 0, 0), (.invokestatic 271, 148, 1, 0, 0), (.iload_n 2, 0, 0, 0, 0), (.invokestatic 271, 148, 1, 0, 0), (.if_icmp .le 6, 83, 0, 0, 0), (.goto 28, 108, 0, 0, 0)]
  | 83 => [(.iload_n 2, 0, 0, 0, 0), (.iconst (-1), 0, 0, 0, (-1)), (.if_icmp .eq 15, 100, 0, 0, 0), (.iload 4, 0, 0, 0, 0), (.invokestatic 271, 148, 1, 0, 0), (.iload_n 2, 0, 0, 0, 0), (.invokestatic 271, 148, 1, 0, 0), (.if_icmp .ge 8, 105, 0, 0, 0)]
  | 100 => [(.iload 4, 0, 0, 0, 0), (.istore_n 2, 0, 0, 0, 0), (.iconst 0, 0, 0, 0, 0), (.istore_n 3, 0, 0, 0, 0)]
  | 105 => [(.iinc 3 1, 0, 0, 0, 1)]
  | 108 => [(.iinc 4 1, 0, 0, 0, 1), (.goto (-89), 22, 0, 0, 0)]
  | 114 => [(.iload_n 1, 0, 0, 0, 0), (.ifCond .ne 10, 125, 0, 0, 0), (.iload_n 2, 0, 0, 0, 0), (.invokestatic 271, 148, 1, 0, 0), (.goto 13, 135, 0, 0, 0)]
  | 125 => [(.iload_n 1, 0, 0, 0, 0), (.iconst 1, 0, 0, 0, 1), (.if_icmp .ne 7, 134, 0, 0, 0), (.iload_n 2, 0, 0, 0, 0), (.goto 4, 135, 0, 0, 0)]
  | 134 => [(.iload_n 3, 0, 0, 0, 0)]
  | 135 => [(.ireturn, 0, 0, 0, 0)]
  | _ => []
theorem kX12_fell (pc : Nat) : chk 226 (bX12_fell pc) pc = true := by
  unfold bX12_fell; split
  · decide +kernel
  · decide +kernel
  · decide +kernel
  · decide +kernel
  · decide +kernel
  · decide +kernel
  · decide +kernel
  · decide +kernel
  · decide +kernel
  · decide +kernel
  · decide +kernel
  · rfl
def bX12_gate : Nat → List Ins := fun pc => match pc with
  | 0 => [(.iload_n 1, 0, 0, 0, 0), (.iconst 0, 0, 0, 0, 0), (.bipush 11, 0, 0, 0, 11), (.invokestatic 91, 144, 3, 0, 0), (.ifCond .eq 44, 51, 0, 0, 0), (.iload_n 3, 0, 0, 0, 0), (.iload_n 1, 0, 0, 0, 0), (.bipush 11, 0, 0, 0, 11), (.invokestatic 91, 144, 3, 0, 0), (.ifCond .eq 34, 51, 0, 0, 0), (.iload_n 2, 0, 0, 0, 0), (.iconst 0, 0, 0, 0, 0), (.bipush 7, 0, 0, 0, 7), (.invokestatic 91, 144, 3, 0, 0), (.ifCond .eq 24, 51, 0, 0, 0), (.iload 4, 0, 0, 0, 0), (.iload_n 2, 0, 0, 0, 0), (.bipush 7, 0, 0, 0, 7), (.invokestatic 91, 144, 3, 0, 0), (.ifCond .eq 13, 51, 0, 0, 0), (.iload 5, 0, 0, 0, 0), (.iconst 0, 0, 0, 0, 0), (.iconst 2, 0, 0, 0, 2), (.invokestatic 91, 144, 3, 0, 0), (.ifCond .ne 5, 53, 0, 0, 0)]
  | 51 => [(.iconst (-1), 0, 0, 0, (-1)), (.ireturn, 0, 0, 0, 0)]
  | 53 => [(.aload_n 0, 0, 0, 0, 0), (.invokevirtual 283, 204, 0, 12, 0), (.iconst 0, 0, 0, 0, 0), (.istore 6, 0, 0, 0, 0), (.iconst 0, 0, 0, 0, 0), (.istore 7, 0, 0, 0, 0)]
  | 63 => [(.iload 7, 0, 0, 0, 0), (.aload_n 0, 0, 0, 0, 0), (.invokevirtual 102, 152, 0, 12, 0), (.if_icmp .ge 111, 180, 0, 0, 0), (.aload_n 0, 0, 0, 0, 0), (.iload 7, 0, 0, 0, 0), (.iconst 0, 0, 0, 0, 0), (.invokevirtual 113, 155, 2, 12, 0), (.iload_n 3, 0, 0, 0, 0), (.if_icmp .gt 57, 137, 0, 0, 0), (.aload_n 0, 0, 0, 0, 0), (.iload 7, 0, 0, 0, 0), (.iconst 0, 0, 0, 0, 0), (.invokevirtual 113, 155, 2, 12, 0), (.aload_n 0, 0, 0, 0, 0), (.iload 7, 0, 0, 0, 0), (.iconst 2, 0, 0, 0, 2), (.invokevirtual 113, 155, 2, 12, 0), (.iadd, 0, 0, 0, 0), (.iload_n 1, 0, 0, 0, 0), (.if_icmp .le 38, 137, 0, 0, 0), (.aload_n 0, 0, 0, 0, 0), (.iload 7, 0, 0, 0, 0), (.iconst 1, 0, 0, 0, 1), (.invokevirtual 113, 155, 2, 12, 0), (.iload 4, 0, 0, 0, 0), (.if_icmp .gt 26, 137, 0, 0, 0), (.aload_n 0, 0, 0, 0, 0), (.iload 7, 0, 0, 0, 0), (.iconst 1, 0, 0, 0, 1), (.invokevirtual 113, 155, 2, 12, 0), (.aload_n 0, 0, 0, 0, 0), (.iload 7, 0, 0, 0, 0), (.iconst 3, 0, 0, 0, 3), (.invokevirtual 113, 155, 2, 12, 0), (.iadd, 0, 0, 0, 0), (.iload_n 2, 0, 0, 0, 0), (.if_icmp .le 7, 137, 0, 0, 0), (.iconst 1, 0, 0, 0, 1), (.goto 4, 138, 0, 0, 0)]
  | 137 => [(.iconst 0, 0, 0, 0, 0)]
  | 138 => [(.istore 8, 0, 0, 0, 0), (.iload 6, 0, 0, 0, 0), (.iload 8, 0, 0, 0, 0), (.ifCond .eq 26, 170, 0, 0, 0), (.aload_n 0, 0, 0, 0, 0), (.getfield 20, 12, 3, 0, 0), (.sipush 159, 0, 0, 0, 159), (.iaload, 0, 0, 0, 0), (.iload 7, 0, 0, 0, 0), (.invokestatic 274, 147, 2, 0, 0), (.ifCond .eq 10, 170, 0, 0, 0), (.iconst 1, 0, 0, 0, 1), (.iload 7, 0, 0, 0, 0), (.ishl, 0, 0, 0, 0), (.goto 4, 171, 0, 0, 0)]
  | 170 => [(.iconst 0, 0, 0, 0, 0)]
  | 171 => [(.ior, 0, 0, 0, 0), (.istore 6, 0, 0, 0, 0), (.iinc 7 1, 0, 0, 0, 1), (.goto (-114), 63, 0, 0, 0)]
  | 180 => [(.aload_n 0, 0, 0, 0, 0), (.aload_n 0, 0, 0, 0, 0), (.getfield 20, 12, 3, 0, 0), (.sipush 159, 0, 0, 0, 159), (.iaload, 0, 0, 0, 0), (.iload 6, 0, 0, 0, 0), (.iconst (-1), 0, 0, 0, (-1)), (.ixor, 0, 0, 0, 0), (.iand, 0, 0, 0, 0), (.invokevirtual 292, 207, 1, 12, 0), (.istore 7, 0, 0, 0, 0), (.iload 5, 0, 0, 0, 0), (.ifCond .ne 23, 224, 0, 0, 0), (.aload_n 0, 0, 0, 0, 0), (.getfield 20, 12, 3, 0, 0), (.sipush 159, 0, 0, 0, 159), (.iaload, 0, 0, 0, 0), (.invokestatic 271, 148, 1, 0, 0), (.iload 7, 0, 0, 0, 0), (.invokestatic 271, 148, 1, 0, 0), (.isub, 0, 0, 0, 0), (.goto 19, 240, 0, 0, 0)]
  | 224 => [(.iload 5, 0, 0, 0, 0), (.iconst 1, 0, 0, 0, 1), (.if_icmp .ne 11, 238, 0, 0, 0), (.iload 6, 0, 0, 0, 0), (.invokestatic 271, 148, 1, 0, 0), (.goto 5, 240, 0, 0, 0)]
  | 238 => [(.iload 7, 0, 0, 0, 0)]
  | 240 => [(.ireturn, 0, 0, 0, 0)]
  | _ => []
theorem kX12_gate (pc : Nat) : chk 227 (bX12_gate pc) pc = true := by
  unfold bX12_gate; split
  · decide +kernel
  · decide +kernel
  · decide +kernel
  · decide +kernel
  · decide +kernel
  · decide +kernel
  · decide +kernel
  · decide +kernel
  · decide +kernel
  · decide +kernel
  · decide +kernel
  · decide +kernel
  · rfl
def bX12_mend : Nat → List Ins := fun pc => match pc with
  | 0 => [(.iload_n 1, 0, 0, 0, 0), (.iconst 0, 0, 0, 0, 0), (.iconst 2, 0, 0, 0, 2), (.invokestatic 91, 144, 3, 0, 0), (.ifCond .ne 5, 11, 0, 0, 0), (.iconst (-1), 0, 0, 0, (-1)), (.ireturn, 0, 0, 0, 0)]
  | 11 => [(.aload_n 0, 0, 0, 0, 0), (.invokevirtual 283, 204, 0, 12, 0), (.iconst (-1), 0, 0, 0, (-1)), (.istore_n 2, 0, 0, 0, 0), (.iconst 0, 0, 0, 0, 0), (.istore_n 3, 0, 0, 0, 0), (.iconst 0, 0, 0, 0, 0), (.istore 4, 0, 0, 0, 0)]
  | 22 => [(.iload 4, 0, 0, 0, 0), (.iconst 1, 0, 0, 0, 1), (.aload_n 0, 0, 0, 0, 0), (.invokevirtual 110, 153, 0, 12, 0), (.ishl, 0, 0, 0, 0), (.if_icmp .ge 84, 114, 0, 0, 0), (.aload_n 0, 0, 0, 0, 0), (.getfield 20, 12, 3, 0, 0), (.sipush 159, 0, 0, 0, 159), (.iaload, 0, 0, 0, 0), (.iload 4, 0, 0, 0, 0), (.bipush 14, 0, 0, 0, 14), (.ishl, 0, 0, 0, 0), (.ior, 0, 0, 0, 0), (.istore 5, 0, 0, 0, 0), (.iload 5, 0, 0, 0, 0), (.ifCond .eq 57, 108, 0, 0, 0), (.aload_n 0, 0, 0, 0, 0), (.iload 5, 0, 0, 0, 0), (.invokevirtual 280, 206, 1, 12, 0), (.ifCond .ne 48, 108, 0, 0, 0), (.iload_n 2, 0, 0, 0, 0), (.iconst (-1), 0, 0, 0, (-1)), (.if_icmp .eq 18, 83, 0, 0, 0), (.iload 4, 0, 0, 0, 0), (.invokestatic 271, 148, 1, 0, 0), (.iload_n 2, 0, 0, 0, 0), (.invokestatic 271, 148, 1, 0, 0), (.if_icmp .le 6, 83, 0, 0, 0), (.goto 28, 108, 0, 0, 0)]
  | 83 => [(.iload_n 2, 0, 0, 0, 0), (.iconst (-1), 0, 0, 0, (-1)), (.if_icmp .eq 15, 100, 0, 0, 0), (.iload 4, 0, 0, 0, 0), (.invokestatic 271, 148, 1, 0, 0), (.iload_n 2, 0, 0, 0, 0), (.invokestatic 271, 148, 1, 0, 0), (.if_icmp .ge 8, 105, 0, 0, 0)]
  | 100 => [(.iload 4, 0, 0, 0, 0), (.istore_n 2, 0, 0, 0, 0), (.iconst 0, 0, 0, 0, 0), (.istore_n 3, 0, 0, 0, 0)]
  | 105 => [(.iinc 3 1, 0, 0, 0, 1)]
  | 108 => [(.iinc 4 1, 0, 0, 0, 1), (.goto (-89), 22, 0, 0, 0)]
  | 114 => [(.iload_n 1, 0, 0, 0, 0), (.iconst 2, 0, 0, 0, 2), (.if_icmp .ne 7, 123, 0, 0, 0), (.iload_n 3, 0, 0, 0, 0), (.goto 21, 141, 0, 0, 0)]
  | 123 => [(.iload_n 2, 0, 0, 0, 0), (.iconst (-1), 0, 0, 0, (-1)), (.if_icmp .eq 8, 133, 0, 0, 0), (.iload_n 1, 0, 0, 0, 0), (.iconst 1, 0, 0, 0, 1), (.if_icmp .ne 7, 137, 0, 0, 0)]
  | 133 => [(.iload_n 2, 0, 0, 0, 0), (.goto 7, 141, 0, 0, 0)]
  | 137 => [(.iload_n 2, 0, 0, 0, 0), (.invokestatic 271, 148, 1, 0, 0)]
  | 141 => [(.ireturn, 0, 0, 0, 0)]
  | _ => []
theorem kX12_mend (pc : Nat) : chk 228 (bX12_mend pc) pc = true := by
  unfold bX12_mend; split
  · decide +kernel
  · decide +kernel
  · decide +kernel
  · decide +kernel
  · decide +kernel
  · decide +kernel
  · decide +kernel
  · decide +kernel
  · decide +kernel
  · decide +kernel
  · decide +kernel
  · decide +kernel
  · rfl
def bX12_game : Nat → List Ins := fun pc => match pc with
  | 0 => [(.iload_n 1, 0, 0, 0, 0), (.iconst 0, 0, 0, 0, 0), (.iconst 2, 0, 0, 0, 2), (.invokestatic 91, 144, 3, 0, 0), (.ifCond .ne 5, 11, 0, 0, 0), (.iconst (-1), 0, 0, 0, (-1)), (.ireturn, 0, 0, 0, 0)]
  | 11 => [(.aload_n 0, 0, 0, 0, 0), (.invokevirtual 295, 219, 0, 12, 0), (.aload_n 0, 0, 0, 0, 0), (.getfield 20, 12, 3, 0, 0), (.sipush 159, 0, 0, 0, 159), (.iaload, 0, 0, 0, 0), (.istore_n 2, 0, 0, 0, 0), (.iconst 0, 0, 0, 0, 0), (.istore_n 3, 0, 0, 0, 0), (.iconst (-1), 0, 0, 0, (-1)), (.istore 4, 0, 0, 0, 0), (.aload_n 0, 0, 0, 0, 0), (.invokevirtual 102, 152, 0, 12, 0), (.iconst 1, 0, 0, 0, 1), (.isub, 0, 0, 0, 0), (.istore 5, 0, 0, 0, 0)]
  | 37 => [(.iload 5, 0, 0, 0, 0), (.ifCond .lt 65, 104, 0, 0, 0), (.iload_n 2, 0, 0, 0, 0), (.iload 5, 0, 0, 0, 0), (.invokestatic 274, 147, 2, 0, 0), (.ifCond .eq 50, 98, 0, 0, 0), (.aload_n 0, 0, 0, 0, 0), (.getfield 70, 12, 28, 0, 0), (.iload_n 2, 0, 0, 0, 0), (.iconst 1, 0, 0, 0, 1), (.iload 5, 0, 0, 0, 0), (.ishl, 0, 0, 0, 0), (.iconst (-1), 0, 0, 0, (-1)), (.ixor, 0, 0, 0, 0), (.iand, 0, 0, 0, 0), (.baload, 0, 0, 0, 0), (.ifCond .ne 6, 70, 0, 0, 0), (.goto 31, 98, 0, 0, 0)]
  | 70 => [(.iinc 3 1, 0, 0, 0, 1), (.aload_n 0, 0, 0, 0, 0), (.getfield 76, 12, 30, 0, 0), (.iload_n 2, 0, 0, 0, 0), (.iconst 1, 0, 0, 0, 1), (.iload 5, 0, 0, 0, 0), (.ishl, 0, 0, 0, 0), (.iconst (-1), 0, 0, 0, (-1)), (.ixor, 0, 0, 0, 0), (.iand, 0, 0, 0, 0), (.baload, 0, 0, 0, 0), (.ifCond .eq 8, 94, 0, 0, 0), (.iload 4, 0, 0, 0, 0), (.goto 5, 96, 0, 0, 0)]
  | 94 => [(.iload 5, 0, 0, 0, 0)]
  | 96 => [(.istore 4, 0, 0, 0, 0)]
  | 98 => [(.iinc 5 (-1), 0, 0, 0, (-1)), (.goto (-64), 37, 0, 0, 0)]
  | 104 => [(.iload_n 1, 0, 0, 0, 0), (.ifCond .ne 20, 125, 0, 0, 0), (.aload_n 0, 0, 0, 0, 0), (.getfield 76, 12, 30, 0, 0), (.iload_n 2, 0, 0, 0, 0), (.baload, 0, 0, 0, 0), (.ifCond .eq 7, 121, 0, 0, 0), (.iconst 1, 0, 0, 0, 1), (.goto 18, 136, 0, 0, 0)]
  | 121 => [(.iconst 0, 0, 0, 0, 0), (.goto 14, 136, 0, 0, 0)]
  | 125 => [(.iload_n 1, 0, 0, 0, 0), (.iconst 1, 0, 0, 0, 1), (.if_icmp .ne 8, 135, 0, 0, 0), (.iload 4, 0, 0, 0, 0), (.goto 4, 136, 0, 0, 0)]
  | 135 => [(.iload_n 3, 0, 0, 0, 0)]
  | 136 => [(.ireturn, 0, 0, 0, 0)]
  | _ => []
theorem kX12_game (pc : Nat) : chk 229 (bX12_game pc) pc = true := by
  unfold bX12_game; split
  · decide +kernel
  · decide +kernel
  · decide +kernel
  · decide +kernel
  · decide +kernel
  · decide +kernel
  · decide +kernel
  · decide +kernel
  · decide +kernel
  · decide +kernel
  · decide +kernel
  · decide +kernel
  · rfl
def bX12_night : Nat → List Ins := fun pc => match pc with
  | 0 => [(.aload_n 0, 0, 0, 0, 0), (.iload_n 1, 0, 0, 0, 0), (.invokevirtual 286, 213, 1, 12, 0), (.ifCond .eq 12, 17, 0, 0, 0), (.iload_n 2, 0, 0, 0, 0), (.iconst 0, 0, 0, 0, 0), (.iconst 3, 0, 0, 0, 3), (.invokestatic 91, 144, 3, 0, 0), (.ifCond .ne 5, 19, 0, 0, 0)]
  | 17 => [(.iconst (-1), 0, 0, 0, (-1)), (.ireturn, 0, 0, 0, 0)]
  | 19 => [(.aload_n 0, 0, 0, 0, 0), (.invokevirtual 295, 219, 0, 12, 0), (.aload_n 0, 0, 0, 0, 0), (.getfield 20, 12, 3, 0, 0), (.sipush 159, 0, 0, 0, 159), (.iaload, 0, 0, 0, 0), (.istore_n 3, 0, 0, 0, 0), (.iconst 0, 0, 0, 0, 0), (.istore 4, 0, 0, 0, 0), (.iconst (-1), 0, 0, 0, (-1)), (.istore 5, 0, 0, 0, 0), (.iconst 0, 0, 0, 0, 0), (.istore 6, 0, 0, 0, 0), (.iconst (-1), 0, 0, 0, (-1)), (.istore 7, 0, 0, 0, 0), (.iconst 0, 0, 0, 0, 0), (.istore 8, 0, 0, 0, 0)]
  | 47 => [(.iload 8, 0, 0, 0, 0), (.aload_n 0, 0, 0, 0, 0), (.invokevirtual 102, 152, 0, 12, 0), (.if_icmp .ge 133, 186, 0, 0, 0), (.iload_n 3, 0, 0, 0, 0), (.iload 8, 0, 0, 0, 0), (.invokestatic 274, 147, 2, 0, 0), (.ifCond .ne 6, 68, 0, 0, 0), (.goto 115, 180, 0, 0, 0)]
  | 68 => [(.aload_n 0, 0, 0, 0, 0), (.getfield 73, 12, 29, 0, 0), (.iload_n 3, 0, 0, 0, 0), (.iconst 1, 0, 0, 0, 1), (.iload 8, 0, 0, 0, 0), (.ishl, 0, 0, 0, 0), (.iconst (-1), 0, 0, 0, (-1)), (.ixor, 0, 0, 0, 0), (.iand, 0, 0, 0, 0), (.iaload, 0, 0, 0, 0), (.iload_n 1, 0, 0, 0, 0), (.if_icmp .ne 21, 103, 0, 0, 0), (.iinc 4 1, 0, 0, 0, 1), (.iload 5, 0, 0, 0, 0), (.iconst (-1), 0, 0, 0, (-1)), (.if_icmp .ne 8, 99, 0, 0, 0), (.iload 8, 0, 0, 0, 0), (.goto 5, 101, 0, 0, 0)]
  | 99 => [(.iload 5, 0, 0, 0, 0)]
  | 101 => [(.istore 5, 0, 0, 0, 0)]
  | 103 => [(.iload 8, 0, 0, 0, 0), (.iconst 1, 0, 0, 0, 1), (.iadd, 0, 0, 0, 0), (.istore 9, 0, 0, 0, 0)]
  | 109 => [(.iload 9, 0, 0, 0, 0), (.aload_n 0, 0, 0, 0, 0), (.invokevirtual 102, 152, 0, 12, 0), (.if_icmp .ge 65, 180, 0, 0, 0), (.iconst 1, 0, 0, 0, 1), (.iload 8, 0, 0, 0, 0), (.ishl, 0, 0, 0, 0), (.iconst 1, 0, 0, 0, 1), (.iload 9, 0, 0, 0, 0), (.ishl, 0, 0, 0, 0), (.ior, 0, 0, 0, 0), (.istore 10, 0, 0, 0, 0), (.iload_n 3, 0, 0, 0, 0), (.iload 9, 0, 0, 0, 0), (.invokestatic 274, 147, 2, 0, 0), (.ifCond .eq 39, 174, 0, 0, 0), (.aload_n 0, 0, 0, 0, 0), (.getfield 73, 12, 29, 0, 0), (.iload_n 3, 0, 0, 0, 0), (.iload 10, 0, 0, 0, 0), (.iconst (-1), 0, 0, 0, (-1)), (.ixor, 0, 0, 0, 0), (.iand, 0, 0, 0, 0), (.iaload, 0, 0, 0, 0), (.iload_n 1, 0, 0, 0, 0), (.if_icmp .eq 6, 156, 0, 0, 0), (.goto 21, 174, 0, 0, 0)]
  | 156 => [(.iinc 6 1, 0, 0, 0, 1), (.iload 7, 0, 0, 0, 0), (.iconst (-1), 0, 0, 0, (-1)), (.if_icmp .ne 8, 170, 0, 0, 0), (.iload 10, 0, 0, 0, 0), (.goto 5, 172, 0, 0, 0)]
  | 170 => [(.iload 7, 0, 0, 0, 0)]
  | 172 => [(.istore 7, 0, 0, 0, 0)]
  | 174 => [(.iinc 9 1, 0, 0, 0, 1), (.goto (-68), 109, 0, 0, 0)]
  | 180 => [(.iinc 8 1, 0, 0, 0, 1), (.goto (-136), 47, 0, 0, 0)]
  | 186 => [(.iload_n 2, 0, 0, 0, 0), (.ifCond .ne 8, 195, 0, 0, 0), (.iload 4, 0, 0, 0, 0), (.goto 25, 217, 0, 0, 0)]
  | 195 => [(.iload_n 2, 0, 0, 0, 0), (.iconst 1, 0, 0, 0, 1), (.if_icmp .ne 8, 205, 0, 0, 0), (.iload 5, 0, 0, 0, 0), (.goto 15, 217, 0, 0, 0)]
  | 205 => [(.iload_n 2, 0, 0, 0, 0), (.iconst 2, 0, 0, 0, 2), (.if_icmp .ne 8, 215, 0, 0, 0), (.iload 6, 0, 0, 0, 0), (.goto 5, 217, 0, 0, 0)]
  | 215 => [(.iload 7, 0, 0, 0, 0)]
  | 217 => [(.ireturn, 0, 0, 0, 0)]
  | _ => []
theorem kX12_night (pc : Nat) : chk 230 (bX12_night pc) pc = true := by
  unfold bX12_night; split
  · decide +kernel
  · decide +kernel
  · decide +kernel
  · decide +kernel
  · decide +kernel
  · decide +kernel
  · decide +kernel
  · decide +kernel
  · decide +kernel
  · decide +kernel
  · decide +kernel
  · decide +kernel
  · decide +kernel
  · decide +kernel
  · decide +kernel
  · decide +kernel
  · decide +kernel
  · decide +kernel
  · decide +kernel
  · rfl
def bX12_draws : Nat → List Ins := fun pc => match pc with
  | 0 => [(.aload_n 0, 0, 0, 0, 0), (.ldc2_w 314, 1103, 0, 0, 0), (.aload_n 0, 0, 0, 0, 0), (.getfield 316, 12, 38, 0, 0), (.i2l, 0, 0, 0, 0), (.lmul, 0, 0, 0, 0), (.ldc2_w 319, 12345, 0, 0, 0), (.ladd, 0, 0, 0, 0), (.ldc2_w 321, 1000003, 0, 0, 0), (.lrem, 0, 0, 0, 0), (.l2i, 0, 0, 0, 0), (.putfield 316, 12, 38, 0, 0), (.aload_n 0, 0, 0, 0, 0), (.getfield 316, 12, 38, 0, 0), (.iload_n 1, 0, 0, 0, 0), (.irem, 0, 0, 0, 0), (.ireturn, 0, 0, 0, 0)]
  | _ => []
theorem kX12_draws (pc : Nat) : chk 231 (bX12_draws pc) pc = true := by
  unfold bX12_draws; split
  · decide +kernel
  · rfl
def bX12_winters : Nat → List Ins := fun pc => match pc with
  | 0 => [(.iload_n 1, 0, 0, 0, 0), (.iconst 0, 0, 0, 0, 0), (.ldc 157, 0, 0, 0, 1000000), (.invokestatic 91, 144, 3, 0, 0), (.ifCond .eq 13, 20, 0, 0, 0), (.iload_n 2, 0, 0, 0, 0), (.iconst 1, 0, 0, 0, 1), (.bipush 40, 0, 0, 0, 40), (.invokestatic 91, 144, 3, 0, 0), (.ifCond .ne 9, 26, 0, 0, 0)]
  | 20 => [(.aload_n 0, 0, 0, 0, 0), (.iconst (-1), 0, 0, 0, (-1)), (.invokevirtual 95, 145, 1, 12, 0), (.ireturn, 0, 0, 0, 0)]
  | 26 => [(.aload_n 0, 0, 0, 0, 0), (.invokevirtual 283, 204, 0, 12, 0), (.aload_n 0, 0, 0, 0, 0), (.iload_n 1, 0, 0, 0, 0), (.putfield 316, 12, 38, 0, 0), (.aload_n 0, 0, 0, 0, 0), (.iload_n 2, 0, 0, 0, 0), (.putfield 323, 12, 37, 0, 0), (.aload_n 0, 0, 0, 0, 0), (.getfield 20, 12, 3, 0, 0), (.sipush 159, 0, 0, 0, 159), (.iaload, 0, 0, 0, 0), (.istore_n 3, 0, 0, 0, 0), (.iconst 0, 0, 0, 0, 0), (.istore 4, 0, 0, 0, 0)]
  | 52 => [(.iload 4, 0, 0, 0, 0), (.iload_n 2, 0, 0, 0, 0), (.if_icmp .ge 170, 225, 0, 0, 0), (.iconst 0, 0, 0, 0, 0), (.istore 5, 0, 0, 0, 0), (.iconst 0, 0, 0, 0, 0), (.istore 6, 0, 0, 0, 0)]
  | 64 => [(.iload 6, 0, 0, 0, 0), (.aload_n 0, 0, 0, 0, 0), (.invokevirtual 102, 152, 0, 12, 0), (.if_icmp .ge 44, 114, 0, 0, 0), (.iload_n 3, 0, 0, 0, 0), (.iload 6, 0, 0, 0, 0), (.invokestatic 274, 147, 2, 0, 0), (.ifCond .eq 29, 108, 0, 0, 0), (.aload_n 0, 0, 0, 0, 0), (.bipush 100, 0, 0, 0, 100), (.invokevirtual 326, 231, 1, 12, 0), (.aload_n 0, 0, 0, 0, 0), (.iload 6, 0, 0, 0, 0), (.bipush 6, 0, 0, 0, 6), (.invokevirtual 113, 155, 2, 12, 0), (.if_icmp .ge 12, 108, 0, 0, 0), (.iload 5, 0, 0, 0, 0), (.iconst 1, 0, 0, 0, 1), (.iload 6, 0, 0, 0, 0), (.ishl, 0, 0, 0, 0), (.ior, 0, 0, 0, 0), (.istore 5, 0, 0, 0, 0)]
  | 108 => [(.iinc 6 1, 0, 0, 0, 1), (.goto (-47), 64, 0, 0, 0)]
  | 114 => [(.aload_n 0, 0, 0, 0, 0), (.iload_n 3, 0, 0, 0, 0), (.iload 5, 0, 0, 0, 0), (.iconst (-1), 0, 0, 0, (-1)), (.ixor, 0, 0, 0, 0), (.iand, 0, 0, 0, 0), (.invokevirtual 292, 207, 1, 12, 0), (.istore_n 3, 0, 0, 0, 0), (.iconst (-1), 0, 0, 0, (-1)), (.istore 6, 0, 0, 0, 0), (.iconst 0, 0, 0, 0, 0), (.istore 7, 0, 0, 0, 0)]
  | 131 => [(.iload 7, 0, 0, 0, 0), (.aload_n 0, 0, 0, 0, 0), (.invokevirtual 102, 152, 0, 12, 0), (.if_icmp .ge 57, 194, 0, 0, 0), (.iload_n 3, 0, 0, 0, 0), (.iload 7, 0, 0, 0, 0), (.invokestatic 274, 147, 2, 0, 0), (.ifCond .ne 42, 188, 0, 0, 0), (.iload 6, 0, 0, 0, 0), (.iconst (-1), 0, 0, 0, (-1)), (.if_icmp .eq 32, 184, 0, 0, 0), (.aload_n 0, 0, 0, 0, 0), (.iload_n 3, 0, 0, 0, 0), (.iconst 1, 0, 0, 0, 1), (.iload 7, 0, 0, 0, 0), (.ishl, 0, 0, 0, 0), (.ior, 0, 0, 0, 0), (.invokevirtual 280, 206, 1, 12, 0), (.invokestatic 271, 148, 1, 0, 0), (.aload_n 0, 0, 0, 0, 0), (.iload_n 3, 0, 0, 0, 0), (.iconst 1, 0, 0, 0, 1), (.iload 6, 0, 0, 0, 0), (.ishl, 0, 0, 0, 0), (.ior, 0, 0, 0, 0), (.invokevirtual 280, 206, 1, 12, 0), (.invokestatic 271, 148, 1, 0, 0), (.if_icmp .ge 7, 188, 0, 0, 0)]
  | 184 => [(.iload 7, 0, 0, 0, 0), (.istore 6, 0, 0, 0, 0)]
  | 188 => [(.iinc 7 1, 0, 0, 0, 1), (.goto (-60), 131, 0, 0, 0)]
  | 194 => [(.iload_n 3, 0, 0, 0, 0), (.iload 6, 0, 0, 0, 0), (.iconst (-1), 0, 0, 0, (-1)), (.if_icmp .ne 7, 205, 0, 0, 0), (.iconst 0, 0, 0, 0, 0), (.goto 7, 209, 0, 0, 0)]
  | 205 => [(.iconst 1, 0, 0, 0, 1), (.iload 6, 0, 0, 0, 0), (.ishl, 0, 0, 0, 0)]
  | 209 => [(.ior, 0, 0, 0, 0), (.istore_n 3, 0, 0, 0, 0), (.aload_n 0, 0, 0, 0, 0), (.getfield 88, 12, 36, 0, 0), (.iload 4, 0, 0, 0, 0), (.iload_n 3, 0, 0, 0, 0), (.iastore, 0, 0, 0, 0), (.iinc 4 1, 0, 0, 0, 1), (.goto (-170), 52, 0, 0, 0)]
  | 225 => [(.aload_n 0, 0, 0, 0, 0), (.iload_n 3, 0, 0, 0, 0), (.invokestatic 271, 148, 1, 0, 0), (.invokevirtual 99, 146, 1, 12, 0), (.ireturn, 0, 0, 0, 0)]
  | _ => []
theorem kX12_winters (pc : Nat) : chk 232 (bX12_winters pc) pc = true := by
  unfold bX12_winters; split
  · decide +kernel
  · decide +kernel
  · decide +kernel
  · decide +kernel
  · decide +kernel
  · decide +kernel
  · decide +kernel
  · decide +kernel
  · decide +kernel
  · decide +kernel
  · decide +kernel
  · decide +kernel
  · decide +kernel
  · decide +kernel
  · rfl
def bX12_winter : Nat → List Ins := fun pc => match pc with
  | 0 => [(.iload_n 1, 0, 0, 0, 0), (.iconst 0, 0, 0, 0, 0), (.aload_n 0, 0, 0, 0, 0), (.getfield 323, 12, 37, 0, 0), (.iconst 1, 0, 0, 0, 1), (.isub, 0, 0, 0, 0), (.invokestatic 91, 144, 3, 0, 0), (.ifCond .eq 12, 23, 0, 0, 0), (.aload_n 0, 0, 0, 0, 0), (.getfield 88, 12, 36, 0, 0), (.iload_n 1, 0, 0, 0, 0), (.iaload, 0, 0, 0, 0), (.goto 4, 24, 0, 0, 0)]
  | 23 => [(.iconst (-1), 0, 0, 0, (-1))]
  | 24 => [(.ireturn, 0, 0, 0, 0)]
  | _ => []
theorem kX12_winter (pc : Nat) : chk 233 (bX12_winter pc) pc = true := by
  unfold bX12_winter; split
  · decide +kernel
  · decide +kernel
  · decide +kernel
  · rfl
def bX12_count : Nat → List Ins := fun pc => match pc with
  | 0 => [(.iload_n 1, 0, 0, 0, 0), (.tableswitch 154 0 13 #[71, 76, 88, 93, 102, 107, 107, 107, 116, 123, 131, 140, 140, 140], 155, 0, 0, 0)]
  | 72 => [(.aload_n 0, 0, 0, 0, 0), (.invokevirtual 102, 152, 0, 12, 0), (.ireturn, 0, 0, 0, 0)]
  | 77 => [(.aload_n 0, 0, 0, 0, 0), (.getfield 20, 12, 3, 0, 0), (.sipush 159, 0, 0, 0, 159), (.iaload, 0, 0, 0, 0), (.invokestatic 271, 148, 1, 0, 0), (.ireturn, 0, 0, 0, 0)]
  | 89 => [(.aload_n 0, 0, 0, 0, 0), (.invokevirtual 110, 153, 0, 12, 0), (.ireturn, 0, 0, 0, 0)]
  | 94 => [(.aload_n 0, 0, 0, 0, 0), (.getfield 20, 12, 3, 0, 0), (.sipush 160, 0, 0, 0, 160), (.iaload, 0, 0, 0, 0), (.ireturn, 0, 0, 0, 0)]
  | 103 => [(.aload_n 0, 0, 0, 0, 0), (.getfield 139, 12, 10, 0, 0), (.ireturn, 0, 0, 0, 0)]
  | 108 => [(.aload_n 0, 0, 0, 0, 0), (.getfield 7, 12, 2, 0, 0), (.iload_n 1, 0, 0, 0, 0), (.iconst 4, 0, 0, 0, 4), (.isub, 0, 0, 0, 0), (.iaload, 0, 0, 0, 0), (.ireturn, 0, 0, 0, 0)]
  | 117 => [(.aload_n 0, 0, 0, 0, 0), (.getfield 7, 12, 2, 0, 0), (.iconst 5, 0, 0, 0, 5), (.iaload, 0, 0, 0, 0), (.ireturn, 0, 0, 0, 0)]
  | 124 => [(.aload_n 0, 0, 0, 0, 0), (.getfield 7, 12, 2, 0, 0), (.bipush 6, 0, 0, 0, 6), (.iaload, 0, 0, 0, 0), (.ireturn, 0, 0, 0, 0)]
  | 132 => [(.aload_n 0, 0, 0, 0, 0), (.getfield 20, 12, 3, 0, 0), (.sipush 161, 0, 0, 0, 161), (.iaload, 0, 0, 0, 0), (.ireturn, 0, 0, 0, 0)]
  | 141 => [(.aload_n 0, 0, 0, 0, 0), (.getfield 20, 12, 3, 0, 0), (.sipush 154, 0, 0, 0, 154), (.iload_n 1, 0, 0, 0, 0), (.iadd, 0, 0, 0, 0), (.bipush 11, 0, 0, 0, 11), (.isub, 0, 0, 0, 0), (.iaload, 0, 0, 0, 0), (.ireturn, 0, 0, 0, 0)]
  | 155 => [(.iconst (-1), 0, 0, 0, (-1)), (.ireturn, 0, 0, 0, 0)]
  | _ => []
theorem kX12_count (pc : Nat) : chk 234 (bX12_count pc) pc = true := by
  unfold bX12_count; split
  · decide +kernel
  · decide +kernel
  · decide +kernel
  · decide +kernel
  · decide +kernel
  · decide +kernel
  · decide +kernel
  · decide +kernel
  · decide +kernel
  · decide +kernel
  · decide +kernel
  · decide +kernel
  · rfl
def bX12_status : Nat → List Ins := fun pc => match pc with
  | 0 => [(.aload_n 0, 0, 0, 0, 0), (.getfield 3, 12, 0, 0, 0), (.ireturn, 0, 0, 0, 0)]
  | _ => []
theorem kX12_status (pc : Nat) : chk 235 (bX12_status pc) pc = true := by
  unfold bX12_status; split
  · decide +kernel
  · rfl
