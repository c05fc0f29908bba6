/-! the code of the methods, as lists (wip/gen/code.py) -/
def bX0_need : Nat → List Ins := fun pc => match pc with
  | 0 => [(.iload 4, 0, 0, 0, 0), (.istore 5, 0, 0, 0, 0), (.iconst 0, 0, 0, 0, 0), (.istore 6, 0, 0, 0, 0)]
  | 7 => [(.iload 6, 0, 0, 0, 0), (.aload_n 1, 0, 0, 0, 0), (.getfield 15, 3, 2, 0, 0), (.if_icmp .ge 76, 89, 0, 0, 0), (.aload_n 1, 0, 0, 0, 0), (.iconst 2, 0, 0, 0, 2), (.iload 6, 0, 0, 0, 0), (.imul, 0, 0, 0, 0), (.invokevirtual 21, 30, 1, 3, 0), (.ifCond .ne 59, 83, 0, 0, 0), (.aload_n 0, 0, 0, 0, 0), (.aload_n 1, 0, 0, 0, 0), (.iconst 2, 0, 0, 0, 2), (.iload 6, 0, 0, 0, 0), (.imul, 0, 0, 0, 0), (.iconst 1, 0, 0, 0, 1), (.iadd, 0, 0, 0, 0), (.aload_n 2, 0, 0, 0, 0), (.iload_n 3, 0, 0, 0, 0), (.invokevirtual 25, 3, 4, 0, 0), (.ifCond .eq 43, 83, 0, 0, 0), (.aload_n 0, 0, 0, 0, 0), (.aload_n 1, 0, 0, 0, 0), (.iconst 2, 0, 0, 0, 2), (.iload 6, 0, 0, 0, 0), (.imul, 0, 0, 0, 0), (.aload_n 2, 0, 0, 0, 0), (.iload_n 3, 0, 0, 0, 0), (.invokevirtual 29, 4, 4, 0, 0), (.lstore 7, 0, 0, 0, 0), (.aload_n 0, 0, 0, 0, 0), (.getfield 33, 0, 2, 0, 0), (.ifCond .eq 8, 68, 0, 0, 0), (.iload 5, 0, 0, 0, 0), (.goto 16, 81, 0, 0, 0)]
  | 68 => [(.lconst 0, 0, 0, 0, 0), (.ldc2_w 37, 12, 0, 0, 0), (.lload 7, 0, 0, 0, 0), (.invokestatic 39, 240, 2, 1, 0), (.invokestatic 45, 238, 2, 1, 0), (.l2i, 0, 0, 0, 0)]
  | 81 => [(.istore 5, 0, 0, 0, 0)]
  | 83 => [(.iinc 6 1, 0, 0, 0, 1), (.goto (-79), 7, 0, 0, 0)]
  | 89 => [(.iload 5, 0, 0, 0, 0), (.ireturn, 0, 0, 0, 0)]
  | _ => []
theorem kX0_need (pc : Nat) : chk 1 (bX0_need pc) pc = true := by
  unfold bX0_need; split
  · decide +kernel
  · decide +kernel
  · decide +kernel
  · decide +kernel
  · decide +kernel
  · decide +kernel
  · rfl
def bX0_isBound : Nat → List Ins := fun pc => match pc with
  | 0 => [(.iconst 0, 0, 0, 0, 0), (.istore 4, 0, 0, 0, 0)]
  | 3 => [(.iload 4, 0, 0, 0, 0), (.aload_n 1, 0, 0, 0, 0), (.getfield 15, 3, 2, 0, 0), (.if_icmp .ge 38, 47, 0, 0, 0), (.aload_n 1, 0, 0, 0, 0), (.iconst 2, 0, 0, 0, 2), (.iload 4, 0, 0, 0, 0), (.imul, 0, 0, 0, 0), (.invokevirtual 21, 30, 1, 3, 0), (.ifCond .eq 21, 41, 0, 0, 0), (.aload_n 0, 0, 0, 0, 0), (.aload_n 1, 0, 0, 0, 0), (.iconst 2, 0, 0, 0, 2), (.iload 4, 0, 0, 0, 0), (.imul, 0, 0, 0, 0), (.iconst 1, 0, 0, 0, 1), (.iadd, 0, 0, 0, 0), (.aload_n 2, 0, 0, 0, 0), (.iload_n 3, 0, 0, 0, 0), (.invokevirtual 25, 3, 4, 0, 0), (.ifCond .eq 5, 41, 0, 0, 0), (.iconst 1, 0, 0, 0, 1), (.ireturn, 1, 0, 0, 0)]
  | 41 => [(.iinc 4 1, 0, 0, 0, 1), (.goto (-41), 3, 0, 0, 0)]
  | 47 => [(.iconst 0, 0, 0, 0, 0), (.ireturn, 1, 0, 0, 0)]
  | _ => []
theorem kX0_isBound (pc : Nat) : chk 2 (bX0_isBound pc) pc = true := by
  unfold bX0_isBound; split
  · decide +kernel
  · decide +kernel
  · decide +kernel
  · decide +kernel
  · rfl
def bX0_isSo : Nat → List Ins := fun pc => match pc with
  | 0 => [(.aload_n 1, 0, 0, 0, 0), (.iload_n 2, 0, 0, 0, 0), (.invokevirtual 21, 30, 1, 3, 0), (.ifCond .ne 24, 29, 0, 0, 0), (.aload_n 0, 0, 0, 0, 0), (.aload_n 1, 0, 0, 0, 0), (.iload_n 2, 0, 0, 0, 0), (.aload_n 3, 0, 0, 0, 0), (.iload 4, 0, 0, 0, 0), (.invokevirtual 29, 4, 4, 0, 0), (.lconst 0, 0, 0, 0, 0), (.lcmp, 0, 0, 0, 0), (.ifCond .eq 14, 33, 0, 0, 0), (.aload_n 0, 0, 0, 0, 0), (.getfield 33, 0, 2, 0, 0), (.ifCond .ne 7, 33, 0, 0, 0)]
  | 29 => [(.iconst 1, 0, 0, 0, 1), (.goto 4, 34, 0, 0, 0)]
  | 33 => [(.iconst 0, 0, 0, 0, 0)]
  | 34 => [(.ireturn, 1, 0, 0, 0)]
  | _ => []
theorem kX0_isSo (pc : Nat) : chk 3 (bX0_isSo pc) pc = true := by
  unfold bX0_isSo; split
  · decide +kernel
  · decide +kernel
  · decide +kernel
  · decide +kernel
  · rfl
def bX0_value : Nat → List Ins := fun pc => match pc with
  | 0 => [(.aload_n 0, 0, 0, 0, 0), (.iconst 0, 0, 0, 0, 0), (.putfield 48, 0, 1, 0, 0), (.aload_n 0, 0, 0, 0, 0), (.iconst 0, 0, 0, 0, 0), (.putfield 33, 0, 2, 1, 0), (.aload_n 1, 0, 0, 0, 0), (.iload_n 2, 0, 0, 0, 0), (.iconst 1, 0, 0, 0, 1), (.iadd, 0, 0, 0, 0), (.invokevirtual 51, 29, 1, 3, 0), (.istore 5, 0, 0, 0, 0), (.aload_n 1, 0, 0, 0, 0), (.iload_n 2, 0, 0, 0, 0), (.invokevirtual 51, 29, 1, 3, 0), (.istore 6, 0, 0, 0, 0)]
  | 26 => [(.iload 6, 0, 0, 0, 0), (.iload 5, 0, 0, 0, 0), (.if_icmp .ge 206, 236, 0, 0, 0), (.aload_n 0, 0, 0, 0, 0), (.getfield 33, 0, 2, 0, 0), (.ifCond .ne 199, 236, 0, 0, 0), (.aload_n 1, 0, 0, 0, 0), (.iload 6, 0, 0, 0, 0), (.invokevirtual 55, 28, 1, 3, 0), (.bipush 10, 0, 0, 0, 10), (.ishr, 0, 0, 0, 0), (.istore 7, 0, 0, 0, 0), (.aload_n 1, 0, 0, 0, 0), (.iload 6, 0, 0, 0, 0), (.invokevirtual 55, 28, 1, 3, 0), (.sipush 1023, 0, 0, 0, 1023), (.iand, 0, 0, 0, 0), (.istore 8, 0, 0, 0, 0), (.iload 7, 0, 0, 0, 0), (.ifCond .ne 13, 78, 0, 0, 0), (.aload_n 0, 0, 0, 0, 0), (.iload 8, 0, 0, 0, 0), (.i2l, 0, 0, 0, 0), (.invokevirtual 58, 6, 1, 0, 0), (.goto 155, 230, 0, 0, 0)]
  | 78 => [(.iload 7, 0, 0, 0, 0), (.iconst 1, 0, 0, 0, 1), (.if_icmp .ne 32, 113, 0, 0, 0), (.aload_n 0, 0, 0, 0, 0), (.iload 8, 0, 0, 0, 0), (.bipush 7, 0, 0, 0, 7), (.if_icmp .ne 9, 98, 0, 0, 0), (.iload 4, 0, 0, 0, 0), (.i2l, 0, 0, 0, 0), (.goto 12, 107, 0, 0, 0)]
  | 98 => [(.aload_n 3, 0, 0, 0, 0), (.iload 4, 0, 0, 0, 0), (.iload 8, 0, 0, 0, 0), (.invokevirtual 62, 90, 2, 10, 0), (.i2l, 0, 0, 0, 0)]
  | 107 => [(.invokevirtual 58, 6, 1, 0, 0), (.goto 120, 230, 0, 0, 0)]
  | 113 => [(.iload 7, 0, 0, 0, 0), (.bipush 9, 0, 0, 0, 9), (.if_icmp .ne 24, 141, 0, 0, 0), (.aload_n 0, 0, 0, 0, 0), (.aload_n 0, 0, 0, 0, 0), (.invokevirtual 68, 7, 0, 0, 0), (.lconst 0, 0, 0, 0, 0), (.lcmp, 0, 0, 0, 0), (.ifCond .ne 7, 134, 0, 0, 0), (.lconst 1, 1, 0, 0, 0), (.goto 4, 135, 0, 0, 0)]
  | 134 => [(.lconst 0, 0, 0, 0, 0)]
  | 135 => [(.invokevirtual 58, 6, 1, 0, 0), (.goto 92, 230, 0, 0, 0)]
  | 141 => [(.iload 7, 0, 0, 0, 0), (.bipush 10, 0, 0, 0, 10), (.if_icmp .eq 10, 155, 0, 0, 0), (.iload 7, 0, 0, 0, 0), (.bipush 11, 0, 0, 0, 11), (.if_icmp .ne 56, 208, 0, 0, 0)]
  | 155 => [(.aload_n 0, 0, 0, 0, 0), (.invokevirtual 68, 7, 0, 0, 0), (.lstore 9, 0, 0, 0, 0), (.lload 9, 0, 0, 0, 0), (.lconst 0, 0, 0, 0, 0), (.lcmp, 0, 0, 0, 0), (.ifCond .eq 7, 172, 0, 0, 0), (.iconst 1, 0, 0, 0, 1), (.goto 4, 173, 0, 0, 0)]
  | 172 => [(.iconst 0, 0, 0, 0, 0)]
  | 173 => [(.iload 7, 0, 0, 0, 0), (.bipush 11, 0, 0, 0, 11), (.if_icmp .ne 7, 184, 0, 0, 0), (.iconst 1, 0, 0, 0, 1), (.goto 4, 185, 0, 0, 0)]
  | 184 => [(.iconst 0, 0, 0, 0, 0)]
  | 185 => [(.if_icmp .ne 20, 205, 0, 0, 0), (.aload_n 0, 0, 0, 0, 0), (.lload 9, 0, 0, 0, 0), (.invokevirtual 58, 6, 1, 0, 0), (.iload 6, 0, 0, 0, 0), (.iload 8, 0, 0, 0, 0), (.iconst 1, 0, 0, 0, 1), (.isub, 0, 0, 0, 0), (.invokestatic 72, 237, 2, 1, 0), (.istore 6, 0, 0, 0, 0)]
  | 205 => [(.goto 25, 230, 0, 0, 0)]
  | 208 => [(.aload_n 0, 0, 0, 0, 0), (.invokevirtual 68, 7, 0, 0, 0), (.lstore 9, 0, 0, 0, 0), (.aload_n 0, 0, 0, 0, 0), (.aload_n 0, 0, 0, 0, 0), (.iload 7, 0, 0, 0, 0), (.aload_n 0, 0, 0, 0, 0), (.invokevirtual 68, 7, 0, 0, 0), (.lload 9, 0, 0, 0, 0), (.invokevirtual 74, 5, 3, 0, 0), (.invokevirtual 58, 6, 1, 0, 0)]
  | 230 => [(.iinc 6 1, 0, 0, 0, 1), (.goto (-207), 26, 0, 0, 0)]
  | 236 => [(.aload_n 0, 0, 0, 0, 0), (.invokevirtual 68, 7, 0, 0, 0), (.lreturn, 0, 0, 0, 0)]
  | _ => []
theorem kX0_value (pc : Nat) : chk 4 (bX0_value pc) pc = true := by
  unfold bX0_value; split
  · decide +kernel
  · decide +kernel
  · decide +kernel
  · decide +kernel
  · decide +kernel
  · decide +kernel
  · decide +kernel
  · decide +kernel
  · decide +kernel
  · decide +kernel
  · decide +kernel
  · decide +kernel
  · decide +kernel
  · decide +kernel
  · decide +kernel
  · decide +kernel
  · decide +kernel
  · decide +kernel
  · rfl
def bX0_joined : Nat → List Ins := fun pc => match pc with
  | 0 => [(.iload_n 1, 0, 0, 0, 0), (.bipush 6, 0, 0, 0, 6), (.if_icmp .ne 16, 19, 0, 0, 0), (.lload_n 2, 0, 0, 0, 0), (.lload 4, 0, 0, 0, 0), (.lcmp, 0, 0, 0, 0), (.ifCond .ge 7, 17, 0, 0, 0), (.lconst 1, 1, 0, 0, 0), (.goto 4, 18, 0, 0, 0)]
  | 17 => [(.lconst 0, 0, 0, 0, 0)]
  | 18 => [(.lreturn, 0, 0, 0, 0)]
  | 19 => [(.iload_n 1, 0, 0, 0, 0), (.bipush 7, 0, 0, 0, 7), (.if_icmp .ne 16, 38, 0, 0, 0), (.lload_n 2, 0, 0, 0, 0), (.lload 4, 0, 0, 0, 0), (.lcmp, 0, 0, 0, 0), (.ifCond .le 7, 36, 0, 0, 0), (.lconst 1, 1, 0, 0, 0), (.goto 4, 37, 0, 0, 0)]
  | 36 => [(.lconst 0, 0, 0, 0, 0)]
  | 37 => [(.lreturn, 0, 0, 0, 0)]
  | 38 => [(.iload_n 1, 0, 0, 0, 0), (.bipush 8, 0, 0, 0, 8), (.if_icmp .ne 16, 57, 0, 0, 0), (.lload_n 2, 0, 0, 0, 0), (.lload 4, 0, 0, 0, 0), (.lcmp, 0, 0, 0, 0), (.ifCond .ne 7, 55, 0, 0, 0), (.lconst 1, 1, 0, 0, 0), (.goto 4, 56, 0, 0, 0)]
  | 55 => [(.lconst 0, 0, 0, 0, 0)]
  | 56 => [(.lreturn, 0, 0, 0, 0)]
  | 57 => [(.lconst 0, 0, 0, 0, 0), (.lstore 6, 0, 0, 0, 0), (.iload_n 1, 0, 0, 0, 0), (.iconst 2, 0, 0, 0, 2), (.if_icmp .ne 12, 74, 0, 0, 0), (.lload_n 2, 0, 0, 0, 0), (.lload 4, 0, 0, 0, 0), (.ladd, 0, 0, 0, 0), (.lstore 6, 0, 0, 0, 0), (.goto 52, 123, 0, 0, 0)]
  | 74 => [(.iload_n 1, 0, 0, 0, 0), (.iconst 3, 0, 0, 0, 3), (.if_icmp .ne 12, 88, 0, 0, 0), (.lload_n 2, 0, 0, 0, 0), (.lload 4, 0, 0, 0, 0), (.lsub, 0, 0, 0, 0), (.lstore 6, 0, 0, 0, 0), (.goto 38, 123, 0, 0, 0)]
  | 88 => [(.iload_n 1, 0, 0, 0, 0), (.iconst 4, 0, 0, 0, 4), (.if_icmp .ne 12, 102, 0, 0, 0), (.lload_n 2, 0, 0, 0, 0), (.lload 4, 0, 0, 0, 0), (.lmul, 0, 0, 0, 0), (.lstore 6, 0, 0, 0, 0), (.goto 24, 123, 0, 0, 0)]
  | 102 => [(.lload 4, 0, 0, 0, 0), (.lconst 0, 0, 0, 0, 0), (.lcmp, 0, 0, 0, 0), (.ifCond .ne 11, 117, 0, 0, 0), (.aload_n 0, 0, 0, 0, 0), (.iconst 1, 0, 0, 0, 1), (.putfield 33, 0, 2, 1, 0), (.goto 9, 123, 0, 0, 0)]
  | 117 => [(.lload_n 2, 0, 0, 0, 0), (.lload 4, 0, 0, 0, 0), (.ldiv, 0, 0, 0, 0), (.lstore 6, 0, 0, 0, 0)]
  | 123 => [(.aload_n 0, 0, 0, 0, 0), (.aload_n 0, 0, 0, 0, 0), (.getfield 33, 0, 2, 0, 0), (.ifCond .ne 21, 149, 0, 0, 0), (.lload 6, 0, 0, 0, 0), (.ldc2_w 78, 1000000000, 0, 0, 0), (.lcmp, 0, 0, 0, 0), (.ifCond .gt 12, 149, 0, 0, 0), (.lload 6, 0, 0, 0, 0), (.ldc2_w 80, 1000000000, 1, 0, 0), (.lcmp, 0, 0, 0, 0), (.ifCond .ge 7, 153, 0, 0, 0)]
  | 149 => [(.iconst 1, 0, 0, 0, 1), (.goto 4, 154, 0, 0, 0)]
  | 153 => [(.iconst 0, 0, 0, 0, 0)]
  | 154 => [(.putfield 33, 0, 2, 1, 0), (.lload 6, 0, 0, 0, 0), (.lreturn, 0, 0, 0, 0)]
  | _ => []
theorem kX0_joined (pc : Nat) : chk 5 (bX0_joined pc) pc = true := by
  unfold bX0_joined; split
  · decide +kernel
  · decide +kernel
  · decide +kernel
  · decide +kernel
  · decide +kernel
  · decide +kernel
  · decide +kernel
  · decide +kernel
  · decide +kernel
  · decide +kernel
  · decide +kernel
  · decide +kernel
  · decide +kernel
  · decide +kernel
  · decide +kernel
  · decide +kernel
  · decide +kernel
  · decide +kernel
  · rfl
def bX0_push : Nat → List Ins := fun pc => match pc with
  | 0 => [(.aload_n 0, 0, 0, 0, 0), (.getfield 48, 0, 1, 0, 0), (.ifCond .lt 35, 39, 0, 0, 0), (.aload_n 0, 0, 0, 0, 0), (.getfield 48, 0, 1, 0, 0), (.aload_n 0, 0, 0, 0, 0), (.getfield 9, 0, 0, 0, 0), (.arraylength, 0, 0, 0, 0), (.if_icmp .ge 23, 39, 0, 0, 0), (.aload_n 0, 0, 0, 0, 0), (.getfield 9, 0, 0, 0, 0), (.aload_n 0, 0, 0, 0, 0), (.getfield 48, 0, 1, 0, 0), (.lload_n 1, 0, 0, 0, 0), (.lastore, 0, 0, 0, 0), (.aload_n 0, 0, 0, 0, 0), (.dup, 0, 0, 0, 0), (.getfield 48, 0, 1, 0, 0), (.iconst 1, 0, 0, 0, 1), (.iadd, 0, 0, 0, 0), (.putfield 48, 0, 1, 0, 0)]
  | 39 => [(.return_, 0, 0, 0, 0)]
  | _ => []
theorem kX0_push (pc : Nat) : chk 6 (bX0_push pc) pc = true := by
  unfold bX0_push; split
  · decide +kernel
  · decide +kernel
  · rfl
def bX0_pop : Nat → List Ins := fun pc => match pc with
  | 0 => [(.aload_n 0, 0, 0, 0, 0), (.getfield 48, 0, 1, 0, 0), (.iconst 1, 0, 0, 0, 1), (.if_icmp .lt 15, 20, 0, 0, 0), (.aload_n 0, 0, 0, 0, 0), (.getfield 48, 0, 1, 0, 0), (.aload_n 0, 0, 0, 0, 0), (.getfield 9, 0, 0, 0, 0), (.arraylength, 0, 0, 0, 0), (.if_icmp .le 5, 22, 0, 0, 0)]
  | 20 => [(.lconst 0, 0, 0, 0, 0), (.lreturn, 0, 0, 0, 0)]
  | 22 => [(.aload_n 0, 0, 0, 0, 0), (.dup, 0, 0, 0, 0), (.getfield 48, 0, 1, 0, 0), (.iconst 1, 0, 0, 0, 1), (.isub, 0, 0, 0, 0), (.putfield 48, 0, 1, 0, 0), (.aload_n 0, 0, 0, 0, 0), (.getfield 9, 0, 0, 0, 0), (.aload_n 0, 0, 0, 0, 0), (.getfield 48, 0, 1, 0, 0), (.laload, 0, 0, 0, 0), (.lreturn, 0, 0, 0, 0)]
  | _ => []
theorem kX0_pop (pc : Nat) : chk 7 (bX0_pop pc) pc = true := by
  unfold bX0_pop; split
  · decide +kernel
  · decide +kernel
  · decide +kernel
  · rfl
def bX1_clear : Nat → List Ins := fun pc => match pc with
  | 0 => [(.aload_n 0, 0, 0, 0, 0), (.iconst (-1), 0, 0, 0, (-1)), (.putfield 9, 1, 0, 0, 0), (.aload_n 0, 0, 0, 0, 0), (.iconst (-1), 0, 0, 0, (-1)), (.putfield 15, 1, 1, 0, 0), (.aload_n 0, 0, 0, 0, 0), (.iconst 0, 0, 0, 0, 0), (.putfield 18, 1, 2, 0, 0), (.return_, 0, 0, 0, 0)]
  | _ => []
theorem kX1_clear (pc : Nat) : chk 9 (bX1_clear pc) pc = true := by
  unfold bX1_clear; split
  · decide +kernel
  · rfl
def bX1_offer : Nat → List Ins := fun pc => match pc with
  | 0 => [(.iload_n 1, 0, 0, 0, 0), (.invokestatic 21, 236, 1, 0, 0), (.istore_n 2, 0, 0, 0, 0), (.aload_n 0, 0, 0, 0, 0), (.getfield 9, 1, 0, 0, 0), (.iconst (-1), 0, 0, 0, (-1)), (.if_icmp .eq 11, 21, 0, 0, 0), (.iload_n 2, 0, 0, 0, 0), (.aload_n 0, 0, 0, 0, 0), (.getfield 9, 1, 0, 0, 0), (.if_icmp .ge 21, 39, 0, 0, 0)]
  | 21 => [(.aload_n 0, 0, 0, 0, 0), (.iload_n 2, 0, 0, 0, 0), (.putfield 9, 1, 0, 0, 0), (.aload_n 0, 0, 0, 0, 0), (.iload_n 1, 0, 0, 0, 0), (.putfield 15, 1, 1, 0, 0), (.aload_n 0, 0, 0, 0, 0), (.iconst 1, 0, 0, 0, 1), (.putfield 18, 1, 2, 0, 0), (.goto 33, 69, 0, 0, 0)]
  | 39 => [(.iload_n 2, 0, 0, 0, 0), (.aload_n 0, 0, 0, 0, 0), (.getfield 9, 1, 0, 0, 0), (.if_icmp .ne 25, 69, 0, 0, 0), (.aload_n 0, 0, 0, 0, 0), (.aload_n 0, 0, 0, 0, 0), (.getfield 15, 1, 1, 0, 0), (.iload_n 1, 0, 0, 0, 0), (.invokestatic 27, 239, 2, 1, 0), (.putfield 15, 1, 1, 0, 0), (.aload_n 0, 0, 0, 0, 0), (.dup, 0, 0, 0, 0), (.getfield 18, 1, 2, 0, 0), (.iconst 1, 0, 0, 0, 1), (.iadd, 0, 0, 0, 0), (.putfield 18, 1, 2, 0, 0)]
  | 69 => [(.return_, 0, 0, 0, 0)]
  | _ => []
theorem kX1_offer (pc : Nat) : chk 10 (bX1_offer pc) pc = true := by
  unfold bX1_offer; split
  · decide +kernel
  · decide +kernel
  · decide +kernel
  · decide +kernel
  · rfl
def bX1_told : Nat → List Ins := fun pc => match pc with
  | 0 => [(.iload_n 1, 0, 0, 0, 0), (.ifCond .ne 10, 11, 0, 0, 0), (.aload_n 0, 0, 0, 0, 0), (.getfield 9, 1, 0, 0, 0), (.goto 28, 36, 0, 0, 0)]
  | 11 => [(.iload_n 1, 0, 0, 0, 0), (.iconst 1, 0, 0, 0, 1), (.if_icmp .ne 10, 23, 0, 0, 0), (.aload_n 0, 0, 0, 0, 0), (.getfield 15, 1, 1, 0, 0), (.goto 16, 36, 0, 0, 0)]
  | 23 => [(.iload_n 1, 0, 0, 0, 0), (.iconst 2, 0, 0, 0, 2), (.if_icmp .ne 10, 35, 0, 0, 0), (.aload_n 0, 0, 0, 0, 0), (.getfield 18, 1, 2, 0, 0), (.goto 4, 36, 0, 0, 0)]
  | 35 => [(.iconst (-1), 0, 0, 0, (-1))]
  | 36 => [(.ireturn, 0, 0, 0, 0)]
  | _ => []
theorem kX1_told (pc : Nat) : chk 11 (bX1_told pc) pc = true := by
  unfold bX1_told; split
  · decide +kernel
  · decide +kernel
  · decide +kernel
  · decide +kernel
  · decide +kernel
  · rfl
def bX2_renew : Nat → List Ins := fun pc => match pc with
  | 0 => [(.aload_n 1, 0, 0, 0, 0), (.invokevirtual 31, 94, 0, 10, 0), (.astore_n 2, 0, 0, 0, 0), (.aload_n 0, 0, 0, 0, 0), (.iconst 0, 0, 0, 0, 0), (.putfield 37, 2, 5, 0, 0), (.iconst 0, 0, 0, 0, 0), (.istore_n 3, 0, 0, 0, 0)]
  | 12 => [(.iload_n 3, 0, 0, 0, 0), (.bipush 22, 0, 0, 0, 22), (.if_icmp .ge 142, 157, 0, 0, 0), (.aload_n 0, 0, 0, 0, 0), (.getfield 18, 2, 1, 0, 0), (.iload_n 3, 0, 0, 0, 0), (.iconst 0, 0, 0, 0, 0), (.iastore, 0, 0, 0, 0), (.aload_n 1, 0, 0, 0, 0), (.iload_n 3, 0, 0, 0, 0), (.invokevirtual 41, 96, 1, 10, 0), (.ifCond .eq 121, 151, 0, 0, 0), (.aload_n 0, 0, 0, 0, 0), (.getfield 18, 2, 1, 0, 0), (.iload_n 3, 0, 0, 0, 0), (.aload_n 1, 0, 0, 0, 0), (.iload_n 3, 0, 0, 0, 0), (.invokestatic 45, 14, 2, 0, 0), (.iastore, 0, 0, 0, 0), (.aload_n 0, 0, 0, 0, 0), (.getfield 25, 2, 3, 0, 0), (.iload_n 3, 0, 0, 0, 0), (.aload_n 1, 0, 0, 0, 0), (.iload_n 3, 0, 0, 0, 0), (.invokestatic 49, 15, 2, 0, 0), (.iastore, 0, 0, 0, 0), (.aload_n 0, 0, 0, 0, 0), (.getfield 22, 2, 2, 0, 0), (.iload_n 3, 0, 0, 0, 0), (.aload_n 1, 0, 0, 0, 0), (.iconst 0, 0, 0, 0, 0), (.invokevirtual 52, 91, 1, 10, 0), (.iastore, 0, 0, 0, 0), (.aload_n 2, 0, 0, 0, 0), (.ifnull 53, 120, 0, 0, 0), (.aload_n 0, 0, 0, 0, 0), (.getfield 22, 2, 2, 0, 0), (.iload_n 3, 0, 0, 0, 0), (.aload_n 0, 0, 0, 0, 0), (.getfield 12, 2, 0, 0, 0), (.aload_n 2, 0, 0, 0, 0), (.aload_n 1, 0, 0, 0, 0), (.iload_n 3, 0, 0, 0, 0), (.aload_n 1, 0, 0, 0, 0), (.iconst 0, 0, 0, 0, 0), (.invokevirtual 52, 91, 1, 10, 0), (.invokevirtual 56, 1, 4, 0, 0), (.iastore, 0, 0, 0, 0), (.aload_n 0, 0, 0, 0, 0), (.dup, 0, 0, 0, 0), (.getfield 37, 2, 5, 0, 0), (.aload_n 0, 0, 0, 0, 0), (.getfield 12, 2, 0, 0, 0), (.aload_n 2, 0, 0, 0, 0), (.aload_n 1, 0, 0, 0, 0), (.iload_n 3, 0, 0, 0, 0), (.invokevirtual 60, 2, 3, 0, 0), (.ifCond .eq 9, 115, 0, 0, 0), (.iconst 1, 0, 0, 0, 1), (.iload_n 3, 0, 0, 0, 0), (.ishl, 0, 0, 0, 0), (.goto 4, 116, 0, 0, 0)]
  | 115 => [(.iconst 0, 0, 0, 0, 0)]
  | 116 => [(.ior, 0, 0, 0, 0), (.putfield 37, 2, 5, 0, 0)]
  | 120 => [(.aload_n 0, 0, 0, 0, 0), (.getfield 28, 2, 4, 0, 0), (.iload_n 3, 0, 0, 0, 0), (.aload_n 0, 0, 0, 0, 0), (.iload_n 3, 0, 0, 0, 0), (.invokevirtual 64, 18, 1, 2, 0), (.ifCond .eq 7, 137, 0, 0, 0), (.iconst 0, 0, 0, 0, 0), (.goto 16, 150, 0, 0, 0)]
  | 137 => [(.aload_n 0, 0, 0, 0, 0), (.getfield 22, 2, 2, 0, 0), (.iload_n 3, 0, 0, 0, 0), (.iaload, 0, 0, 0, 0), (.aload_n 0, 0, 0, 0, 0), (.getfield 25, 2, 3, 0, 0), (.iload_n 3, 0, 0, 0, 0), (.iaload, 0, 0, 0, 0), (.isub, 0, 0, 0, 0)]
  | 150 => [(.iastore, 0, 0, 0, 0)]
  | 151 => [(.iinc 3 1, 0, 0, 0, 1), (.goto (-142), 12, 0, 0, 0)]
  | 157 => [(.return_, 0, 0, 0, 0)]
  | _ => []
theorem kX2_renew (pc : Nat) : chk 13 (bX2_renew pc) pc = true := by
  unfold bX2_renew; split
  · decide +kernel
  · decide +kernel
  · decide +kernel
  · decide +kernel
  · decide +kernel
  · decide +kernel
  · decide +kernel
  · decide +kernel
  · decide +kernel
  · rfl
def bX2_neighbours : Nat → List Ins := fun pc => match pc with
  | 0 => [(.aload_n 0, 0, 0, 0, 0), (.iload_n 1, 0, 0, 0, 0), (.iconst 0, 0, 0, 0, 0), (.invokevirtual 66, 90, 2, 10, 0), (.istore_n 2, 0, 0, 0, 0), (.aload_n 0, 0, 0, 0, 0), (.iload_n 1, 0, 0, 0, 0), (.iconst 1, 0, 0, 0, 1), (.invokevirtual 66, 90, 2, 10, 0), (.istore_n 3, 0, 0, 0, 0), (.aload_n 0, 0, 0, 0, 0), (.iload_n 1, 0, 0, 0, 0), (.iconst 2, 0, 0, 0, 2), (.invokevirtual 66, 90, 2, 10, 0), (.istore 4, 0, 0, 0, 0), (.aload_n 0, 0, 0, 0, 0), (.iload_n 1, 0, 0, 0, 0), (.iconst 3, 0, 0, 0, 3), (.invokevirtual 66, 90, 2, 10, 0), (.istore 5, 0, 0, 0, 0), (.iconst 0, 0, 0, 0, 0), (.istore 6, 0, 0, 0, 0), (.iconst 0, 0, 0, 0, 0), (.istore 7, 0, 0, 0, 0)]
  | 36 => [(.iload 7, 0, 0, 0, 0), (.bipush 22, 0, 0, 0, 22), (.if_icmp .ge 83, 123, 0, 0, 0), (.iload 7, 0, 0, 0, 0), (.iload_n 1, 0, 0, 0, 0), (.if_icmp .eq 54, 100, 0, 0, 0), (.aload_n 0, 0, 0, 0, 0), (.iload 7, 0, 0, 0, 0), (.invokevirtual 41, 96, 1, 10, 0), (.ifCond .eq 45, 100, 0, 0, 0), (.aload_n 0, 0, 0, 0, 0), (.iload 7, 0, 0, 0, 0), (.iload_n 2, 0, 0, 0, 0), (.iconst 1, 0, 0, 0, 1), (.isub, 0, 0, 0, 0), (.iload_n 3, 0, 0, 0, 0), (.iload 4, 0, 0, 0, 0), (.iconst 2, 0, 0, 0, 2), (.iadd, 0, 0, 0, 0), (.iload 5, 0, 0, 0, 0), (.invokevirtual 70, 98, 5, 10, 0), (.ifCond .ne 22, 96, 0, 0, 0), (.aload_n 0, 0, 0, 0, 0), (.iload 7, 0, 0, 0, 0), (.iload_n 2, 0, 0, 0, 0), (.iload_n 3, 0, 0, 0, 0), (.iconst 1, 0, 0, 0, 1), (.isub, 0, 0, 0, 0), (.iload 4, 0, 0, 0, 0), (.iload 5, 0, 0, 0, 0), (.iconst 2, 0, 0, 0, 2), (.iadd, 0, 0, 0, 0), (.invokevirtual 70, 98, 5, 10, 0), (.ifCond .eq 7, 100, 0, 0, 0)]
  | 96 => [(.iconst 1, 0, 0, 0, 1), (.goto 4, 101, 0, 0, 0)]
  | 100 => [(.iconst 0, 0, 0, 0, 0)]
  | 101 => [(.istore 8, 0, 0, 0, 0), (.iload 8, 0, 0, 0, 0), (.ifCond .eq 12, 117, 0, 0, 0), (.iload 6, 0, 0, 0, 0), (.iconst 1, 0, 0, 0, 1), (.iload 7, 0, 0, 0, 0), (.ishl, 0, 0, 0, 0), (.ior, 0, 0, 0, 0), (.istore 6, 0, 0, 0, 0)]
  | 117 => [(.iinc 7 1, 0, 0, 0, 1), (.goto (-84), 36, 0, 0, 0)]
  | 123 => [(.iload 6, 0, 0, 0, 0), (.ireturn, 0, 0, 0, 0)]
  | _ => []
theorem kX2_neighbours (pc : Nat) : chk 14 (bX2_neighbours pc) pc = true := by
  unfold bX2_neighbours; split
  · decide +kernel
  · decide +kernel
  · decide +kernel
  · decide +kernel
  · decide +kernel
  · decide +kernel
  · decide +kernel
  · rfl
def bX2_heldOf : Nat → List Ins := fun pc => match pc with
  | 0 => [(.aload_n 0, 0, 0, 0, 0), (.iload_n 1, 0, 0, 0, 0), (.iconst 1, 0, 0, 0, 1), (.invokevirtual 66, 90, 2, 10, 0), (.ifCond .ne 11, 17, 0, 0, 0), (.aload_n 0, 0, 0, 0, 0), (.iconst 1, 0, 0, 0, 1), (.invokevirtual 52, 91, 1, 10, 0), (.goto 4, 18, 0, 0, 0)]
  | 17 => [(.iconst 0, 0, 0, 0, 0)]
  | 18 => [(.istore_n 2, 0, 0, 0, 0), (.aload_n 0, 0, 0, 0, 0), (.iload_n 1, 0, 0, 0, 0), (.iconst 0, 0, 0, 0, 0), (.invokevirtual 66, 90, 2, 10, 0), (.ifCond .ne 11, 36, 0, 0, 0), (.iload_n 2, 0, 0, 0, 0), (.aload_n 0, 0, 0, 0, 0), (.iconst 2, 0, 0, 0, 2), (.invokevirtual 52, 91, 1, 10, 0), (.iadd, 0, 0, 0, 0), (.istore_n 2, 0, 0, 0, 0)]
  | 36 => [(.aload_n 0, 0, 0, 0, 0), (.iload_n 1, 0, 0, 0, 0), (.iconst 0, 0, 0, 0, 0), (.invokevirtual 66, 90, 2, 10, 0), (.aload_n 0, 0, 0, 0, 0), (.iload_n 1, 0, 0, 0, 0), (.iconst 2, 0, 0, 0, 2), (.invokevirtual 66, 90, 2, 10, 0), (.iadd, 0, 0, 0, 0), (.bipush 12, 0, 0, 0, 12), (.if_icmp .ne 11, 62, 0, 0, 0), (.iload_n 2, 0, 0, 0, 0), (.aload_n 0, 0, 0, 0, 0), (.iconst 2, 0, 0, 0, 2), (.invokevirtual 52, 91, 1, 10, 0), (.iadd, 0, 0, 0, 0), (.istore_n 2, 0, 0, 0, 0)]
  | 62 => [(.iload_n 2, 0, 0, 0, 0), (.ireturn, 0, 0, 0, 0)]
  | _ => []
theorem kX2_heldOf (pc : Nat) : chk 15 (bX2_heldOf pc) pc = true := by
  unfold bX2_heldOf; split
  · decide +kernel
  · decide +kernel
  · decide +kernel
  · decide +kernel
  · decide +kernel
  · rfl
def bX2_needOf : Nat → List Ins := fun pc => match pc with
  | 0 => [(.iload_n 1, 0, 0, 0, 0), (.iconst 0, 0, 0, 0, 0), (.bipush 21, 0, 0, 0, 21), (.invokestatic 74, 142, 3, 0, 0), (.ifCond .eq 12, 19, 0, 0, 0), (.aload_n 0, 0, 0, 0, 0), (.getfield 22, 2, 2, 0, 0), (.iload_n 1, 0, 0, 0, 0), (.iaload, 0, 0, 0, 0), (.goto 4, 20, 0, 0, 0)]
  | 19 => [(.iconst (-1), 0, 0, 0, (-1))]
  | 20 => [(.ireturn, 0, 0, 0, 0)]
  | _ => []
theorem kX2_needOf (pc : Nat) : chk 16 (bX2_needOf pc) pc = true := by
  unfold bX2_needOf; split
  · decide +kernel
  · decide +kernel
  · decide +kernel
  · rfl
def bX2_besideOf : Nat → List Ins := fun pc => match pc with
  | 0 => [(.iload_n 1, 0, 0, 0, 0), (.iconst 0, 0, 0, 0, 0), (.bipush 21, 0, 0, 0, 21), (.invokestatic 74, 142, 3, 0, 0), (.ifCond .eq 12, 19, 0, 0, 0), (.aload_n 0, 0, 0, 0, 0), (.getfield 18, 2, 1, 0, 0), (.iload_n 1, 0, 0, 0, 0), (.iaload, 0, 0, 0, 0), (.goto 4, 20, 0, 0, 0)]
  | 19 => [(.iconst 0, 0, 0, 0, 0)]
  | 20 => [(.ireturn, 0, 0, 0, 0)]
  | _ => []
theorem kX2_besideOf (pc : Nat) : chk 17 (bX2_besideOf pc) pc = true := by
  unfold bX2_besideOf; split
  · decide +kernel
  · decide +kernel
  · decide +kernel
  · rfl
def bX2_isBound : Nat → List Ins := fun pc => match pc with
  | 0 => [(.iload_n 1, 0, 0, 0, 0), (.iconst 0, 0, 0, 0, 0), (.bipush 21, 0, 0, 0, 21), (.invokestatic 74, 142, 3, 0, 0), (.ifCond .eq 18, 25, 0, 0, 0), (.aload_n 0, 0, 0, 0, 0), (.getfield 37, 2, 5, 0, 0), (.iload_n 1, 0, 0, 0, 0), (.ishr, 0, 0, 0, 0), (.iconst 1, 0, 0, 0, 1), (.iand, 0, 0, 0, 0), (.ifCond .eq 7, 25, 0, 0, 0), (.iconst 1, 0, 0, 0, 1), (.goto 4, 26, 0, 0, 0)]
  | 25 => [(.iconst 0, 0, 0, 0, 0)]
  | 26 => [(.ireturn, 1, 0, 0, 0)]
  | _ => []
theorem kX2_isBound (pc : Nat) : chk 18 (bX2_isBound pc) pc = true := by
  unfold bX2_isBound; split
  · decide +kernel
  · decide +kernel
  · decide +kernel
  · rfl
def bX2_touchesOf : Nat → List Ins := fun pc => match pc with
  | 0 => [(.iload_n 1, 0, 0, 0, 0), (.iconst 0, 0, 0, 0, 0), (.bipush 21, 0, 0, 0, 21), (.invokestatic 74, 142, 3, 0, 0), (.ifCond .ne 5, 12, 0, 0, 0), (.iconst (-1), 0, 0, 0, (-1)), (.ireturn, 0, 0, 0, 0)]
  | 12 => [(.aload_n 0, 0, 0, 0, 0), (.getfield 18, 2, 1, 0, 0), (.iload_n 1, 0, 0, 0, 0), (.iaload, 0, 0, 0, 0), (.iload_n 2, 0, 0, 0, 0), (.iand, 0, 0, 0, 0), (.invokestatic 78, 236, 1, 0, 0), (.aload_n 0, 0, 0, 0, 0), (.getfield 25, 2, 3, 0, 0), (.iload_n 1, 0, 0, 0, 0), (.iaload, 0, 0, 0, 0), (.iadd, 0, 0, 0, 0), (.ireturn, 0, 0, 0, 0)]
  | _ => []
theorem kX2_touchesOf (pc : Nat) : chk 19 (bX2_touchesOf pc) pc = true := by
  unfold bX2_touchesOf; split
  · decide +kernel
  · decide +kernel
  · rfl
def bX2_isLawful : Nat → List Ins := fun pc => match pc with
  | 0 => [(.iconst 0, 0, 0, 0, 0), (.istore_n 2, 0, 0, 0, 0)]
  | 2 => [(.iload_n 2, 0, 0, 0, 0), (.bipush 22, 0, 0, 0, 22), (.if_icmp .ge 45, 50, 0, 0, 0), (.iload_n 1, 0, 0, 0, 0), (.iload_n 2, 0, 0, 0, 0), (.ishr, 0, 0, 0, 0), (.ifCond .eq 39, 50, 0, 0, 0), (.iload_n 1, 0, 0, 0, 0), (.iload_n 2, 0, 0, 0, 0), (.ishr, 0, 0, 0, 0), (.iconst 1, 0, 0, 0, 1), (.iand, 0, 0, 0, 0), (.ifCond .eq 25, 44, 0, 0, 0), (.aload_n 0, 0, 0, 0, 0), (.getfield 18, 2, 1, 0, 0), (.iload_n 2, 0, 0, 0, 0), (.iaload, 0, 0, 0, 0), (.iload_n 1, 0, 0, 0, 0), (.iand, 0, 0, 0, 0), (.invokestatic 78, 236, 1, 0, 0), (.aload_n 0, 0, 0, 0, 0), (.getfield 28, 2, 4, 0, 0), (.iload_n 2, 0, 0, 0, 0), (.iaload, 0, 0, 0, 0), (.if_icmp .ge 5, 44, 0, 0, 0), (.iconst 0, 0, 0, 0, 0), (.ireturn, 1, 0, 0, 0)]
  | 44 => [(.iinc 2 1, 0, 0, 0, 1), (.goto (-45), 2, 0, 0, 0)]
  | 50 => [(.iload_n 1, 0, 0, 0, 0), (.ifCond .eq 7, 58, 0, 0, 0), (.iconst 1, 0, 0, 0, 1), (.goto 4, 59, 0, 0, 0)]
  | 58 => [(.iconst 0, 0, 0, 0, 0)]
  | 59 => [(.ireturn, 1, 0, 0, 0)]
  | _ => []
theorem kX2_isLawful (pc : Nat) : chk 20 (bX2_isLawful pc) pc = true := by
  unfold bX2_isLawful; split
  · decide +kernel
  · decide +kernel
  · decide +kernel
  · decide +kernel
  · decide +kernel
  · decide +kernel
  · rfl
def bX2_unsteady : Nat → List Ins := fun pc => match pc with
  | 0 => [(.iconst 0, 0, 0, 0, 0), (.istore_n 2, 0, 0, 0, 0), (.iconst 0, 0, 0, 0, 0), (.istore_n 3, 0, 0, 0, 0)]
  | 4 => [(.iload_n 3, 0, 0, 0, 0), (.bipush 22, 0, 0, 0, 22), (.if_icmp .ge 49, 56, 0, 0, 0), (.iload_n 1, 0, 0, 0, 0), (.iload_n 3, 0, 0, 0, 0), (.ishr, 0, 0, 0, 0), (.ifCond .eq 43, 56, 0, 0, 0), (.iload_n 1, 0, 0, 0, 0), (.iload_n 3, 0, 0, 0, 0), (.ishr, 0, 0, 0, 0), (.iconst 1, 0, 0, 0, 1), (.iand, 0, 0, 0, 0), (.ifCond .eq 29, 50, 0, 0, 0), (.aload_n 0, 0, 0, 0, 0), (.getfield 18, 2, 1, 0, 0), (.iload_n 3, 0, 0, 0, 0), (.iaload, 0, 0, 0, 0), (.iload_n 1, 0, 0, 0, 0), (.iand, 0, 0, 0, 0), (.invokestatic 78, 236, 1, 0, 0), (.aload_n 0, 0, 0, 0, 0), (.getfield 28, 2, 4, 0, 0), (.iload_n 3, 0, 0, 0, 0), (.iaload, 0, 0, 0, 0), (.if_icmp .ge 9, 50, 0, 0, 0), (.iload_n 2, 0, 0, 0, 0), (.iconst 1, 0, 0, 0, 1), (.iload_n 3, 0, 0, 0, 0), (.ishl, 0, 0, 0, 0), (.ior, 0, 0, 0, 0), (.istore_n 2, 0, 0, 0, 0)]
  | 50 => [(.iinc 3 1, 0, 0, 0, 1), (.goto (-49), 4, 0, 0, 0)]
  | 56 => [(.iload_n 2, 0, 0, 0, 0), (.ireturn, 0, 0, 0, 0)]
  | _ => []
theorem kX2_unsteady (pc : Nat) : chk 21 (bX2_unsteady pc) pc = true := by
  unfold bX2_unsteady; split
  · decide +kernel
  · decide +kernel
  · decide +kernel
  · decide +kernel
  · rfl
def bX2_settled : Nat → List Ins := fun pc => match pc with
  | 0 => [(.iload_n 1, 0, 0, 0, 0), (.istore_n 2, 0, 0, 0, 0), (.aload_n 0, 0, 0, 0, 0), (.iload_n 2, 0, 0, 0, 0), (.invokevirtual 83, 21, 1, 2, 0), (.istore_n 3, 0, 0, 0, 0), (.iconst 0, 0, 0, 0, 0), (.istore 4, 0, 0, 0, 0)]
  | 11 => [(.iload 4, 0, 0, 0, 0), (.bipush 22, 0, 0, 0, 22), (.if_icmp .ge 25, 40, 0, 0, 0), (.iload_n 3, 0, 0, 0, 0), (.ifCond .eq 21, 40, 0, 0, 0), (.iload_n 2, 0, 0, 0, 0), (.iload_n 3, 0, 0, 0, 0), (.iconst (-1), 0, 0, 0, (-1)), (.ixor, 0, 0, 0, 0), (.iand, 0, 0, 0, 0), (.istore_n 2, 0, 0, 0, 0), (.aload_n 0, 0, 0, 0, 0), (.iload_n 2, 0, 0, 0, 0), (.invokevirtual 83, 21, 1, 2, 0), (.istore_n 3, 0, 0, 0, 0), (.iinc 4 1, 0, 0, 0, 1), (.goto (-26), 11, 0, 0, 0)]
  | 40 => [(.iload_n 2, 0, 0, 0, 0), (.ireturn, 0, 0, 0, 0)]
  | _ => []
theorem kX2_settled (pc : Nat) : chk 22 (bX2_settled pc) pc = true := by
  unfold bX2_settled; split
  · decide +kernel
  · decide +kernel
  · decide +kernel
  · rfl
def bX2_rounds : Nat → List Ins := fun pc => match pc with
  | 0 => [(.iload_n 1, 0, 0, 0, 0), (.istore_n 2, 0, 0, 0, 0), (.aload_n 0, 0, 0, 0, 0), (.iload_n 2, 0, 0, 0, 0), (.invokevirtual 83, 21, 1, 2, 0), (.istore_n 3, 0, 0, 0, 0), (.iconst 0, 0, 0, 0, 0), (.istore 4, 0, 0, 0, 0), (.iconst 0, 0, 0, 0, 0), (.istore 5, 0, 0, 0, 0)]
  | 14 => [(.iload 5, 0, 0, 0, 0), (.bipush 22, 0, 0, 0, 22), (.if_icmp .ge 28, 46, 0, 0, 0), (.iload_n 3, 0, 0, 0, 0), (.ifCond .eq 24, 46, 0, 0, 0), (.iinc 4 1, 0, 0, 0, 1), (.iload_n 2, 0, 0, 0, 0), (.iload_n 3, 0, 0, 0, 0), (.iconst (-1), 0, 0, 0, (-1)), (.ixor, 0, 0, 0, 0), (.iand, 0, 0, 0, 0), (.istore_n 2, 0, 0, 0, 0), (.aload_n 0, 0, 0, 0, 0), (.iload_n 2, 0, 0, 0, 0), (.invokevirtual 83, 21, 1, 2, 0), (.istore_n 3, 0, 0, 0, 0), (.iinc 5 1, 0, 0, 0, 1), (.goto (-29), 14, 0, 0, 0)]
  | 46 => [(.iload 4, 0, 0, 0, 0), (.ireturn, 0, 0, 0, 0)]
  | _ => []
theorem kX2_rounds (pc : Nat) : chk 23 (bX2_rounds pc) pc = true := by
  unfold bX2_rounds; split
  · decide +kernel
  · decide +kernel
  · decide +kernel
  · rfl
def bX2_roundOf : Nat → List Ins := fun pc => match pc with
  | 0 => [(.iload_n 1, 0, 0, 0, 0), (.istore_n 3, 0, 0, 0, 0), (.aload_n 0, 0, 0, 0, 0), (.iload_n 1, 0, 0, 0, 0), (.invokevirtual 86, 23, 1, 2, 0), (.istore 4, 0, 0, 0, 0), (.iconst 0, 0, 0, 0, 0), (.istore 5, 0, 0, 0, 0)]
  | 12 => [(.iload 5, 0, 0, 0, 0), (.iload 4, 0, 0, 0, 0), (.if_icmp .gt 30, 46, 0, 0, 0), (.iload_n 3, 0, 0, 0, 0), (.iload_n 2, 0, 0, 0, 0), (.ishr, 0, 0, 0, 0), (.iconst 1, 0, 0, 0, 1), (.iand, 0, 0, 0, 0), (.ifCond .ne 6, 30, 0, 0, 0), (.iload 5, 0, 0, 0, 0), (.ireturn, 0, 0, 0, 0)]
  | 30 => [(.iload_n 3, 0, 0, 0, 0), (.aload_n 0, 0, 0, 0, 0), (.iload_n 3, 0, 0, 0, 0), (.invokevirtual 83, 21, 1, 2, 0), (.iconst (-1), 0, 0, 0, (-1)), (.ixor, 0, 0, 0, 0), (.iand, 0, 0, 0, 0), (.istore_n 3, 0, 0, 0, 0), (.iinc 5 1, 0, 0, 0, 1), (.goto (-31), 12, 0, 0, 0)]
  | 46 => [(.iconst (-1), 0, 0, 0, (-1)), (.ireturn, 0, 0, 0, 0)]
  | _ => []
theorem kX2_roundOf (pc : Nat) : chk 24 (bX2_roundOf pc) pc = true := by
  unfold bX2_roundOf; split
  · decide +kernel
  · decide +kernel
  · decide +kernel
  · decide +kernel
  · rfl
def bX2_singles : Nat → List Ins := fun pc => match pc with
  | 0 => [(.iconst 0, 0, 0, 0, 0), (.istore 4, 0, 0, 0, 0), (.iconst 0, 0, 0, 0, 0), (.istore 5, 0, 0, 0, 0)]
  | 6 => [(.iload 5, 0, 0, 0, 0), (.bipush 14, 0, 0, 0, 14), (.if_icmp .ge 46, 56, 0, 0, 0), (.iconst 1, 0, 0, 0, 1), (.iload 5, 0, 0, 0, 0), (.ishl, 0, 0, 0, 0), (.iload_n 1, 0, 0, 0, 0), (.iand, 0, 0, 0, 0), (.istore 6, 0, 0, 0, 0), (.iload 6, 0, 0, 0, 0), (.ifCond .eq 27, 50, 0, 0, 0), (.aload_n 0, 0, 0, 0, 0), (.iload_n 1, 0, 0, 0, 0), (.iload 6, 0, 0, 0, 0), (.iconst (-1), 0, 0, 0, (-1)), (.ixor, 0, 0, 0, 0), (.iand, 0, 0, 0, 0), (.invokevirtual 89, 22, 1, 2, 0), (.iload_n 2, 0, 0, 0, 0), (.if_icmp .ne 13, 50, 0, 0, 0), (.iload_n 3, 0, 0, 0, 0), (.ifCond .eq 6, 47, 0, 0, 0), (.iload 5, 0, 0, 0, 0), (.ireturn, 0, 0, 0, 0)]
  | 47 => [(.iinc 4 1, 0, 0, 0, 1)]
  | 50 => [(.iinc 5 1, 0, 0, 0, 1), (.goto (-47), 6, 0, 0, 0)]
  | 56 => [(.iload_n 3, 0, 0, 0, 0), (.ifCond .eq 7, 64, 0, 0, 0), (.iconst (-1), 0, 0, 0, (-1)), (.goto 5, 66, 0, 0, 0)]
  | 64 => [(.iload 4, 0, 0, 0, 0)]
  | 66 => [(.ireturn, 0, 0, 0, 0)]
  | _ => []
theorem kX2_singles (pc : Nat) : chk 25 (bX2_singles pc) pc = true := by
  unfold bX2_singles; split
  · decide +kernel
  · decide +kernel
  · decide +kernel
  · decide +kernel
  · decide +kernel
  · decide +kernel
  · decide +kernel
  · rfl
def bX2_pairs : Nat → List Ins := fun pc => match pc with
  | 0 => [(.iconst 0, 0, 0, 0, 0), (.istore 4, 0, 0, 0, 0), (.iconst 0, 0, 0, 0, 0), (.istore 5, 0, 0, 0, 0)]
  | 6 => [(.iload 5, 0, 0, 0, 0), (.bipush 14, 0, 0, 0, 14), (.if_icmp .ge 72, 82, 0, 0, 0), (.iload 5, 0, 0, 0, 0), (.iconst 1, 0, 0, 0, 1), (.iadd, 0, 0, 0, 0), (.istore 6, 0, 0, 0, 0)]
  | 19 => [(.iload 6, 0, 0, 0, 0), (.bipush 14, 0, 0, 0, 14), (.if_icmp .ge 53, 76, 0, 0, 0), (.iconst 1, 0, 0, 0, 1), (.iload 5, 0, 0, 0, 0), (.ishl, 0, 0, 0, 0), (.iconst 1, 0, 0, 0, 1), (.iload 6, 0, 0, 0, 0), (.ishl, 0, 0, 0, 0), (.ior, 0, 0, 0, 0), (.istore 7, 0, 0, 0, 0), (.iload 7, 0, 0, 0, 0), (.iload_n 1, 0, 0, 0, 0), (.iand, 0, 0, 0, 0), (.iload 7, 0, 0, 0, 0), (.if_icmp .ne 27, 70, 0, 0, 0), (.aload_n 0, 0, 0, 0, 0), (.iload_n 1, 0, 0, 0, 0), (.iload 7, 0, 0, 0, 0), (.iconst (-1), 0, 0, 0, (-1)), (.ixor, 0, 0, 0, 0), (.iand, 0, 0, 0, 0), (.invokevirtual 89, 22, 1, 2, 0), (.iload_n 2, 0, 0, 0, 0), (.if_icmp .ne 13, 70, 0, 0, 0), (.iload_n 3, 0, 0, 0, 0), (.ifCond .eq 6, 67, 0, 0, 0), (.iload 7, 0, 0, 0, 0), (.ireturn, 0, 0, 0, 0)]
  | 67 => [(.iinc 4 1, 0, 0, 0, 1)]
  | 70 => [(.iinc 6 1, 0, 0, 0, 1), (.goto (-54), 19, 0, 0, 0)]
  | 76 => [(.iinc 5 1, 0, 0, 0, 1), (.goto (-73), 6, 0, 0, 0)]
  | 82 => [(.iload_n 3, 0, 0, 0, 0), (.ifCond .eq 7, 90, 0, 0, 0), (.iconst (-1), 0, 0, 0, (-1)), (.goto 5, 92, 0, 0, 0)]
  | 90 => [(.iload 4, 0, 0, 0, 0)]
  | 92 => [(.ireturn, 0, 0, 0, 0)]
  | _ => []
theorem kX2_pairs (pc : Nat) : chk 26 (bX2_pairs pc) pc = true := by
  unfold bX2_pairs; split
  · decide +kernel
  · decide +kernel
  · decide +kernel
  · decide +kernel
  · decide +kernel
  · decide +kernel
  · decide +kernel
  · decide +kernel
  · decide +kernel
  · rfl
def bX3_stepAt : Nat → List Ins := fun pc => match pc with
  | 0 => [(.iload_n 1, 0, 0, 0, 0), (.ifCond .lt 21, 22, 0, 0, 0), (.iload_n 1, 0, 0, 0, 0), (.aload_n 0, 0, 0, 0, 0), (.getfield 15, 3, 0, 0, 0), (.arraylength, 1, 0, 0, 0), (.if_icmp .ge 12, 22, 0, 0, 0), (.aload_n 0, 0, 0, 0, 0), (.getfield 15, 3, 0, 0, 0), (.iload_n 1, 0, 0, 0, 0), (.iaload, 1, 0, 0, 0), (.goto 4, 23, 0, 0, 0)]
  | 22 => [(.iconst 0, 0, 0, 0, 0)]
  | 23 => [(.ireturn, 0, 0, 0, 0)]
  | _ => []
theorem kX3_stepAt (pc : Nat) : chk 28 (bX3_stepAt pc) pc = true := by
  unfold bX3_stepAt; split
  · decide +kernel
  · decide +kernel
  · decide +kernel
  · rfl
def bX3_startOf : Nat → List Ins := fun pc => match pc with
  | 0 => [(.iload_n 1, 0, 0, 0, 0), (.ifCond .lt 21, 22, 0, 0, 0), (.iload_n 1, 0, 0, 0, 0), (.aload_n 0, 0, 0, 0, 0), (.getfield 19, 3, 1, 0, 0), (.arraylength, 1, 0, 0, 0), (.if_icmp .ge 12, 22, 0, 0, 0), (.aload_n 0, 0, 0, 0, 0), (.getfield 19, 3, 1, 0, 0), (.iload_n 1, 0, 0, 0, 0), (.iaload, 1, 0, 0, 0), (.goto 8, 27, 0, 0, 0)]
  | 22 => [(.aload_n 0, 0, 0, 0, 0), (.getfield 15, 3, 0, 0, 0), (.arraylength, 1, 0, 0, 0)]
  | 27 => [(.ireturn, 0, 0, 0, 0)]
  | _ => []
theorem kX3_startOf (pc : Nat) : chk 29 (bX3_startOf pc) pc = true := by
  unfold bX3_startOf; split
  · decide +kernel
  · decide +kernel
  · decide +kernel
  · rfl
def bX3_isEmptyPart : Nat → List Ins := fun pc => match pc with
  | 0 => [(.aload_n 0, 0, 0, 0, 0), (.iload_n 1, 0, 0, 0, 0), (.invokevirtual 26, 29, 1, 3, 0), (.aload_n 0, 0, 0, 0, 0), (.iload_n 1, 0, 0, 0, 0), (.iconst 1, 0, 0, 0, 1), (.iadd, 0, 0, 0, 0), (.invokevirtual 26, 29, 1, 3, 0), (.if_icmp .lt 7, 19, 0, 0, 0), (.iconst 1, 0, 0, 0, 1), (.goto 4, 20, 0, 0, 0)]
  | 19 => [(.iconst 0, 0, 0, 0, 0)]
  | 20 => [(.ireturn, 1, 0, 0, 0)]
  | _ => []
theorem kX3_isEmptyPart (pc : Nat) : chk 30 (bX3_isEmptyPart pc) pc = true := by
  unfold bX3_isEmptyPart; split
  · decide +kernel
  · decide +kernel
  · decide +kernel
  · rfl
def bX4_clear : Nat → List Ins := fun pc => match pc with
  | 0 => [(.aload_n 0, 0, 0, 0, 0), (.iconst (-1), 0, 0, 0, (-1)), (.putfield 9, 4, 0, 0, 0), (.aload_n 0, 0, 0, 0, 0), (.iconst (-1), 0, 0, 0, (-1)), (.putfield 15, 4, 1, 0, 0), (.aload_n 0, 0, 0, 0, 0), (.iconst (-1), 0, 0, 0, (-1)), (.putfield 18, 4, 2, 0, 0), (.aload_n 0, 0, 0, 0, 0), (.iconst 0, 0, 0, 0, 0), (.putfield 21, 4, 3, 0, 0), (.return_, 0, 0, 0, 0)]
  | _ => []
theorem kX4_clear (pc : Nat) : chk 32 (bX4_clear pc) pc = true := by
  unfold bX4_clear; split
  · decide +kernel
  · rfl
def bX4_offer : Nat → List Ins := fun pc => match pc with
  | 0 => [(.aload_n 0, 0, 0, 0, 0), (.dup, 0, 0, 0, 0), (.getfield 21, 4, 3, 0, 0), (.iconst 1, 0, 0, 0, 1), (.iadd, 0, 0, 0, 0), (.putfield 21, 4, 3, 0, 0), (.iload_n 1, 0, 0, 0, 0), (.invokestatic 24, 236, 1, 0, 0), (.istore_n 3, 0, 0, 0, 0), (.iload_n 3, 0, 0, 0, 0), (.aload_n 0, 0, 0, 0, 0), (.getfield 9, 4, 0, 0, 0), (.if_icmp .ge 4, 24, 0, 0, 0), (.return_, 0, 0, 0, 0)]
  | 24 => [(.aload_n 2, 0, 0, 0, 0), (.iload_n 1, 0, 0, 0, 0), (.invokevirtual 30, 100, 1, 10, 0), (.istore 4, 0, 0, 0, 0), (.iload_n 3, 0, 0, 0, 0), (.aload_n 0, 0, 0, 0, 0), (.getfield 9, 4, 0, 0, 0), (.if_icmp .gt 29, 65, 0, 0, 0), (.iload 4, 0, 0, 0, 0), (.aload_n 0, 0, 0, 0, 0), (.getfield 15, 4, 1, 0, 0), (.if_icmp .gt 20, 65, 0, 0, 0), (.iload 4, 0, 0, 0, 0), (.aload_n 0, 0, 0, 0, 0), (.getfield 15, 4, 1, 0, 0), (.if_icmp .ne 27, 81, 0, 0, 0), (.iload_n 1, 0, 0, 0, 0), (.aload_n 0, 0, 0, 0, 0), (.getfield 18, 4, 2, 0, 0), (.if_icmp .ge 19, 81, 0, 0, 0)]
  | 65 => [(.aload_n 0, 0, 0, 0, 0), (.iload_n 3, 0, 0, 0, 0), (.putfield 9, 4, 0, 0, 0), (.aload_n 0, 0, 0, 0, 0), (.iload 4, 0, 0, 0, 0), (.putfield 15, 4, 1, 0, 0), (.aload_n 0, 0, 0, 0, 0), (.iload_n 1, 0, 0, 0, 0), (.putfield 18, 4, 2, 0, 0)]
  | 81 => [(.return_, 0, 0, 0, 0)]
  | _ => []
theorem kX4_offer (pc : Nat) : chk 33 (bX4_offer pc) pc = true := by
  unfold bX4_offer; split
  · decide +kernel
  · decide +kernel
  · decide +kernel
  · decide +kernel
  · rfl
def bX4_told : Nat → List Ins := fun pc => match pc with
  | 0 => [(.iload_n 1, 0, 0, 0, 0), (.ifCond .ne 10, 11, 0, 0, 0), (.aload_n 0, 0, 0, 0, 0), (.getfield 9, 4, 0, 0, 0), (.goto 40, 48, 0, 0, 0)]
  | 11 => [(.iload_n 1, 0, 0, 0, 0), (.iconst 1, 0, 0, 0, 1), (.if_icmp .ne 10, 23, 0, 0, 0), (.aload_n 0, 0, 0, 0, 0), (.getfield 15, 4, 1, 0, 0), (.goto 28, 48, 0, 0, 0)]
  | 23 => [(.iload_n 1, 0, 0, 0, 0), (.iconst 2, 0, 0, 0, 2), (.if_icmp .ne 10, 35, 0, 0, 0), (.aload_n 0, 0, 0, 0, 0), (.getfield 18, 4, 2, 0, 0), (.goto 16, 48, 0, 0, 0)]
  | 35 => [(.iload_n 1, 0, 0, 0, 0), (.iconst 3, 0, 0, 0, 3), (.if_icmp .ne 10, 47, 0, 0, 0), (.aload_n 0, 0, 0, 0, 0), (.getfield 21, 4, 3, 0, 0), (.goto 4, 48, 0, 0, 0)]
  | 47 => [(.iconst (-1), 0, 0, 0, (-1))]
  | 48 => [(.ireturn, 0, 0, 0, 0)]
  | _ => []
theorem kX4_told (pc : Nat) : chk 34 (bX4_told pc) pc = true := by
  unfold bX4_told; split
  · decide +kernel
  · decide +kernel
  · decide +kernel
  · decide +kernel
  · decide +kernel
  · decide +kernel
  · rfl
