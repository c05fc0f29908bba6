/-! the code of the methods, as lists (wip/gen/code.py) -/
def bX11_stone : Nat → List Ins := fun pc => match pc with
  | 0 => [(.aload_n 0, 0, 0, 0, 0), (.iload_n 1, 0, 0, 0, 0), (.iload_n 2, 0, 0, 0, 0), (.iload_n 3, 0, 0, 0, 0), (.iload 4, 0, 0, 0, 0), (.iload 5, 0, 0, 0, 0), (.aload_n 0, 0, 0, 0, 0), (.getfield 12, 11, 0, 0, 0), (.getfield 75, 10, 3, 0, 0), (.bipush 14, 0, 0, 0, 14), (.if_icmp .ge 7, 24, 0, 0, 0), (.iconst 1, 0, 0, 0, 1), (.goto 4, 25, 0, 0, 0)]
  | 24 => [(.iconst 0, 0, 0, 0, 0)]
  | 25 => [(.invokevirtual 78, 139, 6, 11, 0), (.istore 6, 0, 0, 0, 0), (.iload 6, 0, 0, 0, 0), (.ifCond .eq 10, 42, 0, 0, 0), (.aload_n 0, 0, 0, 0, 0), (.iload 6, 0, 0, 0, 0), (.invokevirtual 82, 137, 1, 11, 0), (.ireturn, 0, 0, 0, 0)]
  | 42 => [(.aload_n 0, 0, 0, 0, 0), (.iconst 1, 0, 0, 0, 1), (.putfield 71, 11, 12, 1, 0), (.aload_n 0, 0, 0, 0, 0), (.aload_n 0, 0, 0, 0, 0), (.getfield 12, 11, 0, 0, 0), (.iload_n 1, 0, 0, 0, 0), (.iload_n 2, 0, 0, 0, 0), (.iload_n 3, 0, 0, 0, 0), (.iload 4, 0, 0, 0, 0), (.iload 5, 0, 0, 0, 0), (.invokevirtual 86, 86, 5, 10, 0), (.invokevirtual 90, 138, 1, 11, 0), (.ireturn, 0, 0, 0, 0)]
  | _ => []
theorem kX11_stone (pc : Nat) : chk 102 (bX11_stone pc) pc = true := by
  unfold bX11_stone; split
  · decide +kernel
  · decide +kernel
  · decide +kernel
  · decide +kernel
  · rfl
def bX11_spare : Nat → List Ins := fun pc => match pc with
  | 0 => [(.aload_n 0, 0, 0, 0, 0), (.iload_n 1, 0, 0, 0, 0), (.iload_n 2, 0, 0, 0, 0), (.iload_n 3, 0, 0, 0, 0), (.iload 4, 0, 0, 0, 0), (.iload 5, 0, 0, 0, 0), (.aload_n 0, 0, 0, 0, 0), (.getfield 12, 11, 0, 0, 0), (.getfield 93, 10, 4, 0, 0), (.bipush 8, 0, 0, 0, 8), (.if_icmp .ge 7, 24, 0, 0, 0), (.iconst 1, 0, 0, 0, 1), (.goto 4, 25, 0, 0, 0)]
  | 24 => [(.iconst 0, 0, 0, 0, 0)]
  | 25 => [(.invokevirtual 78, 139, 6, 11, 0), (.istore 6, 0, 0, 0, 0), (.iload 6, 0, 0, 0, 0), (.ifCond .eq 10, 42, 0, 0, 0), (.aload_n 0, 0, 0, 0, 0), (.iload 6, 0, 0, 0, 0), (.invokevirtual 82, 137, 1, 11, 0), (.ireturn, 0, 0, 0, 0)]
  | 42 => [(.aload_n 0, 0, 0, 0, 0), (.iconst 1, 0, 0, 0, 1), (.putfield 71, 11, 12, 1, 0), (.aload_n 0, 0, 0, 0, 0), (.aload_n 0, 0, 0, 0, 0), (.getfield 12, 11, 0, 0, 0), (.iload_n 1, 0, 0, 0, 0), (.iload_n 2, 0, 0, 0, 0), (.iload_n 3, 0, 0, 0, 0), (.iload 4, 0, 0, 0, 0), (.iload 5, 0, 0, 0, 0), (.invokevirtual 96, 87, 5, 10, 0), (.invokevirtual 90, 138, 1, 11, 0), (.ireturn, 0, 0, 0, 0)]
  | _ => []
theorem kX11_spare (pc : Nat) : chk 103 (bX11_spare pc) pc = true := by
  unfold bX11_spare; split
  · decide +kernel
  · decide +kernel
  · decide +kernel
  · decide +kernel
  · rfl
def bX11_put : Nat → List Ins := fun pc => match pc with
  | 0 => [(.iload_n 2, 0, 0, 0, 0), (.ifCond .ne 13, 14, 0, 0, 0), (.iload_n 3, 0, 0, 0, 0), (.iconst 1, 0, 0, 0, 1), (.bipush 99, 0, 0, 0, 99), (.invokestatic 99, 142, 3, 0, 0), (.ifCond .ne 32, 43, 0, 0, 0)]
  | 14 => [(.iload_n 2, 0, 0, 0, 0), (.iconst 1, 0, 0, 0, 1), (.if_icmp .ne 12, 28, 0, 0, 0), (.iload_n 3, 0, 0, 0, 0), (.iconst 0, 0, 0, 0, 0), (.iconst 3, 0, 0, 0, 3), (.invokestatic 99, 142, 3, 0, 0), (.ifCond .ne 18, 43, 0, 0, 0)]
  | 28 => [(.iload_n 2, 0, 0, 0, 0), (.iconst 2, 0, 0, 0, 2), (.if_icmp .ne 17, 47, 0, 0, 0), (.iload_n 3, 0, 0, 0, 0), (.iconst 0, 0, 0, 0, 0), (.bipush 100, 0, 0, 0, 100), (.invokestatic 99, 142, 3, 0, 0), (.ifCond .eq 7, 47, 0, 0, 0)]
  | 43 => [(.iconst 1, 0, 0, 0, 1), (.goto 4, 48, 0, 0, 0)]
  | 47 => [(.iconst 0, 0, 0, 0, 0)]
  | 48 => [(.istore 4, 0, 0, 0, 0), (.iload 4, 0, 0, 0, 0), (.ifCond .ne 9, 61, 0, 0, 0), (.aload_n 0, 0, 0, 0, 0), (.iconst (-1), 0, 0, 0, (-1)), (.invokevirtual 82, 137, 1, 11, 0), (.ireturn, 0, 0, 0, 0)]
  | 61 => [(.aload_n 0, 0, 0, 0, 0), (.getfield 12, 11, 0, 0, 0), (.iload_n 1, 0, 0, 0, 0), (.invokevirtual 103, 95, 1, 10, 0), (.ifCond .ne 10, 79, 0, 0, 0), (.aload_n 0, 0, 0, 0, 0), (.bipush (-2), 0, 0, 0, (-2)), (.invokevirtual 82, 137, 1, 11, 0), (.ireturn, 0, 0, 0, 0)]
  | 79 => [(.aload_n 0, 0, 0, 0, 0), (.iconst 1, 0, 0, 0, 1), (.putfield 71, 11, 12, 1, 0), (.aload_n 0, 0, 0, 0, 0), (.aload_n 0, 0, 0, 0, 0), (.getfield 12, 11, 0, 0, 0), (.iload_n 1, 0, 0, 0, 0), (.iconst 4, 0, 0, 0, 4), (.iload_n 2, 0, 0, 0, 0), (.iadd, 0, 0, 0, 0), (.iload_n 3, 0, 0, 0, 0), (.invokevirtual 107, 89, 3, 10, 0), (.invokevirtual 90, 138, 1, 11, 0), (.ireturn, 0, 0, 0, 0)]
  | _ => []
theorem kX11_put (pc : Nat) : chk 104 (bX11_put pc) pc = true := by
  unfold bX11_put; split
  · decide +kernel
  · decide +kernel
  · decide +kernel
  · decide +kernel
  · decide +kernel
  · decide +kernel
  · decide +kernel
  · decide +kernel
  · rfl
def bX11_of : Nat → List Ins := fun pc => match pc with
  | 0 => [(.aload_n 0, 0, 0, 0, 0), (.getfield 12, 11, 0, 0, 0), (.iload_n 1, 0, 0, 0, 0), (.invokevirtual 103, 95, 1, 10, 0), (.ifCond .eq 13, 21, 0, 0, 0), (.iload_n 2, 0, 0, 0, 0), (.iconst 0, 0, 0, 0, 0), (.bipush 7, 0, 0, 0, 7), (.invokestatic 99, 142, 3, 0, 0), (.ifCond .ne 5, 23, 0, 0, 0)]
  | 21 => [(.iconst (-1), 0, 0, 0, (-1)), (.ireturn, 0, 0, 0, 0)]
  | 23 => [(.iload_n 2, 0, 0, 0, 0), (.bipush 7, 0, 0, 0, 7), (.if_icmp .ne 17, 43, 0, 0, 0), (.aload_n 0, 0, 0, 0, 0), (.getfield 12, 11, 0, 0, 0), (.getfield 111, 10, 5, 0, 0), (.iload_n 1, 0, 0, 0, 0), (.ishr, 0, 0, 0, 0), (.iconst 1, 0, 0, 0, 1), (.iand, 0, 0, 0, 0), (.goto 12, 52, 0, 0, 0)]
  | 43 => [(.aload_n 0, 0, 0, 0, 0), (.getfield 12, 11, 0, 0, 0), (.iload_n 1, 0, 0, 0, 0), (.iload_n 2, 0, 0, 0, 0), (.invokevirtual 114, 90, 2, 10, 0)]
  | 52 => [(.ireturn, 0, 0, 0, 0)]
  | _ => []
theorem kX11_of (pc : Nat) : chk 105 (bX11_of pc) pc = true := by
  unfold bX11_of; split
  · decide +kernel
  · decide +kernel
  · decide +kernel
  · decide +kernel
  · decide +kernel
  · rfl
def bX11_terms : Nat → List Ins := fun pc => match pc with
  | 0 => [(.iload_n 1, 0, 0, 0, 0), (.iconst 0, 0, 0, 0, 0), (.iconst 2, 0, 0, 0, 2), (.invokestatic 99, 142, 3, 0, 0), (.ifCond .eq 22, 28, 0, 0, 0), (.iload_n 2, 0, 0, 0, 0), (.iconst 0, 0, 0, 0, 0), (.iload_n 1, 0, 0, 0, 0), (.ifCond .ne 8, 20, 0, 0, 0), (.bipush 12, 0, 0, 0, 12), (.goto 5, 22, 0, 0, 0)]
  | 20 => [(.bipush 9, 0, 0, 0, 9)]
  | 22 => [(.invokestatic 99, 142, 3, 0, 0), (.ifCond .ne 9, 34, 0, 0, 0)]
  | 28 => [(.aload_n 0, 0, 0, 0, 0), (.iconst (-1), 0, 0, 0, (-1)), (.invokevirtual 82, 137, 1, 11, 0), (.ireturn, 0, 0, 0, 0)]
  | 34 => [(.aload_n 0, 0, 0, 0, 0), (.iconst 1, 0, 0, 0, 1), (.putfield 71, 11, 12, 1, 0), (.aload_n 0, 0, 0, 0, 0), (.aload_n 0, 0, 0, 0, 0), (.getfield 12, 11, 0, 0, 0), (.iload_n 1, 0, 0, 0, 0), (.iload_n 2, 0, 0, 0, 0), (.invokevirtual 118, 92, 2, 10, 0), (.invokevirtual 90, 138, 1, 11, 0), (.ireturn, 0, 0, 0, 0)]
  | _ => []
theorem kX11_terms (pc : Nat) : chk 106 (bX11_terms pc) pc = true := by
  unfold bX11_terms; split
  · decide +kernel
  · decide +kernel
  · decide +kernel
  · decide +kernel
  · decide +kernel
  · rfl
def bX11_feed : Nat → List Ins := fun pc => match pc with
  | 0 => [(.aload_n 0, 0, 0, 0, 0), (.getfield 27, 11, 3, 0, 0), (.getfield 121, 8, 1, 0, 0), (.bipush 20, 0, 0, 0, 20), (.iadd, 0, 0, 0, 0), (.sipush 400, 0, 0, 0, 400), (.if_icmp .le 5, 18, 0, 0, 0), (.iconst (-1), 0, 0, 0, (-1)), (.ireturn, 0, 0, 0, 0)]
  | 18 => [(.aload_n 0, 0, 0, 0, 0), (.getfield 27, 11, 3, 0, 0), (.iload_n 1, 0, 0, 0, 0), (.invokevirtual 124, 67, 1, 8, 0), (.aload_n 0, 0, 0, 0, 0), (.getfield 27, 11, 3, 0, 0), (.iload_n 2, 0, 0, 0, 0), (.invokevirtual 124, 67, 1, 8, 0), (.aload_n 0, 0, 0, 0, 0), (.getfield 27, 11, 3, 0, 0), (.iload_n 3, 0, 0, 0, 0), (.invokevirtual 124, 67, 1, 8, 0), (.aload_n 0, 0, 0, 0, 0), (.getfield 27, 11, 3, 0, 0), (.iload 4, 0, 0, 0, 0), (.invokevirtual 124, 67, 1, 8, 0), (.aload_n 0, 0, 0, 0, 0), (.getfield 27, 11, 3, 0, 0), (.iload 5, 0, 0, 0, 0), (.invokevirtual 124, 67, 1, 8, 0), (.aload_n 0, 0, 0, 0, 0), (.getfield 27, 11, 3, 0, 0), (.getfield 121, 8, 1, 0, 0), (.ireturn, 0, 0, 0, 0)]
  | _ => []
theorem kX11_feed (pc : Nat) : chk 107 (bX11_feed pc) pc = true := by
  unfold bX11_feed; split
  · decide +kernel
  · decide +kernel
  · rfl
def bX11_end : Nat → List Ins := fun pc => match pc with
  | 0 => [(.iload_n 1, 0, 0, 0, 0), (.iconst 0, 0, 0, 0, 0), (.aload_n 0, 0, 0, 0, 0), (.getfield 27, 11, 3, 0, 0), (.getfield 121, 8, 1, 0, 0), (.invokestatic 99, 142, 3, 0, 0), (.ifCond .ne 5, 17, 0, 0, 0), (.iconst (-1), 0, 0, 0, (-1)), (.ireturn, 0, 0, 0, 0)]
  | 17 => [(.aload_n 0, 0, 0, 0, 0), (.getfield 27, 11, 3, 0, 0), (.iload_n 1, 0, 0, 0, 0), (.putfield 121, 8, 1, 0, 0), (.iload_n 1, 0, 0, 0, 0), (.ireturn, 0, 0, 0, 0)]
  | _ => []
theorem kX11_end (pc : Nat) : chk 108 (bX11_end pc) pc = true := by
  unfold bX11_end; split
  · decide +kernel
  · decide +kernel
  · rfl
def bX11_row : Nat → List Ins := fun pc => match pc with
  | 0 => [(.aload_n 0, 0, 0, 0, 0), (.getfield 27, 11, 3, 0, 0), (.getfield 121, 8, 1, 0, 0), (.ifCond .ne 10, 17, 0, 0, 0), (.aload_n 0, 0, 0, 0, 0), (.bipush (-6), 0, 0, 0, (-6)), (.invokevirtual 82, 137, 1, 11, 0), (.ireturn, 0, 0, 0, 0)]
  | 17 => [(.iconst 0, 0, 0, 0, 0), (.istore_n 1, 0, 0, 0, 0), (.aload_n 0, 0, 0, 0, 0), (.iconst 0, 0, 0, 0, 0), (.putfield 128, 11, 11, 0, 0), (.iconst 0, 0, 0, 0, 0), (.istore_n 2, 0, 0, 0, 0)]
  | 26 => [(.iload_n 2, 0, 0, 0, 0), (.aload_n 0, 0, 0, 0, 0), (.getfield 27, 11, 3, 0, 0), (.getfield 121, 8, 1, 0, 0), (.if_icmp .ge 33, 67, 0, 0, 0), (.aload_n 0, 0, 0, 0, 0), (.iload_n 2, 0, 0, 0, 0), (.invokevirtual 131, 140, 1, 11, 0), (.ifCond .eq 9, 51, 0, 0, 0), (.iinc 1 1, 0, 0, 0, 1), (.goto 13, 61, 0, 0, 0)]
  | 51 => [(.aload_n 0, 0, 0, 0, 0), (.dup, 0, 0, 0, 0), (.getfield 128, 11, 11, 0, 0), (.iconst 1, 0, 0, 0, 1), (.iadd, 0, 0, 0, 0), (.putfield 128, 11, 11, 0, 0)]
  | 61 => [(.iinc 2 5, 0, 0, 0, 5), (.goto (-38), 26, 0, 0, 0)]
  | 67 => [(.aload_n 0, 0, 0, 0, 0), (.getfield 27, 11, 3, 0, 0), (.iconst 0, 0, 0, 0, 0), (.putfield 121, 8, 1, 0, 0), (.aload_n 0, 0, 0, 0, 0), (.iconst 1, 0, 0, 0, 1), (.putfield 71, 11, 12, 1, 0), (.aload_n 0, 0, 0, 0, 0), (.iload_n 1, 0, 0, 0, 0), (.invokevirtual 90, 138, 1, 11, 0), (.ireturn, 0, 0, 0, 0)]
  | _ => []
theorem kX11_row (pc : Nat) : chk 109 (bX11_row pc) pc = true := by
  unfold bX11_row; split
  · decide +kernel
  · decide +kernel
  · decide +kernel
  · decide +kernel
  · decide +kernel
  · decide +kernel
  · rfl
def bX11_rubble : Nat → List Ins := fun pc => match pc with
  | 0 => [(.aload_n 0, 0, 0, 0, 0), (.getfield 128, 11, 11, 0, 0), (.ireturn, 0, 0, 0, 0)]
  | _ => []
theorem kX11_rubble (pc : Nat) : chk 110 (bX11_rubble pc) pc = true := by
  unfold bX11_rubble; split
  · decide +kernel
  · rfl
def bX11_law : Nat → List Ins := fun pc => match pc with
  | 0 => [(.aload_n 0, 0, 0, 0, 0), (.getfield 27, 11, 3, 0, 0), (.getfield 121, 8, 1, 0, 0), (.istore_n 1, 0, 0, 0, 0), (.aload_n 0, 0, 0, 0, 0), (.getfield 27, 11, 3, 0, 0), (.iconst 0, 0, 0, 0, 0), (.putfield 121, 8, 1, 0, 0), (.aload_n 0, 0, 0, 0, 0), (.getfield 12, 11, 0, 0, 0), (.getfield 134, 10, 6, 0, 0), (.bipush 6, 0, 0, 0, 6), (.if_icmp .lt 10, 35, 0, 0, 0), (.aload_n 0, 0, 0, 0, 0), (.bipush (-5), 0, 0, 0, (-5)), (.invokevirtual 82, 137, 1, 11, 0), (.ireturn, 0, 0, 0, 0)]
  | 35 => [(.aload_n 0, 0, 0, 0, 0), (.getfield 36, 11, 4, 0, 0), (.iload_n 1, 0, 0, 0, 0), (.invokevirtual 137, 36, 1, 5, 0), (.astore_n 2, 0, 0, 0, 0), (.aload_n 0, 0, 0, 0, 0), (.aload_n 0, 0, 0, 0, 0), (.getfield 36, 11, 4, 0, 0), (.getfield 141, 5, 9, 0, 0), (.putfield 67, 11, 10, 0, 0), (.aload_n 2, 0, 0, 0, 0), (.ifnonnull 10, 66, 0, 0, 0), (.aload_n 0, 0, 0, 0, 0), (.bipush (-6), 0, 0, 0, (-6)), (.invokevirtual 82, 137, 1, 11, 0), (.ireturn, 0, 0, 0, 0)]
  | 66 => [(.aload_n 0, 0, 0, 0, 0), (.aload_n 0, 0, 0, 0, 0), (.getfield 12, 11, 0, 0, 0), (.aload_n 2, 0, 0, 0, 0), (.invokevirtual 144, 93, 1, 10, 0), (.invokevirtual 90, 138, 1, 11, 0), (.ireturn, 0, 0, 0, 0)]
  | _ => []
theorem kX11_law (pc : Nat) : chk 111 (bX11_law pc) pc = true := by
  unfold bX11_law; split
  · decide +kernel
  · decide +kernel
  · decide +kernel
  · rfl
def bX11_fault : Nat → List Ins := fun pc => match pc with
  | 0 => [(.aload_n 0, 0, 0, 0, 0), (.getfield 67, 11, 10, 0, 0), (.ireturn, 0, 0, 0, 0)]
  | _ => []
theorem kX11_fault (pc : Nat) : chk 112 (bX11_fault pc) pc = true := by
  unfold bX11_fault; split
  · decide +kernel
  · rfl
def bX11_force : Nat → List Ins := fun pc => match pc with
  | 0 => [(.iload_n 1, 0, 0, 0, 0), (.iconst (-1), 0, 0, 0, (-1)), (.if_icmp .eq 27, 29, 0, 0, 0), (.iload_n 1, 0, 0, 0, 0), (.iconst 0, 0, 0, 0, 0), (.aload_n 0, 0, 0, 0, 0), (.getfield 12, 11, 0, 0, 0), (.getfield 134, 10, 6, 0, 0), (.iconst 1, 0, 0, 0, 1), (.isub, 0, 0, 0, 0), (.invokestatic 99, 142, 3, 0, 0), (.ifCond .ne 10, 29, 0, 0, 0), (.aload_n 0, 0, 0, 0, 0), (.bipush (-2), 0, 0, 0, (-2)), (.invokevirtual 82, 137, 1, 11, 0), (.ireturn, 0, 0, 0, 0)]
  | 29 => [(.aload_n 0, 0, 0, 0, 0), (.getfield 12, 11, 0, 0, 0), (.getfield 148, 10, 7, 0, 0), (.istore_n 2, 0, 0, 0, 0), (.aload_n 0, 0, 0, 0, 0), (.getfield 12, 11, 0, 0, 0), (.iload_n 1, 0, 0, 0, 0), (.putfield 148, 10, 7, 0, 0), (.aload_n 0, 0, 0, 0, 0), (.iconst 1, 0, 0, 0, 1), (.putfield 71, 11, 12, 1, 0), (.aload_n 0, 0, 0, 0, 0), (.iload_n 2, 0, 0, 0, 0), (.invokevirtual 90, 138, 1, 11, 0), (.ireturn, 0, 0, 0, 0)]
  | _ => []
theorem kX11_force (pc : Nat) : chk 113 (bX11_force pc) pc = true := by
  unfold bX11_force; split
  · decide +kernel
  · decide +kernel
  · rfl
def bX11_at : Nat → List Ins := fun pc => match pc with
  | 0 => [(.iconst 0, 0, 0, 0, 0), (.istore_n 3, 0, 0, 0, 0)]
  | 2 => [(.iload_n 3, 0, 0, 0, 0), (.aload_n 0, 0, 0, 0, 0), (.getfield 12, 11, 0, 0, 0), (.getfield 75, 10, 3, 0, 0), (.if_icmp .ge 40, 50, 0, 0, 0), (.aload_n 0, 0, 0, 0, 0), (.getfield 12, 11, 0, 0, 0), (.getfield 111, 10, 5, 0, 0), (.iload_n 3, 0, 0, 0, 0), (.ishr, 0, 0, 0, 0), (.iconst 1, 0, 0, 0, 1), (.iand, 0, 0, 0, 0), (.ifCond .eq 20, 44, 0, 0, 0), (.aload_n 0, 0, 0, 0, 0), (.getfield 12, 11, 0, 0, 0), (.iload_n 3, 0, 0, 0, 0), (.iload_n 1, 0, 0, 0, 0), (.iload_n 2, 0, 0, 0, 0), (.iconst 1, 0, 0, 0, 1), (.iconst 1, 0, 0, 0, 1), (.invokevirtual 151, 98, 5, 10, 0), (.ifCond .eq 5, 44, 0, 0, 0), (.iload_n 3, 0, 0, 0, 0), (.ireturn, 0, 0, 0, 0)]
  | 44 => [(.iinc 3 1, 0, 0, 0, 1), (.goto (-45), 2, 0, 0, 0)]
  | 50 => [(.iconst (-1), 0, 0, 0, (-1)), (.ireturn, 0, 0, 0, 0)]
  | _ => []
theorem kX11_at (pc : Nat) : chk 114 (bX11_at pc) pc = true := by
  unfold bX11_at; split
  · decide +kernel
  · decide +kernel
  · decide +kernel
  · decide +kernel
  · rfl
def bX11_touches : Nat → List Ins := fun pc => match pc with
  | 0 => [(.aload_n 0, 0, 0, 0, 0), (.getfield 12, 11, 0, 0, 0), (.iload_n 1, 0, 0, 0, 0), (.invokevirtual 103, 95, 1, 10, 0), (.ifCond .ne 5, 13, 0, 0, 0), (.iconst (-1), 0, 0, 0, (-1)), (.ireturn, 0, 0, 0, 0)]
  | 13 => [(.aload_n 0, 0, 0, 0, 0), (.invokevirtual 155, 141, 0, 11, 0), (.iload_n 2, 0, 0, 0, 0), (.tableswitch 107 0 3 #[30, 39, 73, 90], 125, 0, 0, 0)]
  | 48 => [(.aload_n 0, 0, 0, 0, 0), (.getfield 43, 11, 5, 0, 0), (.iload_n 1, 0, 0, 0, 0), (.invokevirtual 158, 16, 1, 2, 0), (.ireturn, 0, 0, 0, 0)]
  | 57 => [(.aload_n 0, 0, 0, 0, 0), (.getfield 12, 11, 0, 0, 0), (.getfield 111, 10, 5, 0, 0), (.iload_n 1, 0, 0, 0, 0), (.ishr, 0, 0, 0, 0), (.iconst 1, 0, 0, 0, 1), (.iand, 0, 0, 0, 0), (.ifCond .ne 7, 75, 0, 0, 0), (.iconst (-1), 0, 0, 0, (-1)), (.goto 18, 90, 0, 0, 0)]
  | 75 => [(.aload_n 0, 0, 0, 0, 0), (.getfield 43, 11, 5, 0, 0), (.iload_n 1, 0, 0, 0, 0), (.aload_n 0, 0, 0, 0, 0), (.getfield 12, 11, 0, 0, 0), (.getfield 111, 10, 5, 0, 0), (.invokevirtual 161, 19, 2, 2, 0)]
  | 90 => [(.ireturn, 0, 0, 0, 0)]
  | 91 => [(.aload_n 0, 0, 0, 0, 0), (.getfield 43, 11, 5, 0, 0), (.iload_n 1, 0, 0, 0, 0), (.invokevirtual 164, 18, 1, 2, 0), (.ifCond .eq 7, 106, 0, 0, 0), (.iconst 1, 0, 0, 0, 1), (.goto 4, 107, 0, 0, 0)]
  | 106 => [(.iconst 0, 0, 0, 0, 0)]
  | 107 => [(.ireturn, 0, 0, 0, 0)]
  | 108 => [(.aload_n 0, 0, 0, 0, 0), (.getfield 43, 11, 5, 0, 0), (.iload_n 1, 0, 0, 0, 0), (.invokevirtual 167, 17, 1, 2, 0), (.aload_n 0, 0, 0, 0, 0), (.getfield 12, 11, 0, 0, 0), (.getfield 111, 10, 5, 0, 0), (.iand, 0, 0, 0, 0), (.ireturn, 0, 0, 0, 0)]
  | 125 => [(.iconst (-1), 0, 0, 0, (-1)), (.ireturn, 0, 0, 0, 0)]
  | _ => []
theorem kX11_touches (pc : Nat) : chk 115 (bX11_touches pc) pc = true := by
  unfold bX11_touches; split
  · decide +kernel
  · decide +kernel
  · decide +kernel
  · decide +kernel
  · decide +kernel
  · decide +kernel
  · decide +kernel
  · decide +kernel
  · decide +kernel
  · decide +kernel
  · decide +kernel
  · rfl
def bX11_unlawful : Nat → List Ins := fun pc => match pc with
  | 0 => [(.aload_n 0, 0, 0, 0, 0), (.invokevirtual 155, 141, 0, 11, 0), (.aload_n 0, 0, 0, 0, 0), (.getfield 43, 11, 5, 0, 0), (.aload_n 0, 0, 0, 0, 0), (.getfield 12, 11, 0, 0, 0), (.getfield 111, 10, 5, 0, 0), (.invokevirtual 170, 21, 1, 2, 0), (.istore_n 1, 0, 0, 0, 0), (.iconst 0, 0, 0, 0, 0), (.istore_n 2, 0, 0, 0, 0)]
  | 21 => [(.iload_n 2, 0, 0, 0, 0), (.bipush 14, 0, 0, 0, 14), (.if_icmp .ge 19, 43, 0, 0, 0), (.iload_n 1, 0, 0, 0, 0), (.iload_n 2, 0, 0, 0, 0), (.ishr, 0, 0, 0, 0), (.iconst 1, 0, 0, 0, 1), (.iand, 0, 0, 0, 0), (.ifCond .eq 5, 37, 0, 0, 0), (.iload_n 2, 0, 0, 0, 0), (.ireturn, 0, 0, 0, 0)]
  | 37 => [(.iinc 2 1, 0, 0, 0, 1), (.goto (-19), 21, 0, 0, 0)]
  | 43 => [(.iconst (-1), 0, 0, 0, (-1)), (.ireturn, 0, 0, 0, 0)]
  | _ => []
theorem kX11_unlawful (pc : Nat) : chk 116 (bX11_unlawful pc) pc = true := by
  unfold bX11_unlawful; split
  · decide +kernel
  · decide +kernel
  · decide +kernel
  · decide +kernel
  · rfl
def bX11_there : Nat → List Ins := fun pc => match pc with
  | 0 => [(.aload_n 0, 0, 0, 0, 0), (.getfield 12, 11, 0, 0, 0), (.getfield 111, 10, 5, 0, 0), (.ireturn, 0, 0, 0, 0)]
  | _ => []
theorem kX11_there (pc : Nat) : chk 117 (bX11_there pc) pc = true := by
  unfold bX11_there; split
  · decide +kernel
  · rfl
def bX11_stand : Nat → List Ins := fun pc => match pc with
  | 0 => [(.iload_n 1, 0, 0, 0, 0), (.aload_n 0, 0, 0, 0, 0), (.getfield 12, 11, 0, 0, 0), (.invokevirtual 173, 97, 0, 10, 0), (.invokestatic 177, 143, 2, 0, 0), (.ifCond .ne 9, 20, 0, 0, 0), (.aload_n 0, 0, 0, 0, 0), (.iconst (-1), 0, 0, 0, (-1)), (.invokevirtual 82, 137, 1, 11, 0), (.ireturn, 0, 0, 0, 0)]
  | 20 => [(.aload_n 0, 0, 0, 0, 0), (.getfield 12, 11, 0, 0, 0), (.getfield 111, 10, 5, 0, 0), (.istore_n 2, 0, 0, 0, 0), (.aload_n 0, 0, 0, 0, 0), (.getfield 12, 11, 0, 0, 0), (.iload_n 1, 0, 0, 0, 0), (.putfield 111, 10, 5, 0, 0), (.aload_n 0, 0, 0, 0, 0), (.iconst 1, 0, 0, 0, 1), (.putfield 71, 11, 12, 1, 0), (.aload_n 0, 0, 0, 0, 0), (.iload_n 2, 0, 0, 0, 0), (.invokevirtual 90, 138, 1, 11, 0), (.ireturn, 0, 0, 0, 0)]
  | _ => []
theorem kX11_stand (pc : Nat) : chk 118 (bX11_stand pc) pc = true := by
  unfold bX11_stand; split
  · decide +kernel
  · decide +kernel
  · rfl
def bX11_falls : Nat → List Ins := fun pc => match pc with
  | 0 => [(.iload_n 1, 0, 0, 0, 0), (.aload_n 0, 0, 0, 0, 0), (.getfield 12, 11, 0, 0, 0), (.getfield 111, 10, 5, 0, 0), (.invokestatic 177, 143, 2, 0, 0), (.ifCond .ne 5, 16, 0, 0, 0), (.iconst (-1), 0, 0, 0, (-1)), (.ireturn, 0, 0, 0, 0)]
  | 16 => [(.aload_n 0, 0, 0, 0, 0), (.invokevirtual 155, 141, 0, 11, 0), (.aload_n 0, 0, 0, 0, 0), (.getfield 12, 11, 0, 0, 0), (.getfield 111, 10, 5, 0, 0), (.iload_n 1, 0, 0, 0, 0), (.iconst (-1), 0, 0, 0, (-1)), (.ixor, 0, 0, 0, 0), (.iand, 0, 0, 0, 0), (.istore_n 3, 0, 0, 0, 0), (.aload_n 0, 0, 0, 0, 0), (.getfield 43, 11, 5, 0, 0), (.iload_n 3, 0, 0, 0, 0), (.invokevirtual 181, 22, 1, 2, 0), (.istore 4, 0, 0, 0, 0), (.iload_n 2, 0, 0, 0, 0), (.tableswitch 65 0 3 #[29, 39, 48, 51], 108, 0, 0, 0)]
  | 72 => [(.iload_n 3, 0, 0, 0, 0), (.iload 4, 0, 0, 0, 0), (.iconst (-1), 0, 0, 0, (-1)), (.ixor, 0, 0, 0, 0), (.iand, 0, 0, 0, 0), (.invokestatic 184, 236, 1, 0, 0), (.ireturn, 0, 0, 0, 0)]
  | 82 => [(.aload_n 0, 0, 0, 0, 0), (.getfield 43, 11, 5, 0, 0), (.iload_n 3, 0, 0, 0, 0), (.invokevirtual 189, 23, 1, 2, 0), (.ireturn, 0, 0, 0, 0)]
  | 91 => [(.iload 4, 0, 0, 0, 0), (.ireturn, 0, 0, 0, 0)]
  | 94 => [(.aload_n 0, 0, 0, 0, 0), (.getfield 12, 11, 0, 0, 0), (.iload_n 3, 0, 0, 0, 0), (.iload 4, 0, 0, 0, 0), (.iconst (-1), 0, 0, 0, (-1)), (.ixor, 0, 0, 0, 0), (.iand, 0, 0, 0, 0), (.invokevirtual 192, 100, 1, 10, 0), (.ireturn, 0, 0, 0, 0)]
  | 108 => [(.iconst (-1), 0, 0, 0, (-1)), (.ireturn, 0, 0, 0, 0)]
  | _ => []
theorem kX11_falls (pc : Nat) : chk 119 (bX11_falls pc) pc = true := by
  unfold bX11_falls; split
  · decide +kernel
  · decide +kernel
  · decide +kernel
  · decide +kernel
  · decide +kernel
  · decide +kernel
  · decide +kernel
  · rfl
def bX11_round : Nat → List Ins := fun pc => match pc with
  | 0 => [(.iload_n 1, 0, 0, 0, 0), (.aload_n 0, 0, 0, 0, 0), (.getfield 12, 11, 0, 0, 0), (.getfield 111, 10, 5, 0, 0), (.invokestatic 177, 143, 2, 0, 0), (.ifCond .eq 28, 39, 0, 0, 0), (.aload_n 0, 0, 0, 0, 0), (.getfield 12, 11, 0, 0, 0), (.iload_n 2, 0, 0, 0, 0), (.invokevirtual 103, 95, 1, 10, 0), (.ifCond .eq 17, 39, 0, 0, 0), (.aload_n 0, 0, 0, 0, 0), (.getfield 12, 11, 0, 0, 0), (.getfield 111, 10, 5, 0, 0), (.iload_n 2, 0, 0, 0, 0), (.ishr, 0, 0, 0, 0), (.iconst 1, 0, 0, 0, 1), (.iand, 0, 0, 0, 0), (.ifCond .ne 5, 41, 0, 0, 0)]
  | 39 => [(.iconst (-1), 0, 0, 0, (-1)), (.ireturn, 0, 0, 0, 0)]
  | 41 => [(.aload_n 0, 0, 0, 0, 0), (.invokevirtual 155, 141, 0, 11, 0), (.aload_n 0, 0, 0, 0, 0), (.getfield 43, 11, 5, 0, 0), (.aload_n 0, 0, 0, 0, 0), (.getfield 12, 11, 0, 0, 0), (.getfield 111, 10, 5, 0, 0), (.iload_n 1, 0, 0, 0, 0), (.iconst (-1), 0, 0, 0, (-1)), (.ixor, 0, 0, 0, 0), (.iand, 0, 0, 0, 0), (.iload_n 2, 0, 0, 0, 0), (.invokevirtual 195, 24, 2, 2, 0), (.ireturn, 0, 0, 0, 0)]
  | _ => []
theorem kX11_round (pc : Nat) : chk 120 (bX11_round pc) pc = true := by
  unfold bX11_round; split
  · decide +kernel
  · decide +kernel
  · decide +kernel
  · rfl
def bX11_take : Nat → List Ins := fun pc => match pc with
  | 0 => [(.iload_n 1, 0, 0, 0, 0), (.aload_n 0, 0, 0, 0, 0), (.getfield 12, 11, 0, 0, 0), (.getfield 111, 10, 5, 0, 0), (.invokestatic 177, 143, 2, 0, 0), (.ifCond .ne 9, 20, 0, 0, 0), (.aload_n 0, 0, 0, 0, 0), (.iconst (-1), 0, 0, 0, (-1)), (.invokevirtual 82, 137, 1, 11, 0), (.ireturn, 0, 0, 0, 0)]
  | 20 => [(.aload_n 0, 0, 0, 0, 0), (.invokevirtual 155, 141, 0, 11, 0), (.aload_n 0, 0, 0, 0, 0), (.getfield 12, 11, 0, 0, 0), (.getfield 111, 10, 5, 0, 0), (.istore_n 2, 0, 0, 0, 0), (.aload_n 0, 0, 0, 0, 0), (.getfield 12, 11, 0, 0, 0), (.aload_n 0, 0, 0, 0, 0), (.getfield 43, 11, 5, 0, 0), (.iload_n 2, 0, 0, 0, 0), (.iload_n 1, 0, 0, 0, 0), (.iconst (-1), 0, 0, 0, (-1)), (.ixor, 0, 0, 0, 0), (.iand, 0, 0, 0, 0), (.invokevirtual 181, 22, 1, 2, 0), (.putfield 111, 10, 5, 0, 0), (.aload_n 0, 0, 0, 0, 0), (.iconst 1, 0, 0, 0, 1), (.putfield 71, 11, 12, 1, 0), (.aload_n 0, 0, 0, 0, 0), (.iload_n 2, 0, 0, 0, 0), (.aload_n 0, 0, 0, 0, 0), (.getfield 12, 11, 0, 0, 0), (.getfield 111, 10, 5, 0, 0), (.iconst (-1), 0, 0, 0, (-1)), (.ixor, 0, 0, 0, 0), (.iand, 0, 0, 0, 0), (.invokestatic 184, 236, 1, 0, 0), (.invokevirtual 90, 138, 1, 11, 0), (.ireturn, 0, 0, 0, 0)]
  | _ => []
theorem kX11_take (pc : Nat) : chk 121 (bX11_take pc) pc = true := by
  unfold bX11_take; split
  · decide +kernel
  · decide +kernel
  · rfl
def bX11_farm : Nat → List Ins := fun pc => match pc with
  | 0 => [(.iload_n 1, 0, 0, 0, 0), (.aload_n 0, 0, 0, 0, 0), (.getfield 12, 11, 0, 0, 0), (.getfield 111, 10, 5, 0, 0), (.invokestatic 177, 143, 2, 0, 0), (.ifCond .eq 12, 23, 0, 0, 0), (.iload_n 2, 0, 0, 0, 0), (.iconst 0, 0, 0, 0, 0), (.iconst 3, 0, 0, 0, 3), (.invokestatic 99, 142, 3, 0, 0), (.ifCond .ne 5, 25, 0, 0, 0)]
  | 23 => [(.iconst (-1), 0, 0, 0, (-1)), (.ireturn, 0, 0, 0, 0)]
  | 25 => [(.aload_n 0, 0, 0, 0, 0), (.invokevirtual 155, 141, 0, 11, 0), (.aload_n 0, 0, 0, 0, 0), (.getfield 12, 11, 0, 0, 0), (.getfield 111, 10, 5, 0, 0), (.aload_n 0, 0, 0, 0, 0), (.getfield 43, 11, 5, 0, 0), (.aload_n 0, 0, 0, 0, 0), (.getfield 12, 11, 0, 0, 0), (.getfield 111, 10, 5, 0, 0), (.iload_n 1, 0, 0, 0, 0), (.iconst (-1), 0, 0, 0, (-1)), (.ixor, 0, 0, 0, 0), (.iand, 0, 0, 0, 0), (.invokevirtual 181, 22, 1, 2, 0), (.iconst (-1), 0, 0, 0, (-1)), (.ixor, 0, 0, 0, 0), (.iand, 0, 0, 0, 0), (.istore_n 3, 0, 0, 0, 0), (.iconst 0, 0, 0, 0, 0), (.istore 4, 0, 0, 0, 0), (.iconst 0, 0, 0, 0, 0), (.istore 5, 0, 0, 0, 0)]
  | 64 => [(.iload 5, 0, 0, 0, 0), (.aload_n 0, 0, 0, 0, 0), (.getfield 12, 11, 0, 0, 0), (.getfield 75, 10, 3, 0, 0), (.if_icmp .ge 35, 108, 0, 0, 0), (.iload_n 3, 0, 0, 0, 0), (.iload 5, 0, 0, 0, 0), (.ishr, 0, 0, 0, 0), (.iconst 1, 0, 0, 0, 1), (.iand, 0, 0, 0, 0), (.ifCond .eq 20, 102, 0, 0, 0), (.aload_n 0, 0, 0, 0, 0), (.getfield 12, 11, 0, 0, 0), (.iload 5, 0, 0, 0, 0), (.iconst 5, 0, 0, 0, 5), (.invokevirtual 114, 90, 2, 10, 0), (.iload_n 2, 0, 0, 0, 0), (.if_icmp .ne 6, 102, 0, 0, 0), (.iinc 4 1, 0, 0, 0, 1)]
  | 102 => [(.iinc 5 1, 0, 0, 0, 1), (.goto (-41), 64, 0, 0, 0)]
  | 108 => [(.iload 4, 0, 0, 0, 0), (.ireturn, 0, 0, 0, 0)]
  | _ => []
theorem kX11_farm (pc : Nat) : chk 122 (bX11_farm pc) pc = true := by
  unfold bX11_farm; split
  · decide +kernel
  · decide +kernel
  · decide +kernel
  · decide +kernel
  · decide +kernel
  · decide +kernel
  · rfl
def bX11_once : Nat → List Ins := fun pc => match pc with
  | 0 => [(.aload_n 0, 0, 0, 0, 0), (.invokevirtual 155, 141, 0, 11, 0), (.aload_n 0, 0, 0, 0, 0), (.getfield 52, 11, 6, 0, 0), (.invokevirtual 198, 74, 0, 9, 0), (.iload_n 1, 0, 0, 0, 0), (.invokevirtual 202, 34, 1, 4, 0), (.ireturn, 0, 0, 0, 0)]
  | _ => []
theorem kX11_once (pc : Nat) : chk 123 (bX11_once pc) pc = true := by
  unfold bX11_once; split
  · decide +kernel
  · rfl
def bX11_oneByOne : Nat → List Ins := fun pc => match pc with
  | 0 => [(.aload_n 0, 0, 0, 0, 0), (.invokevirtual 155, 141, 0, 11, 0), (.aload_n 0, 0, 0, 0, 0), (.getfield 52, 11, 6, 0, 0), (.invokevirtual 207, 75, 0, 9, 0), (.iload_n 1, 0, 0, 0, 0), (.invokevirtual 202, 34, 1, 4, 0), (.ireturn, 0, 0, 0, 0)]
  | _ => []
theorem kX11_oneByOne (pc : Nat) : chk 124 (bX11_oneByOne pc) pc = true := by
  unfold bX11_oneByOne; split
  · decide +kernel
  · rfl
def bX11_order : Nat → List Ins := fun pc => match pc with
  | 0 => [(.aload_n 0, 0, 0, 0, 0), (.invokevirtual 155, 141, 0, 11, 0), (.aload_n 0, 0, 0, 0, 0), (.getfield 52, 11, 6, 0, 0), (.invokevirtual 207, 75, 0, 9, 0), (.pop, 0, 0, 0, 0), (.aload_n 0, 0, 0, 0, 0), (.getfield 52, 11, 6, 0, 0), (.iload_n 1, 0, 0, 0, 0), (.invokevirtual 210, 79, 1, 9, 0), (.ireturn, 0, 0, 0, 0)]
  | _ => []
theorem kX11_order (pc : Nat) : chk 125 (bX11_order pc) pc = true := by
  unfold bX11_order; split
  · decide +kernel
  · rfl
def bX11_fell : Nat → List Ins := fun pc => match pc with
  | 0 => [(.aload_n 0, 0, 0, 0, 0), (.invokevirtual 155, 141, 0, 11, 0), (.aload_n 0, 0, 0, 0, 0), (.getfield 52, 11, 6, 0, 0), (.invokevirtual 213, 80, 0, 9, 0), (.iload_n 1, 0, 0, 0, 0), (.invokevirtual 217, 11, 1, 1, 0), (.ireturn, 0, 0, 0, 0)]
  | _ => []
theorem kX11_fell (pc : Nat) : chk 126 (bX11_fell pc) pc = true := by
  unfold bX11_fell; split
  · decide +kernel
  · rfl
def bX11_gate : Nat → List Ins := fun pc => match pc with
  | 0 => [(.iload_n 1, 0, 0, 0, 0), (.ifCond .lt 31, 32, 0, 0, 0), (.iload_n 1, 0, 0, 0, 0), (.iload_n 3, 0, 0, 0, 0), (.if_icmp .gt 26, 32, 0, 0, 0), (.iload_n 3, 0, 0, 0, 0), (.bipush 12, 0, 0, 0, 12), (.if_icmp .ge 20, 32, 0, 0, 0), (.iload_n 2, 0, 0, 0, 0), (.ifCond .lt 16, 32, 0, 0, 0), (.iload_n 2, 0, 0, 0, 0), (.iload 4, 0, 0, 0, 0), (.if_icmp .gt 10, 32, 0, 0, 0), (.iload 4, 0, 0, 0, 0), (.bipush 8, 0, 0, 0, 8), (.if_icmp .lt 5, 34, 0, 0, 0)]
  | 32 => [(.iconst (-1), 0, 0, 0, (-1)), (.ireturn, 0, 0, 0, 0)]
  | 34 => [(.iconst 0, 0, 0, 0, 0), (.istore 6, 0, 0, 0, 0), (.iconst 0, 0, 0, 0, 0), (.istore 7, 0, 0, 0, 0)]
  | 40 => [(.iload 7, 0, 0, 0, 0), (.aload_n 0, 0, 0, 0, 0), (.getfield 12, 11, 0, 0, 0), (.getfield 75, 10, 3, 0, 0), (.if_icmp .ge 43, 92, 0, 0, 0), (.aload_n 0, 0, 0, 0, 0), (.getfield 12, 11, 0, 0, 0), (.iload 7, 0, 0, 0, 0), (.iload_n 1, 0, 0, 0, 0), (.iload_n 2, 0, 0, 0, 0), (.iload_n 3, 0, 0, 0, 0), (.iload_n 1, 0, 0, 0, 0), (.isub, 0, 0, 0, 0), (.iconst 1, 0, 0, 0, 1), (.iadd, 0, 0, 0, 0), (.iload 4, 0, 0, 0, 0), (.iload_n 2, 0, 0, 0, 0), (.isub, 0, 0, 0, 0), (.iconst 1, 0, 0, 0, 1), (.iadd, 0, 0, 0, 0), (.invokevirtual 151, 98, 5, 10, 0), (.ifCond .eq 12, 86, 0, 0, 0), (.iload 6, 0, 0, 0, 0), (.iconst 1, 0, 0, 0, 1), (.iload 7, 0, 0, 0, 0), (.ishl, 0, 0, 0, 0), (.ior, 0, 0, 0, 0), (.istore 6, 0, 0, 0, 0)]
  | 86 => [(.iinc 7 1, 0, 0, 0, 1), (.goto (-49), 40, 0, 0, 0)]
  | 92 => [(.iload 6, 0, 0, 0, 0), (.aload_n 0, 0, 0, 0, 0), (.getfield 12, 11, 0, 0, 0), (.getfield 111, 10, 5, 0, 0), (.iand, 0, 0, 0, 0), (.istore 6, 0, 0, 0, 0), (.aload_n 0, 0, 0, 0, 0), (.invokevirtual 155, 141, 0, 11, 0), (.aload_n 0, 0, 0, 0, 0), (.getfield 43, 11, 5, 0, 0), (.aload_n 0, 0, 0, 0, 0), (.getfield 12, 11, 0, 0, 0), (.getfield 111, 10, 5, 0, 0), (.iload 6, 0, 0, 0, 0), (.iconst (-1), 0, 0, 0, (-1)), (.ixor, 0, 0, 0, 0), (.iand, 0, 0, 0, 0), (.invokevirtual 181, 22, 1, 2, 0), (.istore 7, 0, 0, 0, 0), (.iload 5, 0, 0, 0, 0), (.tableswitch 50 0 2 #[25, 41, 47], 181, 0, 0, 0)]
  | 156 => [(.aload_n 0, 0, 0, 0, 0), (.getfield 12, 11, 0, 0, 0), (.getfield 111, 10, 5, 0, 0), (.iload 7, 0, 0, 0, 0), (.iconst (-1), 0, 0, 0, (-1)), (.ixor, 0, 0, 0, 0), (.iand, 0, 0, 0, 0), (.invokestatic 184, 236, 1, 0, 0), (.ireturn, 0, 0, 0, 0)]
  | 172 => [(.iload 6, 0, 0, 0, 0), (.invokestatic 184, 236, 1, 0, 0), (.ireturn, 0, 0, 0, 0)]
  | 178 => [(.iload 7, 0, 0, 0, 0), (.ireturn, 0, 0, 0, 0)]
  | 181 => [(.iconst (-1), 0, 0, 0, (-1)), (.ireturn, 0, 0, 0, 0)]
  | _ => []
theorem kX11_gate (pc : Nat) : chk 127 (bX11_gate pc) pc = true := by
  unfold bX11_gate; split
  · decide +kernel
  · decide +kernel
  · decide +kernel
  · decide +kernel
  · decide +kernel
  · decide +kernel
  · decide +kernel
  · decide +kernel
  · decide +kernel
  · decide +kernel
  · rfl
def bX11_mend : Nat → List Ins := fun pc => match pc with
  | 0 => [(.aload_n 0, 0, 0, 0, 0), (.invokevirtual 155, 141, 0, 11, 0), (.aload_n 0, 0, 0, 0, 0), (.getfield 52, 11, 6, 0, 0), (.invokevirtual 220, 81, 0, 9, 0), (.iload_n 1, 0, 0, 0, 0), (.invokevirtual 217, 11, 1, 1, 0), (.ireturn, 0, 0, 0, 0)]
  | _ => []
theorem kX11_mend (pc : Nat) : chk 128 (bX11_mend pc) pc = true := by
  unfold bX11_mend; split
  · decide +kernel
  · rfl
def bX11_game : Nat → List Ins := fun pc => match pc with
  | 0 => [(.aload_n 0, 0, 0, 0, 0), (.invokevirtual 155, 141, 0, 11, 0), (.aload_n 0, 0, 0, 0, 0), (.getfield 52, 11, 6, 0, 0), (.invokevirtual 223, 82, 0, 9, 0), (.iload_n 1, 0, 0, 0, 0), (.tableswitch 61 0 2 #[28, 45, 53], 73, 0, 0, 0)]
  | 40 => [(.aload_n 0, 0, 0, 0, 0), (.getfield 52, 11, 6, 0, 0), (.getfield 226, 9, 10, 0, 0), (.iconst (-1), 0, 0, 0, (-1)), (.if_icmp .ne 7, 55, 0, 0, 0), (.iconst 0, 0, 0, 0, 0), (.goto 4, 56, 0, 0, 0)]
  | 55 => [(.iconst 1, 0, 0, 0, 1)]
  | 56 => [(.ireturn, 0, 0, 0, 0)]
  | 57 => [(.aload_n 0, 0, 0, 0, 0), (.getfield 52, 11, 6, 0, 0), (.getfield 226, 9, 10, 0, 0), (.ireturn, 0, 0, 0, 0)]
  | 65 => [(.aload_n 0, 0, 0, 0, 0), (.getfield 52, 11, 6, 0, 0), (.getfield 229, 9, 11, 0, 0), (.ireturn, 0, 0, 0, 0)]
  | 73 => [(.iconst (-1), 0, 0, 0, (-1)), (.ireturn, 0, 0, 0, 0)]
  | _ => []
theorem kX11_game (pc : Nat) : chk 129 (bX11_game pc) pc = true := by
  unfold bX11_game; split
  · decide +kernel
  · decide +kernel
  · decide +kernel
  · decide +kernel
  · decide +kernel
  · decide +kernel
  · decide +kernel
  · rfl
def bX11_night : Nat → List Ins := fun pc => match pc with
  | 0 => [(.iload_n 1, 0, 0, 0, 0), (.aload_n 0, 0, 0, 0, 0), (.getfield 12, 11, 0, 0, 0), (.getfield 111, 10, 5, 0, 0), (.invokestatic 177, 143, 2, 0, 0), (.ifCond .ne 5, 16, 0, 0, 0), (.iconst (-1), 0, 0, 0, (-1)), (.ireturn, 0, 0, 0, 0)]
  | 16 => [(.aload_n 0, 0, 0, 0, 0), (.invokevirtual 155, 141, 0, 11, 0), (.iload_n 2, 0, 0, 0, 0), (.tableswitch 99 0 3 #[31, 48, 65, 82], 120, 0, 0, 0)]
  | 52 => [(.aload_n 0, 0, 0, 0, 0), (.getfield 43, 11, 5, 0, 0), (.aload_n 0, 0, 0, 0, 0), (.getfield 12, 11, 0, 0, 0), (.getfield 111, 10, 5, 0, 0), (.iload_n 1, 0, 0, 0, 0), (.iconst 0, 0, 0, 0, 0), (.invokevirtual 232, 25, 3, 2, 0), (.ireturn, 0, 0, 0, 0)]
  | 69 => [(.aload_n 0, 0, 0, 0, 0), (.getfield 43, 11, 5, 0, 0), (.aload_n 0, 0, 0, 0, 0), (.getfield 12, 11, 0, 0, 0), (.getfield 111, 10, 5, 0, 0), (.iload_n 1, 0, 0, 0, 0), (.iconst 1, 0, 0, 0, 1), (.invokevirtual 232, 25, 3, 2, 0), (.ireturn, 0, 0, 0, 0)]
  | 86 => [(.aload_n 0, 0, 0, 0, 0), (.getfield 43, 11, 5, 0, 0), (.aload_n 0, 0, 0, 0, 0), (.getfield 12, 11, 0, 0, 0), (.getfield 111, 10, 5, 0, 0), (.iload_n 1, 0, 0, 0, 0), (.iconst 0, 0, 0, 0, 0), (.invokevirtual 236, 26, 3, 2, 0), (.ireturn, 0, 0, 0, 0)]
  | 103 => [(.aload_n 0, 0, 0, 0, 0), (.getfield 43, 11, 5, 0, 0), (.aload_n 0, 0, 0, 0, 0), (.getfield 12, 11, 0, 0, 0), (.getfield 111, 10, 5, 0, 0), (.iload_n 1, 0, 0, 0, 0), (.iconst 1, 0, 0, 0, 1), (.invokevirtual 236, 26, 3, 2, 0), (.ireturn, 0, 0, 0, 0)]
  | 120 => [(.iconst (-1), 0, 0, 0, (-1)), (.ireturn, 0, 0, 0, 0)]
  | _ => []
theorem kX11_night (pc : Nat) : chk 130 (bX11_night pc) pc = true := by
  unfold bX11_night; split
  · decide +kernel
  · decide +kernel
  · decide +kernel
  · decide +kernel
  · decide +kernel
  · decide +kernel
  · decide +kernel
  · rfl
def bX11_winters : Nat → List Ins := fun pc => match pc with
  | 0 => [(.iload_n 1, 0, 0, 0, 0), (.iconst 0, 0, 0, 0, 0), (.ldc 239, 0, 0, 0, 1000000), (.invokestatic 99, 142, 3, 0, 0), (.ifCond .eq 13, 20, 0, 0, 0), (.iload_n 2, 0, 0, 0, 0), (.iconst 1, 0, 0, 0, 1), (.bipush 40, 0, 0, 0, 40), (.invokestatic 99, 142, 3, 0, 0), (.ifCond .ne 9, 26, 0, 0, 0)]
  | 20 => [(.aload_n 0, 0, 0, 0, 0), (.iconst (-1), 0, 0, 0, (-1)), (.invokevirtual 82, 137, 1, 11, 0), (.ireturn, 0, 0, 0, 0)]
  | 26 => [(.aload_n 0, 0, 0, 0, 0), (.invokevirtual 155, 141, 0, 11, 0), (.aload_n 0, 0, 0, 0, 0), (.aload_n 0, 0, 0, 0, 0), (.getfield 59, 11, 7, 0, 0), (.aload_n 0, 0, 0, 0, 0), (.getfield 12, 11, 0, 0, 0), (.aload_n 0, 0, 0, 0, 0), (.getfield 43, 11, 5, 0, 0), (.iload_n 1, 0, 0, 0, 0), (.iload_n 2, 0, 0, 0, 0), (.invokevirtual 240, 55, 4, 6, 0), (.invokevirtual 90, 138, 1, 11, 0), (.ireturn, 0, 0, 0, 0)]
  | _ => []
theorem kX11_winters (pc : Nat) : chk 131 (bX11_winters pc) pc = true := by
  unfold bX11_winters; split
  · decide +kernel
  · decide +kernel
  · decide +kernel
  · rfl
def bX11_winter : Nat → List Ins := fun pc => match pc with
  | 0 => [(.aload_n 0, 0, 0, 0, 0), (.getfield 59, 11, 7, 0, 0), (.iload_n 1, 0, 0, 0, 0), (.invokevirtual 244, 56, 1, 6, 0), (.ireturn, 0, 0, 0, 0)]
  | _ => []
theorem kX11_winter (pc : Nat) : chk 132 (bX11_winter pc) pc = true := by
  unfold bX11_winter; split
  · decide +kernel
  · rfl
def bX11_image : Nat → List Ins := fun pc => match pc with
  | 0 => [(.iload_n 1, 0, 0, 0, 0), (.iconst 0, 0, 0, 0, 0), (.iconst 1, 0, 0, 0, 1), (.invokestatic 99, 142, 3, 0, 0), (.ifCond .ne 9, 15, 0, 0, 0), (.aload_n 0, 0, 0, 0, 0), (.iconst (-1), 0, 0, 0, (-1)), (.invokevirtual 82, 137, 1, 11, 0), (.ireturn, 0, 0, 0, 0)]
  | 15 => [(.aload_n 0, 0, 0, 0, 0), (.getfield 16, 11, 1, 0, 0), (.iload_n 1, 0, 0, 0, 0), (.aaload, 0, 0, 0, 0), (.aload_n 0, 0, 0, 0, 0), (.getfield 12, 11, 0, 0, 0), (.invokevirtual 247, 85, 1, 10, 0), (.aload_n 0, 0, 0, 0, 0), (.getfield 20, 11, 2, 0, 0), (.iload_n 1, 0, 0, 0, 0), (.iconst 1, 0, 0, 0, 1), (.bastore, 0, 0, 0, 0), (.aload_n 0, 0, 0, 0, 0), (.iconst 0, 0, 0, 0, 0), (.invokevirtual 90, 138, 1, 11, 0), (.ireturn, 0, 0, 0, 0)]
  | _ => []
theorem kX11_image (pc : Nat) : chk 133 (bX11_image pc) pc = true := by
  unfold bX11_image; split
  · decide +kernel
  · decide +kernel
  · rfl
def bX11_back : Nat → List Ins := fun pc => match pc with
  | 0 => [(.iload_n 1, 0, 0, 0, 0), (.iconst 0, 0, 0, 0, 0), (.iconst 1, 0, 0, 0, 1), (.invokestatic 99, 142, 3, 0, 0), (.ifCond .ne 9, 15, 0, 0, 0), (.aload_n 0, 0, 0, 0, 0), (.iconst (-1), 0, 0, 0, (-1)), (.invokevirtual 82, 137, 1, 11, 0), (.ireturn, 0, 0, 0, 0)]
  | 15 => [(.aload_n 0, 0, 0, 0, 0), (.getfield 20, 11, 2, 0, 0), (.iload_n 1, 0, 0, 0, 0), (.baload, 0, 0, 0, 0), (.ifCond .ne 10, 31, 0, 0, 0), (.aload_n 0, 0, 0, 0, 0), (.bipush (-2), 0, 0, 0, (-2)), (.invokevirtual 82, 137, 1, 11, 0), (.ireturn, 0, 0, 0, 0)]
  | 31 => [(.aload_n 0, 0, 0, 0, 0), (.getfield 12, 11, 0, 0, 0), (.aload_n 0, 0, 0, 0, 0), (.getfield 16, 11, 1, 0, 0), (.iload_n 1, 0, 0, 0, 0), (.aaload, 0, 0, 0, 0), (.invokevirtual 247, 85, 1, 10, 0), (.aload_n 0, 0, 0, 0, 0), (.iconst 1, 0, 0, 0, 1), (.putfield 71, 11, 12, 1, 0), (.aload_n 0, 0, 0, 0, 0), (.iconst 0, 0, 0, 0, 0), (.invokevirtual 90, 138, 1, 11, 0), (.ireturn, 0, 0, 0, 0)]
  | _ => []
theorem kX11_back (pc : Nat) : chk 134 (bX11_back pc) pc = true := by
  unfold bX11_back; split
  · decide +kernel
  · decide +kernel
  · decide +kernel
  · rfl
def bX11_count : Nat → List Ins := fun pc => match pc with
  | 0 => [(.iload_n 1, 0, 0, 0, 0), (.iconst 5, 0, 0, 0, 5), (.bipush 9, 0, 0, 0, 9), (.invokestatic 99, 142, 3, 0, 0), (.ifCond .eq 12, 19, 0, 0, 0), (.aload_n 0, 0, 0, 0, 0), (.getfield 63, 11, 8, 0, 0), (.iload_n 1, 0, 0, 0, 0), (.iconst 5, 0, 0, 0, 5), (.isub, 0, 0, 0, 0), (.iaload, 0, 0, 0, 0), (.ireturn, 0, 0, 0, 0)]
  | 19 => [(.iload_n 1, 0, 0, 0, 0), (.bipush 11, 0, 0, 0, 11), (.bipush 13, 0, 0, 0, 13), (.invokestatic 99, 142, 3, 0, 0), (.ifCond .eq 15, 42, 0, 0, 0), (.aload_n 0, 0, 0, 0, 0), (.getfield 12, 11, 0, 0, 0), (.iload_n 1, 0, 0, 0, 0), (.bipush 11, 0, 0, 0, 11), (.isub, 0, 0, 0, 0), (.invokevirtual 251, 91, 1, 10, 0), (.ireturn, 0, 0, 0, 0)]
  | 42 => [(.iload_n 1, 0, 0, 0, 0), (.tableswitch 108 0 10 #[57, 65, 76, 84, 92, 108, 108, 108, 108, 108, 100], 151, 0, 0, 0)]
  | 100 => [(.aload_n 0, 0, 0, 0, 0), (.getfield 12, 11, 0, 0, 0), (.getfield 75, 10, 3, 0, 0), (.ireturn, 0, 0, 0, 0)]
  | 108 => [(.aload_n 0, 0, 0, 0, 0), (.getfield 12, 11, 0, 0, 0), (.getfield 111, 10, 5, 0, 0), (.invokestatic 184, 236, 1, 0, 0), (.ireturn, 0, 0, 0, 0)]
  | 119 => [(.aload_n 0, 0, 0, 0, 0), (.getfield 12, 11, 0, 0, 0), (.getfield 93, 10, 4, 0, 0), (.ireturn, 0, 0, 0, 0)]
  | 127 => [(.aload_n 0, 0, 0, 0, 0), (.getfield 12, 11, 0, 0, 0), (.getfield 134, 10, 6, 0, 0), (.ireturn, 0, 0, 0, 0)]
  | 135 => [(.aload_n 0, 0, 0, 0, 0), (.getfield 27, 11, 3, 0, 0), (.getfield 121, 8, 1, 0, 0), (.ireturn, 0, 0, 0, 0)]
  | 143 => [(.aload_n 0, 0, 0, 0, 0), (.getfield 12, 11, 0, 0, 0), (.getfield 148, 10, 7, 0, 0), (.ireturn, 0, 0, 0, 0)]
  | 151 => [(.iconst (-1), 0, 0, 0, (-1)), (.ireturn, 0, 0, 0, 0)]
  | _ => []
theorem kX11_count (pc : Nat) : chk 135 (bX11_count pc) pc = true := by
  unfold bX11_count; split
  · decide +kernel
  · decide +kernel
  · decide +kernel
  · decide +kernel
  · decide +kernel
  · decide +kernel
  · decide +kernel
  · decide +kernel
  · decide +kernel
  · decide +kernel
  · rfl
def bX11_status : Nat → List Ins := fun pc => match pc with
  | 0 => [(.aload_n 0, 0, 0, 0, 0), (.getfield 254, 11, 9, 0, 0), (.ireturn, 0, 0, 0, 0)]
  | _ => []
theorem kX11_status (pc : Nat) : chk 136 (bX11_status pc) pc = true := by
  unfold bX11_status; split
  · decide +kernel
  · rfl
def bX11_refuse : Nat → List Ins := fun pc => match pc with
  | 0 => [(.aload_n 0, 0, 0, 0, 0), (.iload_n 1, 0, 0, 0, 0), (.putfield 254, 11, 9, 0, 0), (.iload_n 1, 0, 0, 0, 0), (.bipush (-3), 0, 0, 0, (-3)), (.if_icmp .lt 9, 17, 0, 0, 0), (.iconst (-1), 0, 0, 0, (-1)), (.iload_n 1, 0, 0, 0, 0), (.isub, 0, 0, 0, 0), (.goto 7, 21, 0, 0, 0)]
  | 17 => [(.bipush (-2), 0, 0, 0, (-2)), (.iload_n 1, 0, 0, 0, 0), (.isub, 0, 0, 0, 0)]
  | 21 => [(.istore_n 2, 0, 0, 0, 0), (.iload_n 2, 0, 0, 0, 0), (.iconst 0, 0, 0, 0, 0), (.iconst 4, 0, 0, 0, 4), (.invokestatic 99, 142, 3, 0, 0), (.ifCond .eq 13, 41, 0, 0, 0), (.aload_n 0, 0, 0, 0, 0), (.getfield 63, 11, 8, 0, 0), (.iload_n 2, 0, 0, 0, 0), (.dup2, 0, 0, 0, 0), (.iaload, 0, 0, 0, 0), (.iconst 1, 0, 0, 0, 1), (.iadd, 0, 0, 0, 0), (.iastore, 0, 0, 0, 0)]
  | 41 => [(.iload_n 1, 0, 0, 0, 0), (.ireturn, 0, 0, 0, 0)]
  | _ => []
theorem kX11_refuse (pc : Nat) : chk 137 (bX11_refuse pc) pc = true := by
  unfold bX11_refuse; split
  · decide +kernel
  · decide +kernel
  · decide +kernel
  · decide +kernel
  · rfl
def bX11_accept : Nat → List Ins := fun pc => match pc with
  | 0 => [(.aload_n 0, 0, 0, 0, 0), (.iconst 0, 0, 0, 0, 0), (.putfield 254, 11, 9, 0, 0), (.iload_n 1, 0, 0, 0, 0), (.ireturn, 0, 0, 0, 0)]
  | _ => []
theorem kX11_accept (pc : Nat) : chk 138 (bX11_accept pc) pc = true := by
  unfold bX11_accept; split
  · decide +kernel
  · rfl
def bX11_hindrance : Nat → List Ins := fun pc => match pc with
  | 0 => [(.iload_n 1, 0, 0, 0, 0), (.iconst 0, 0, 0, 0, 0), (.bipush 11, 0, 0, 0, 11), (.invokestatic 99, 142, 3, 0, 0), (.ifCond .eq 66, 73, 0, 0, 0), (.iload_n 2, 0, 0, 0, 0), (.iconst 0, 0, 0, 0, 0), (.bipush 7, 0, 0, 0, 7), (.invokestatic 99, 142, 3, 0, 0), (.ifCond .eq 56, 73, 0, 0, 0), (.iload_n 3, 0, 0, 0, 0), (.iconst 1, 0, 0, 0, 1), (.bipush 6, 0, 0, 0, 6), (.invokestatic 99, 142, 3, 0, 0), (.ifCond .eq 46, 73, 0, 0, 0), (.iload 4, 0, 0, 0, 0), (.iconst 1, 0, 0, 0, 1), (.bipush 6, 0, 0, 0, 6), (.invokestatic 99, 142, 3, 0, 0), (.ifCond .eq 35, 73, 0, 0, 0), (.iload_n 1, 0, 0, 0, 0), (.iload_n 3, 0, 0, 0, 0), (.iadd, 0, 0, 0, 0), (.bipush 12, 0, 0, 0, 12), (.if_icmp .gt 27, 73, 0, 0, 0), (.iload_n 2, 0, 0, 0, 0), (.iload 4, 0, 0, 0, 0), (.iadd, 0, 0, 0, 0), (.bipush 8, 0, 0, 0, 8), (.if_icmp .gt 18, 73, 0, 0, 0), (.iload 5, 0, 0, 0, 0), (.iconst 1, 0, 0, 0, 1), (.bipush 99, 0, 0, 0, 99), (.invokestatic 99, 142, 3, 0, 0), (.ifCond .eq 7, 73, 0, 0, 0), (.iconst 1, 0, 0, 0, 1), (.goto 4, 74, 0, 0, 0)]
  | 73 => [(.iconst 0, 0, 0, 0, 0)]
  | 74 => [(.istore 7, 0, 0, 0, 0), (.iload 7, 0, 0, 0, 0), (.ifCond .ne 5, 83, 0, 0, 0), (.iconst (-1), 0, 0, 0, (-1)), (.ireturn, 0, 0, 0, 0)]
  | 83 => [(.aload_n 0, 0, 0, 0, 0), (.getfield 12, 11, 0, 0, 0), (.iload_n 1, 0, 0, 0, 0), (.iload_n 2, 0, 0, 0, 0), (.iload_n 3, 0, 0, 0, 0), (.iload 4, 0, 0, 0, 0), (.invokevirtual 257, 99, 4, 10, 0), (.ifCond .eq 6, 101, 0, 0, 0), (.bipush (-3), 0, 0, 0, (-3)), (.ireturn, 0, 0, 0, 0)]
  | 101 => [(.iload 6, 0, 0, 0, 0), (.ifCond .eq 7, 110, 0, 0, 0), (.iconst 0, 0, 0, 0, 0), (.goto 5, 112, 0, 0, 0)]
  | 110 => [(.bipush (-5), 0, 0, 0, (-5))]
  | 112 => [(.ireturn, 0, 0, 0, 0)]
  | _ => []
theorem kX11_hindrance (pc : Nat) : chk 139 (bX11_hindrance pc) pc = true := by
  unfold bX11_hindrance; split
  · decide +kernel
  · decide +kernel
  · decide +kernel
  · decide +kernel
  · decide +kernel
  · decide +kernel
  · decide +kernel
  · rfl
def bX11_addFromTape : Nat → List Ins := fun pc => match pc with
  | 0 => [(.iload_n 1, 0, 0, 0, 0), (.iconst 5, 0, 0, 0, 5), (.iadd, 0, 0, 0, 0), (.aload_n 0, 0, 0, 0, 0), (.getfield 27, 11, 3, 0, 0), (.getfield 121, 8, 1, 0, 0), (.if_icmp .le 5, 15, 0, 0, 0), (.iconst 0, 0, 0, 0, 0), (.ireturn, 1, 0, 0, 0)]
  | 15 => [(.aload_n 0, 0, 0, 0, 0), (.getfield 27, 11, 3, 0, 0), (.iload_n 1, 0, 0, 0, 0), (.invokevirtual 261, 68, 1, 8, 0), (.istore_n 2, 0, 0, 0, 0), (.aload_n 0, 0, 0, 0, 0), (.getfield 27, 11, 3, 0, 0), (.iload_n 1, 0, 0, 0, 0), (.iconst 1, 0, 0, 0, 1), (.iadd, 0, 0, 0, 0), (.invokevirtual 261, 68, 1, 8, 0), (.istore_n 3, 0, 0, 0, 0), (.aload_n 0, 0, 0, 0, 0), (.getfield 27, 11, 3, 0, 0), (.iload_n 1, 0, 0, 0, 0), (.iconst 2, 0, 0, 0, 2), (.iadd, 0, 0, 0, 0), (.invokevirtual 261, 68, 1, 8, 0), (.istore 4, 0, 0, 0, 0), (.aload_n 0, 0, 0, 0, 0), (.getfield 27, 11, 3, 0, 0), (.iload_n 1, 0, 0, 0, 0), (.iconst 3, 0, 0, 0, 3), (.iadd, 0, 0, 0, 0), (.invokevirtual 261, 68, 1, 8, 0), (.istore 5, 0, 0, 0, 0), (.aload_n 0, 0, 0, 0, 0), (.getfield 27, 11, 3, 0, 0), (.iload_n 1, 0, 0, 0, 0), (.iconst 4, 0, 0, 0, 4), (.iadd, 0, 0, 0, 0), (.invokevirtual 261, 68, 1, 8, 0), (.istore 6, 0, 0, 0, 0), (.aload_n 0, 0, 0, 0, 0), (.iload_n 2, 0, 0, 0, 0), (.iload_n 3, 0, 0, 0, 0), (.iload 4, 0, 0, 0, 0), (.iload 5, 0, 0, 0, 0), (.iload 6, 0, 0, 0, 0), (.aload_n 0, 0, 0, 0, 0), (.getfield 12, 11, 0, 0, 0), (.getfield 75, 10, 3, 0, 0), (.bipush 14, 0, 0, 0, 14), (.if_icmp .ge 7, 96, 0, 0, 0), (.iconst 1, 0, 0, 0, 1), (.goto 4, 97, 0, 0, 0)]
  | 96 => [(.iconst 0, 0, 0, 0, 0)]
  | 97 => [(.invokevirtual 78, 139, 6, 11, 0), (.ifCond .eq 5, 105, 0, 0, 0), (.iconst 0, 0, 0, 0, 0), (.ireturn, 1, 0, 0, 0)]
  | 105 => [(.aload_n 0, 0, 0, 0, 0), (.getfield 12, 11, 0, 0, 0), (.iload_n 2, 0, 0, 0, 0), (.iload_n 3, 0, 0, 0, 0), (.iload 4, 0, 0, 0, 0), (.iload 5, 0, 0, 0, 0), (.iload 6, 0, 0, 0, 0), (.invokevirtual 86, 86, 5, 10, 0), (.pop, 0, 0, 0, 0), (.iconst 1, 0, 0, 0, 1), (.ireturn, 1, 0, 0, 0)]
  | _ => []
theorem kX11_addFromTape (pc : Nat) : chk 140 (bX11_addFromTape pc) pc = true := by
  unfold bX11_addFromTape; split
  · decide +kernel
  · decide +kernel
  · decide +kernel
  · decide +kernel
  · decide +kernel
  · rfl
def bX11_refresh : Nat → List Ins := fun pc => match pc with
  | 0 => [(.aload_n 0, 0, 0, 0, 0), (.getfield 71, 11, 12, 0, 0), (.ifCond .eq 26, 30, 0, 0, 0), (.aload_n 0, 0, 0, 0, 0), (.getfield 43, 11, 5, 0, 0), (.aload_n 0, 0, 0, 0, 0), (.getfield 12, 11, 0, 0, 0), (.invokevirtual 264, 13, 1, 2, 0), (.aload_n 0, 0, 0, 0, 0), (.getfield 52, 11, 6, 0, 0), (.invokevirtual 267, 70, 0, 9, 0), (.aload_n 0, 0, 0, 0, 0), (.iconst 0, 0, 0, 0, 0), (.putfield 71, 11, 12, 1, 0)]
  | 30 => [(.return_, 0, 0, 0, 0)]
  | _ => []
theorem kX11_refresh (pc : Nat) : chk 141 (bX11_refresh pc) pc = true := by
  unfold bX11_refresh; split
  · decide +kernel
  · decide +kernel
  · rfl
def bX11_isWithin : Nat → List Ins := fun pc => match pc with
  | 0 => [(.iload_n 0, 0, 0, 0, 0), (.iload_n 1, 0, 0, 0, 0), (.if_icmp .lt 12, 14, 0, 0, 0), (.iload_n 0, 0, 0, 0, 0), (.iload_n 2, 0, 0, 0, 0), (.if_icmp .gt 7, 14, 0, 0, 0), (.iconst 1, 0, 0, 0, 1), (.goto 4, 15, 0, 0, 0)]
  | 14 => [(.iconst 0, 0, 0, 0, 0)]
  | 15 => [(.ireturn, 1, 0, 0, 0)]
  | _ => []
theorem kX11_isWithin (pc : Nat) : chk 142 (bX11_isWithin pc) pc = true := by
  unfold bX11_isWithin; split
  · decide +kernel
  · decide +kernel
  · decide +kernel
  · rfl
def bX11_isPart : Nat → List Ins := fun pc => match pc with
  | 0 => [(.iload_n 0, 0, 0, 0, 0), (.iload_n 1, 0, 0, 0, 0), (.iconst (-1), 0, 0, 0, (-1)), (.ixor, 0, 0, 0, 0), (.iand, 0, 0, 0, 0), (.ifCond .ne 7, 12, 0, 0, 0), (.iconst 1, 0, 0, 0, 1), (.goto 4, 13, 0, 0, 0)]
  | 12 => [(.iconst 0, 0, 0, 0, 0)]
  | 13 => [(.ireturn, 1, 0, 0, 0)]
  | _ => []
theorem kX11_isPart (pc : Nat) : chk 143 (bX11_isPart pc) pc = true := by
  unfold bX11_isPart; split
  · decide +kernel
  · decide +kernel
  · decide +kernel
  · rfl
