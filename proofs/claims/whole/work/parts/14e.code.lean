/-! the code of the methods, as lists (wip/gen/code.py) -/
def bX12_lies : Nat → List Ins := fun pc => match pc with
  | 0 => [(.iload_n 0, 0, 0, 0, 0), (.iload_n 1, 0, 0, 0, 0), (.if_icmp .lt 12, 14, 0, 0, 0), (.iload_n 0, 0, 0, 0, 0), (.iload_n 2, 0, 0, 0, 0), (.if_icmp .gt 7, 14, 0, 0, 0), (.iconst 1, 0, 0, 0, 1), (.goto 4, 15, 0, 0, 0)]
  | 14 => [(.iconst 0, 0, 0, 0, 0)]
  | 15 => [(.ireturn, 1, 0, 0, 0)]
  | _ => []
theorem kX12_lies (pc : Nat) : chk 144 (bX12_lies pc) pc = true := by
  unfold bX12_lies; split
  · decide +kernel
  · decide +kernel
  · decide +kernel
  · rfl
def bX12_refuses : Nat → List Ins := fun pc => match pc with
  | 0 => [(.aload_n 0, 0, 0, 0, 0), (.iload_n 1, 0, 0, 0, 0), (.putfield 3, 12, 0, 0, 0), (.aload_n 0, 0, 0, 0, 0), (.getfield 7, 12, 2, 0, 0), (.iload_n 1, 0, 0, 0, 0), (.ineg, 0, 0, 0, 0), (.dup2, 0, 0, 0, 0), (.iaload, 0, 0, 0, 0), (.iconst 1, 0, 0, 0, 1), (.iadd, 0, 0, 0, 0), (.iastore, 0, 0, 0, 0), (.iload_n 1, 0, 0, 0, 0), (.ireturn, 0, 0, 0, 0)]
  | _ => []
theorem kX12_refuses (pc : Nat) : chk 145 (bX12_refuses pc) pc = true := by
  unfold bX12_refuses; split
  · decide +kernel
  · rfl
def bX12_good : Nat → List Ins := fun pc => match pc with
  | 0 => [(.aload_n 0, 0, 0, 0, 0), (.iconst 0, 0, 0, 0, 0), (.putfield 3, 12, 0, 0, 0), (.aload_n 0, 0, 0, 0, 0), (.dup, 0, 0, 0, 0), (.getfield 11, 12, 1, 0, 0), (.iconst 1, 0, 0, 0, 1), (.iadd, 0, 0, 0, 0), (.putfield 11, 12, 1, 0, 0), (.iload_n 1, 0, 0, 0, 0), (.ireturn, 0, 0, 0, 0)]
  | _ => []
theorem kX12_good (pc : Nat) : chk 146 (bX12_good pc) pc = true := by
  unfold bX12_good; split
  · decide +kernel
  · rfl
def bX12_isIn : Nat → List Ins := fun pc => match pc with
  | 0 => [(.iload_n 0, 0, 0, 0, 0), (.iload_n 1, 0, 0, 0, 0), (.ishr, 0, 0, 0, 0), (.iconst 1, 0, 0, 0, 1), (.iand, 0, 0, 0, 0), (.iconst 1, 0, 0, 0, 1), (.if_icmp .ne 7, 13, 0, 0, 0), (.iconst 1, 0, 0, 0, 1), (.goto 4, 14, 0, 0, 0)]
  | 13 => [(.iconst 0, 0, 0, 0, 0)]
  | 14 => [(.ireturn, 1, 0, 0, 0)]
  | _ => []
theorem kX12_isIn (pc : Nat) : chk 147 (bX12_isIn pc) pc = true := by
  unfold bX12_isIn; split
  · decide +kernel
  · decide +kernel
  · decide +kernel
  · rfl
def bX12_ones : Nat → List Ins := fun pc => match pc with
  | 0 => [(.iconst 0, 0, 0, 0, 0), (.istore_n 1, 0, 0, 0, 0), (.iconst 0, 0, 0, 0, 0), (.istore_n 2, 0, 0, 0, 0)]
  | 4 => [(.iload_n 2, 0, 0, 0, 0), (.bipush 22, 0, 0, 0, 22), (.if_icmp .ge 17, 24, 0, 0, 0), (.iload_n 1, 0, 0, 0, 0), (.iload_n 0, 0, 0, 0, 0), (.iload_n 2, 0, 0, 0, 0), (.ishr, 0, 0, 0, 0), (.iconst 1, 0, 0, 0, 1), (.iand, 0, 0, 0, 0), (.iadd, 0, 0, 0, 0), (.istore_n 1, 0, 0, 0, 0), (.iinc 2 1, 0, 0, 0, 1), (.goto (-17), 4, 0, 0, 0)]
  | 24 => [(.iload_n 1, 0, 0, 0, 0), (.ireturn, 0, 0, 0, 0)]
  | _ => []
theorem kX12_ones (pc : Nat) : chk 148 (bX12_ones pc) pc = true := by
  unfold bX12_ones; split
  · decide +kernel
  · decide +kernel
  · decide +kernel
  · rfl
def bX12_image : Nat → List Ins := fun pc => match pc with
  | 0 => [(.iload_n 1, 0, 0, 0, 0), (.iconst 0, 0, 0, 0, 0), (.iconst 1, 0, 0, 0, 1), (.invokestatic 91, 144, 3, 0, 0), (.ifCond .ne 9, 15, 0, 0, 0), (.aload_n 0, 0, 0, 0, 0), (.iconst (-1), 0, 0, 0, (-1)), (.invokevirtual 95, 145, 1, 12, 0), (.ireturn, 0, 0, 0, 0)]
  | 15 => [(.iconst 0, 0, 0, 0, 0), (.istore_n 2, 0, 0, 0, 0)]
  | 17 => [(.iload_n 2, 0, 0, 0, 0), (.sipush 4968, 0, 0, 0, 4968), (.if_icmp .ge 27, 48, 0, 0, 0), (.aload_n 0, 0, 0, 0, 0), (.getfield 23, 12, 4, 0, 0), (.sipush 4968, 0, 0, 0, 4968), (.iload_n 1, 0, 0, 0, 0), (.imul, 0, 0, 0, 0), (.iload_n 2, 0, 0, 0, 0), (.iadd, 0, 0, 0, 0), (.aload_n 0, 0, 0, 0, 0), (.getfield 20, 12, 3, 0, 0), (.iload_n 2, 0, 0, 0, 0), (.iaload, 0, 0, 0, 0), (.iastore, 0, 0, 0, 0), (.iinc 2 1, 0, 0, 0, 1), (.goto (-28), 17, 0, 0, 0)]
  | 48 => [(.aload_n 0, 0, 0, 0, 0), (.getfield 26, 12, 5, 0, 0), (.iload_n 1, 0, 0, 0, 0), (.iconst 1, 0, 0, 0, 1), (.bastore, 0, 0, 0, 0), (.aload_n 0, 0, 0, 0, 0), (.iconst 0, 0, 0, 0, 0), (.invokevirtual 99, 146, 1, 12, 0), (.ireturn, 0, 0, 0, 0)]
  | _ => []
theorem kX12_image (pc : Nat) : chk 150 (bX12_image pc) pc = true := by
  unfold bX12_image; split
  · decide +kernel
  · decide +kernel
  · decide +kernel
  · decide +kernel
  · rfl
def bX12_back : Nat → List Ins := fun pc => match pc with
  | 0 => [(.iload_n 1, 0, 0, 0, 0), (.iconst 0, 0, 0, 0, 0), (.iconst 1, 0, 0, 0, 1), (.invokestatic 91, 144, 3, 0, 0), (.ifCond .ne 9, 15, 0, 0, 0), (.aload_n 0, 0, 0, 0, 0), (.iconst (-1), 0, 0, 0, (-1)), (.invokevirtual 95, 145, 1, 12, 0), (.ireturn, 0, 0, 0, 0)]
  | 15 => [(.aload_n 0, 0, 0, 0, 0), (.getfield 26, 12, 5, 0, 0), (.iload_n 1, 0, 0, 0, 0), (.baload, 0, 0, 0, 0), (.ifCond .ne 10, 31, 0, 0, 0), (.aload_n 0, 0, 0, 0, 0), (.bipush (-2), 0, 0, 0, (-2)), (.invokevirtual 95, 145, 1, 12, 0), (.ireturn, 0, 0, 0, 0)]
  | 31 => [(.iconst 0, 0, 0, 0, 0), (.istore_n 2, 0, 0, 0, 0)]
  | 33 => [(.iload_n 2, 0, 0, 0, 0), (.sipush 4968, 0, 0, 0, 4968), (.if_icmp .ge 27, 64, 0, 0, 0), (.aload_n 0, 0, 0, 0, 0), (.getfield 20, 12, 3, 0, 0), (.iload_n 2, 0, 0, 0, 0), (.aload_n 0, 0, 0, 0, 0), (.getfield 23, 12, 4, 0, 0), (.sipush 4968, 0, 0, 0, 4968), (.iload_n 1, 0, 0, 0, 0), (.imul, 0, 0, 0, 0), (.iload_n 2, 0, 0, 0, 0), (.iadd, 0, 0, 0, 0), (.iaload, 0, 0, 0, 0), (.iastore, 0, 0, 0, 0), (.iinc 2 1, 0, 0, 0, 1), (.goto (-28), 33, 0, 0, 0)]
  | 64 => [(.aload_n 0, 0, 0, 0, 0), (.iconst 0, 0, 0, 0, 0), (.invokevirtual 99, 146, 1, 12, 0), (.ireturn, 0, 0, 0, 0)]
  | _ => []
theorem kX12_back (pc : Nat) : chk 151 (bX12_back pc) pc = true := by
  unfold bX12_back; split
  · decide +kernel
  · decide +kernel
  · decide +kernel
  · decide +kernel
  · decide +kernel
  · rfl
def bX12_stones : Nat → List Ins := fun pc => match pc with
  | 0 => [(.aload_n 0, 0, 0, 0, 0), (.getfield 20, 12, 3, 0, 0), (.sipush 157, 0, 0, 0, 157), (.iaload, 0, 0, 0, 0), (.ireturn, 0, 0, 0, 0)]
  | _ => []
theorem kX12_stones (pc : Nat) : chk 152 (bX12_stones pc) pc = true := by
  unfold bX12_stones; split
  · decide +kernel
  · rfl
def bX12_spares : Nat → List Ins := fun pc => match pc with
  | 0 => [(.aload_n 0, 0, 0, 0, 0), (.getfield 20, 12, 3, 0, 0), (.sipush 158, 0, 0, 0, 158), (.iaload, 0, 0, 0, 0), (.ireturn, 0, 0, 0, 0)]
  | _ => []
theorem kX12_spares (pc : Nat) : chk 153 (bX12_spares pc) pc = true := by
  unfold bX12_spares; split
  · decide +kernel
  · rfl
def bX12_isStone : Nat → List Ins := fun pc => match pc with
  | 0 => [(.iload_n 1, 0, 0, 0, 0), (.iconst 0, 0, 0, 0, 0), (.aload_n 0, 0, 0, 0, 0), (.invokevirtual 102, 152, 0, 12, 0), (.iconst 1, 0, 0, 0, 1), (.isub, 0, 0, 0, 0), (.invokestatic 91, 144, 3, 0, 0), (.ireturn, 1, 0, 0, 0)]
  | _ => []
theorem kX12_isStone (pc : Nat) : chk 154 (bX12_isStone pc) pc = true := by
  unfold bX12_isStone; split
  · decide +kernel
  · rfl
def bX12_factOf : Nat → List Ins := fun pc => match pc with
  | 0 => [(.aload_n 0, 0, 0, 0, 0), (.getfield 20, 12, 3, 0, 0), (.bipush 7, 0, 0, 0, 7), (.iload_n 1, 0, 0, 0, 0), (.imul, 0, 0, 0, 0), (.iload_n 2, 0, 0, 0, 0), (.iadd, 0, 0, 0, 0), (.iaload, 0, 0, 0, 0), (.ireturn, 0, 0, 0, 0)]
  | _ => []
theorem kX12_factOf (pc : Nat) : chk 155 (bX12_factOf pc) pc = true := by
  unfold bX12_factOf; split
  · decide +kernel
  · rfl
def bX12_isItem : Nat → List Ins := fun pc => match pc with
  | 0 => [(.iload_n 1, 0, 0, 0, 0), (.bipush 14, 0, 0, 0, 14), (.if_icmp .ge 11, 14, 0, 0, 0), (.aload_n 0, 0, 0, 0, 0), (.iload_n 1, 0, 0, 0, 0), (.invokevirtual 106, 154, 1, 12, 0), (.goto 19, 30, 0, 0, 0)]
  | 14 => [(.iload_n 1, 0, 0, 0, 0), (.bipush 14, 0, 0, 0, 14), (.isub, 0, 0, 0, 0), (.aload_n 0, 0, 0, 0, 0), (.invokevirtual 110, 153, 0, 12, 0), (.if_icmp .ge 7, 29, 0, 0, 0), (.iconst 1, 0, 0, 0, 1), (.goto 4, 30, 0, 0, 0)]
  | 29 => [(.iconst 0, 0, 0, 0, 0)]
  | 30 => [(.ireturn, 1, 0, 0, 0)]
  | _ => []
theorem kX12_isItem (pc : Nat) : chk 156 (bX12_isItem pc) pc = true := by
  unfold bX12_isItem; split
  · decide +kernel
  · decide +kernel
  · decide +kernel
  · decide +kernel
  · rfl
def bX12_covers : Nat → List Ins := fun pc => match pc with
  | 0 => [(.iload_n 2, 0, 0, 0, 0), (.aload_n 0, 0, 0, 0, 0), (.iload_n 1, 0, 0, 0, 0), (.iconst 0, 0, 0, 0, 0), (.invokevirtual 113, 155, 2, 12, 0), (.aload_n 0, 0, 0, 0, 0), (.iload_n 1, 0, 0, 0, 0), (.iconst 0, 0, 0, 0, 0), (.invokevirtual 113, 155, 2, 12, 0), (.aload_n 0, 0, 0, 0, 0), (.iload_n 1, 0, 0, 0, 0), (.iconst 2, 0, 0, 0, 2), (.invokevirtual 113, 155, 2, 12, 0), (.iadd, 0, 0, 0, 0), (.iconst 1, 0, 0, 0, 1), (.isub, 0, 0, 0, 0), (.invokestatic 91, 144, 3, 0, 0), (.ifCond .eq 35, 60, 0, 0, 0), (.iload_n 3, 0, 0, 0, 0), (.aload_n 0, 0, 0, 0, 0), (.iload_n 1, 0, 0, 0, 0), (.iconst 1, 0, 0, 0, 1), (.invokevirtual 113, 155, 2, 12, 0), (.aload_n 0, 0, 0, 0, 0), (.iload_n 1, 0, 0, 0, 0), (.iconst 1, 0, 0, 0, 1), (.invokevirtual 113, 155, 2, 12, 0), (.aload_n 0, 0, 0, 0, 0), (.iload_n 1, 0, 0, 0, 0), (.iconst 3, 0, 0, 0, 3), (.invokevirtual 113, 155, 2, 12, 0), (.iadd, 0, 0, 0, 0), (.iconst 1, 0, 0, 0, 1), (.isub, 0, 0, 0, 0), (.invokestatic 91, 144, 3, 0, 0), (.ifCond .eq 7, 60, 0, 0, 0), (.iconst 1, 0, 0, 0, 1), (.goto 4, 61, 0, 0, 0)]
  | 60 => [(.iconst 0, 0, 0, 0, 0)]
  | 61 => [(.ireturn, 1, 0, 0, 0)]
  | _ => []
theorem kX12_covers (pc : Nat) : chk 157 (bX12_covers pc) pc = true := by
  unfold bX12_covers; split
  · decide +kernel
  · decide +kernel
  · decide +kernel
  · rfl
def bX12_canBe : Nat → List Ins := fun pc => match pc with
  | 0 => [(.iload_n 2, 0, 0, 0, 0), (.iconst 1, 0, 0, 0, 1), (.bipush 6, 0, 0, 0, 6), (.invokestatic 91, 144, 3, 0, 0), (.ifCond .eq 52, 59, 0, 0, 0), (.iload_n 3, 0, 0, 0, 0), (.iconst 1, 0, 0, 0, 1), (.bipush 6, 0, 0, 0, 6), (.invokestatic 91, 144, 3, 0, 0), (.ifCond .eq 42, 59, 0, 0, 0), (.iload_n 0, 0, 0, 0, 0), (.iconst 0, 0, 0, 0, 0), (.bipush 12, 0, 0, 0, 12), (.iload_n 2, 0, 0, 0, 0), (.isub, 0, 0, 0, 0), (.invokestatic 91, 144, 3, 0, 0), (.ifCond .eq 30, 59, 0, 0, 0), (.iload_n 1, 0, 0, 0, 0), (.iconst 0, 0, 0, 0, 0), (.bipush 8, 0, 0, 0, 8), (.iload_n 3, 0, 0, 0, 0), (.isub, 0, 0, 0, 0), (.invokestatic 91, 144, 3, 0, 0), (.ifCond .eq 18, 59, 0, 0, 0), (.iload 4, 0, 0, 0, 0), (.iconst 1, 0, 0, 0, 1), (.bipush 99, 0, 0, 0, 99), (.invokestatic 91, 144, 3, 0, 0), (.ifCond .eq 7, 59, 0, 0, 0), (.iconst 1, 0, 0, 0, 1), (.goto 4, 60, 0, 0, 0)]
  | 59 => [(.iconst 0, 0, 0, 0, 0)]
  | 60 => [(.ireturn, 1, 0, 0, 0)]
  | _ => []
theorem kX12_canBe (pc : Nat) : chk 158 (bX12_canBe pc) pc = true := by
  unfold bX12_canBe; split
  · decide +kernel
  · decide +kernel
  · decide +kernel
  · rfl
def bX12_isFree : Nat → List Ins := fun pc => match pc with
  | 0 => [(.iconst 0, 0, 0, 0, 0), (.istore 5, 0, 0, 0, 0)]
  | 3 => [(.iload 5, 0, 0, 0, 0), (.bipush 22, 0, 0, 0, 22), (.if_icmp .ge 59, 66, 0, 0, 0), (.iconst 0, 0, 0, 0, 0), (.istore 6, 0, 0, 0, 0)]
  | 13 => [(.iload 6, 0, 0, 0, 0), (.iload_n 3, 0, 0, 0, 0), (.iload 4, 0, 0, 0, 0), (.imul, 0, 0, 0, 0), (.if_icmp .ge 41, 60, 0, 0, 0), (.aload_n 0, 0, 0, 0, 0), (.iload 5, 0, 0, 0, 0), (.invokevirtual 117, 156, 1, 12, 0), (.ifCond .eq 26, 54, 0, 0, 0), (.aload_n 0, 0, 0, 0, 0), (.iload 5, 0, 0, 0, 0), (.iload_n 1, 0, 0, 0, 0), (.iload 6, 0, 0, 0, 0), (.iload_n 3, 0, 0, 0, 0), (.irem, 0, 0, 0, 0), (.iadd, 0, 0, 0, 0), (.iload_n 2, 0, 0, 0, 0), (.iload 6, 0, 0, 0, 0), (.iload_n 3, 0, 0, 0, 0), (.idiv, 0, 0, 0, 0), (.iadd, 0, 0, 0, 0), (.invokevirtual 120, 157, 3, 12, 0), (.ifCond .eq 5, 54, 0, 0, 0), (.iconst 0, 0, 0, 0, 0), (.ireturn, 1, 0, 0, 0)]
  | 54 => [(.iinc 6 1, 0, 0, 0, 1), (.goto (-44), 13, 0, 0, 0)]
  | 60 => [(.iinc 5 1, 0, 0, 0, 1), (.goto (-60), 3, 0, 0, 0)]
  | 66 => [(.iconst 1, 0, 0, 0, 1), (.ireturn, 1, 0, 0, 0)]
  | _ => []
theorem kX12_isFree (pc : Nat) : chk 159 (bX12_isFree pc) pc = true := by
  unfold bX12_isFree; split
  · decide +kernel
  · decide +kernel
  · decide +kernel
  · decide +kernel
  · decide +kernel
  · decide +kernel
  · rfl
def bX12_lays : Nat → List Ins := fun pc => match pc with
  | 0 => [(.bipush 7, 0, 0, 0, 7), (.iload_n 1, 0, 0, 0, 0), (.imul, 0, 0, 0, 0), (.istore 7, 0, 0, 0, 0), (.aload_n 0, 0, 0, 0, 0), (.getfield 20, 12, 3, 0, 0), (.iload 7, 0, 0, 0, 0), (.iload_n 2, 0, 0, 0, 0), (.iastore, 0, 0, 0, 0), (.aload_n 0, 0, 0, 0, 0), (.getfield 20, 12, 3, 0, 0), (.iload 7, 0, 0, 0, 0), (.iconst 1, 0, 0, 0, 1), (.iadd, 0, 0, 0, 0), (.iload_n 3, 0, 0, 0, 0), (.iastore, 0, 0, 0, 0), (.aload_n 0, 0, 0, 0, 0), (.getfield 20, 12, 3, 0, 0), (.iload 7, 0, 0, 0, 0), (.iconst 2, 0, 0, 0, 2), (.iadd, 0, 0, 0, 0), (.iload 4, 0, 0, 0, 0), (.iastore, 0, 0, 0, 0), (.aload_n 0, 0, 0, 0, 0), (.getfield 20, 12, 3, 0, 0), (.iload 7, 0, 0, 0, 0), (.iconst 3, 0, 0, 0, 3), (.iadd, 0, 0, 0, 0), (.iload 5, 0, 0, 0, 0), (.iastore, 0, 0, 0, 0), (.aload_n 0, 0, 0, 0, 0), (.getfield 20, 12, 3, 0, 0), (.iload 7, 0, 0, 0, 0), (.iconst 4, 0, 0, 0, 4), (.iadd, 0, 0, 0, 0), (.iload 6, 0, 0, 0, 0), (.iastore, 0, 0, 0, 0), (.aload_n 0, 0, 0, 0, 0), (.getfield 20, 12, 3, 0, 0), (.iload 7, 0, 0, 0, 0), (.iconst 5, 0, 0, 0, 5), (.iadd, 0, 0, 0, 0), (.iconst 0, 0, 0, 0, 0), (.iastore, 0, 0, 0, 0), (.aload_n 0, 0, 0, 0, 0), (.getfield 20, 12, 3, 0, 0), (.iload 7, 0, 0, 0, 0), (.bipush 6, 0, 0, 0, 6), (.iadd, 0, 0, 0, 0), (.iconst 0, 0, 0, 0, 0), (.iastore, 0, 0, 0, 0), (.return_, 0, 0, 0, 0)]
  | _ => []
theorem kX12_lays (pc : Nat) : chk 160 (bX12_lays pc) pc = true := by
  unfold bX12_lays; split
  · decide +kernel
  · rfl
def bX12_adds : Nat → List Ins := fun pc => match pc with
  | 0 => [(.aload_n 0, 0, 0, 0, 0), (.invokevirtual 102, 152, 0, 12, 0), (.istore 6, 0, 0, 0, 0), (.aload_n 0, 0, 0, 0, 0), (.iload 6, 0, 0, 0, 0), (.iload_n 1, 0, 0, 0, 0), (.iload_n 2, 0, 0, 0, 0), (.iload_n 3, 0, 0, 0, 0), (.iload 4, 0, 0, 0, 0), (.iload 5, 0, 0, 0, 0), (.invokevirtual 123, 160, 6, 12, 0), (.aload_n 0, 0, 0, 0, 0), (.getfield 20, 12, 3, 0, 0), (.sipush 159, 0, 0, 0, 159), (.dup2, 0, 0, 0, 0), (.iaload, 0, 0, 0, 0), (.iconst 1, 0, 0, 0, 1), (.iload 6, 0, 0, 0, 0), (.ishl, 0, 0, 0, 0), (.ior, 0, 0, 0, 0), (.iastore, 0, 0, 0, 0), (.aload_n 0, 0, 0, 0, 0), (.getfield 20, 12, 3, 0, 0), (.sipush 157, 0, 0, 0, 157), (.dup2, 0, 0, 0, 0), (.iaload, 0, 0, 0, 0), (.iconst 1, 0, 0, 0, 1), (.iadd, 0, 0, 0, 0), (.iastore, 0, 0, 0, 0), (.iload 6, 0, 0, 0, 0), (.ireturn, 0, 0, 0, 0)]
  | _ => []
theorem kX12_adds (pc : Nat) : chk 161 (bX12_adds pc) pc = true := by
  unfold bX12_adds; split
  · decide +kernel
  · rfl
def bX12_stone : Nat → List Ins := fun pc => match pc with
  | 0 => [(.iload_n 1, 0, 0, 0, 0), (.iload_n 2, 0, 0, 0, 0), (.iload_n 3, 0, 0, 0, 0), (.iload 4, 0, 0, 0, 0), (.iload 5, 0, 0, 0, 0), (.invokestatic 127, 158, 5, 0, 0), (.ifCond .ne 9, 19, 0, 0, 0), (.aload_n 0, 0, 0, 0, 0), (.iconst (-1), 0, 0, 0, (-1)), (.invokevirtual 95, 145, 1, 12, 0), (.ireturn, 0, 0, 0, 0)]
  | 19 => [(.aload_n 0, 0, 0, 0, 0), (.iload_n 1, 0, 0, 0, 0), (.iload_n 2, 0, 0, 0, 0), (.iload_n 3, 0, 0, 0, 0), (.iload 4, 0, 0, 0, 0), (.invokevirtual 131, 159, 4, 12, 0), (.ifCond .ne 10, 38, 0, 0, 0), (.aload_n 0, 0, 0, 0, 0), (.bipush (-3), 0, 0, 0, (-3)), (.invokevirtual 95, 145, 1, 12, 0), (.ireturn, 0, 0, 0, 0)]
  | 38 => [(.aload_n 0, 0, 0, 0, 0), (.invokevirtual 102, 152, 0, 12, 0), (.bipush 14, 0, 0, 0, 14), (.if_icmp .ne 10, 54, 0, 0, 0), (.aload_n 0, 0, 0, 0, 0), (.bipush (-5), 0, 0, 0, (-5)), (.invokevirtual 95, 145, 1, 12, 0), (.ireturn, 0, 0, 0, 0)]
  | 54 => [(.aload_n 0, 0, 0, 0, 0), (.aload_n 0, 0, 0, 0, 0), (.iload_n 1, 0, 0, 0, 0), (.iload_n 2, 0, 0, 0, 0), (.iload_n 3, 0, 0, 0, 0), (.iload 4, 0, 0, 0, 0), (.iload 5, 0, 0, 0, 0), (.invokevirtual 135, 161, 5, 12, 0), (.invokevirtual 99, 146, 1, 12, 0), (.ireturn, 0, 0, 0, 0)]
  | _ => []
theorem kX12_stone (pc : Nat) : chk 162 (bX12_stone pc) pc = true := by
  unfold bX12_stone; split
  · decide +kernel
  · decide +kernel
  · decide +kernel
  · decide +kernel
  · rfl
def bX12_spare : Nat → List Ins := fun pc => match pc with
  | 0 => [(.iload_n 1, 0, 0, 0, 0), (.iload_n 2, 0, 0, 0, 0), (.iload_n 3, 0, 0, 0, 0), (.iload 4, 0, 0, 0, 0), (.iload 5, 0, 0, 0, 0), (.invokestatic 127, 158, 5, 0, 0), (.ifCond .ne 9, 19, 0, 0, 0), (.aload_n 0, 0, 0, 0, 0), (.iconst (-1), 0, 0, 0, (-1)), (.invokevirtual 95, 145, 1, 12, 0), (.ireturn, 0, 0, 0, 0)]
  | 19 => [(.aload_n 0, 0, 0, 0, 0), (.iload_n 1, 0, 0, 0, 0), (.iload_n 2, 0, 0, 0, 0), (.iload_n 3, 0, 0, 0, 0), (.iload 4, 0, 0, 0, 0), (.invokevirtual 131, 159, 4, 12, 0), (.ifCond .ne 10, 38, 0, 0, 0), (.aload_n 0, 0, 0, 0, 0), (.bipush (-3), 0, 0, 0, (-3)), (.invokevirtual 95, 145, 1, 12, 0), (.ireturn, 0, 0, 0, 0)]
  | 38 => [(.aload_n 0, 0, 0, 0, 0), (.invokevirtual 110, 153, 0, 12, 0), (.istore 6, 0, 0, 0, 0), (.iload 6, 0, 0, 0, 0), (.bipush 8, 0, 0, 0, 8), (.if_icmp .ne 10, 58, 0, 0, 0), (.aload_n 0, 0, 0, 0, 0), (.bipush (-5), 0, 0, 0, (-5)), (.invokevirtual 95, 145, 1, 12, 0), (.ireturn, 0, 0, 0, 0)]
  | 58 => [(.aload_n 0, 0, 0, 0, 0), (.bipush 14, 0, 0, 0, 14), (.iload 6, 0, 0, 0, 0), (.iadd, 0, 0, 0, 0), (.iload_n 1, 0, 0, 0, 0), (.iload_n 2, 0, 0, 0, 0), (.iload_n 3, 0, 0, 0, 0), (.iload 4, 0, 0, 0, 0), (.iload 5, 0, 0, 0, 0), (.invokevirtual 123, 160, 6, 12, 0), (.aload_n 0, 0, 0, 0, 0), (.getfield 20, 12, 3, 0, 0), (.sipush 158, 0, 0, 0, 158), (.dup2, 0, 0, 0, 0), (.iaload, 0, 0, 0, 0), (.iconst 1, 0, 0, 0, 1), (.iadd, 0, 0, 0, 0), (.iastore, 0, 0, 0, 0), (.aload_n 0, 0, 0, 0, 0), (.iload 6, 0, 0, 0, 0), (.invokevirtual 99, 146, 1, 12, 0), (.ireturn, 0, 0, 0, 0)]
  | _ => []
theorem kX12_spare (pc : Nat) : chk 163 (bX12_spare pc) pc = true := by
  unfold bX12_spare; split
  · decide +kernel
  · decide +kernel
  · decide +kernel
  · decide +kernel
  · rfl
def bX12_put : Nat → List Ins := fun pc => match pc with
  | 0 => [(.iload_n 2, 0, 0, 0, 0), (.iconst 0, 0, 0, 0, 0), (.iconst 2, 0, 0, 0, 2), (.invokestatic 91, 144, 3, 0, 0), (.ifCond .eq 39, 45, 0, 0, 0), (.iload_n 3, 0, 0, 0, 0), (.iload_n 2, 0, 0, 0, 0), (.ifCond .ne 7, 18, 0, 0, 0), (.iconst 1, 0, 0, 0, 1), (.goto 4, 19, 0, 0, 0)]
  | 18 => [(.iconst 0, 0, 0, 0, 0)]
  | 19 => [(.iload_n 2, 0, 0, 0, 0), (.ifCond .ne 8, 28, 0, 0, 0), (.bipush 99, 0, 0, 0, 99), (.goto 14, 39, 0, 0, 0)]
  | 28 => [(.iload_n 2, 0, 0, 0, 0), (.iconst 1, 0, 0, 0, 1), (.if_icmp .ne 7, 37, 0, 0, 0), (.iconst 3, 0, 0, 0, 3), (.goto 5, 39, 0, 0, 0)]
  | 37 => [(.bipush 100, 0, 0, 0, 100)]
  | 39 => [(.invokestatic 91, 144, 3, 0, 0), (.ifCond .ne 9, 51, 0, 0, 0)]
  | 45 => [(.aload_n 0, 0, 0, 0, 0), (.iconst (-1), 0, 0, 0, (-1)), (.invokevirtual 95, 145, 1, 12, 0), (.ireturn, 0, 0, 0, 0)]
  | 51 => [(.aload_n 0, 0, 0, 0, 0), (.iload_n 1, 0, 0, 0, 0), (.invokevirtual 106, 154, 1, 12, 0), (.ifCond .ne 10, 66, 0, 0, 0), (.aload_n 0, 0, 0, 0, 0), (.bipush (-2), 0, 0, 0, (-2)), (.invokevirtual 95, 145, 1, 12, 0), (.ireturn, 0, 0, 0, 0)]
  | 66 => [(.aload_n 0, 0, 0, 0, 0), (.iload_n 1, 0, 0, 0, 0), (.iconst 4, 0, 0, 0, 4), (.iload_n 2, 0, 0, 0, 0), (.iadd, 0, 0, 0, 0), (.invokevirtual 113, 155, 2, 12, 0), (.istore 4, 0, 0, 0, 0), (.aload_n 0, 0, 0, 0, 0), (.getfield 20, 12, 3, 0, 0), (.bipush 7, 0, 0, 0, 7), (.iload_n 1, 0, 0, 0, 0), (.imul, 0, 0, 0, 0), (.iconst 4, 0, 0, 0, 4), (.iadd, 0, 0, 0, 0), (.iload_n 2, 0, 0, 0, 0), (.iadd, 0, 0, 0, 0), (.iload_n 3, 0, 0, 0, 0), (.iastore, 0, 0, 0, 0), (.aload_n 0, 0, 0, 0, 0), (.iload 4, 0, 0, 0, 0), (.invokevirtual 99, 146, 1, 12, 0), (.ireturn, 0, 0, 0, 0)]
  | _ => []
theorem kX12_put (pc : Nat) : chk 164 (bX12_put pc) pc = true := by
  unfold bX12_put; split
  · decide +kernel
  · decide +kernel
  · decide +kernel
  · decide +kernel
  · decide +kernel
  · decide +kernel
  · decide +kernel
  · decide +kernel
  · decide +kernel
  · rfl
def bX12_of : Nat → List Ins := fun pc => match pc with
  | 0 => [(.aload_n 0, 0, 0, 0, 0), (.iload_n 1, 0, 0, 0, 0), (.invokevirtual 106, 154, 1, 12, 0), (.ifCond .eq 13, 18, 0, 0, 0), (.iload_n 2, 0, 0, 0, 0), (.iconst 0, 0, 0, 0, 0), (.bipush 7, 0, 0, 0, 7), (.invokestatic 91, 144, 3, 0, 0), (.ifCond .ne 5, 20, 0, 0, 0)]
  | 18 => [(.iconst (-1), 0, 0, 0, (-1)), (.ireturn, 0, 0, 0, 0)]
  | 20 => [(.iload_n 2, 0, 0, 0, 0), (.bipush 7, 0, 0, 0, 7), (.if_icmp .ge 12, 35, 0, 0, 0), (.aload_n 0, 0, 0, 0, 0), (.iload_n 1, 0, 0, 0, 0), (.iload_n 2, 0, 0, 0, 0), (.invokevirtual 113, 155, 2, 12, 0), (.goto 15, 47, 0, 0, 0)]
  | 35 => [(.aload_n 0, 0, 0, 0, 0), (.getfield 20, 12, 3, 0, 0), (.sipush 159, 0, 0, 0, 159), (.iaload, 0, 0, 0, 0), (.iload_n 1, 0, 0, 0, 0), (.ishr, 0, 0, 0, 0), (.iconst 1, 0, 0, 0, 1), (.iand, 0, 0, 0, 0)]
  | 47 => [(.ireturn, 0, 0, 0, 0)]
  | _ => []
theorem kX12_of (pc : Nat) : chk 165 (bX12_of pc) pc = true := by
  unfold bX12_of; split
  · decide +kernel
  · decide +kernel
  · decide +kernel
  · decide +kernel
  · decide +kernel
  · rfl
def bX12_terms : Nat → List Ins := fun pc => match pc with
  | 0 => [(.iload_n 1, 0, 0, 0, 0), (.iconst 0, 0, 0, 0, 0), (.iconst 2, 0, 0, 0, 2), (.invokestatic 91, 144, 3, 0, 0), (.ifCond .eq 22, 28, 0, 0, 0), (.iload_n 2, 0, 0, 0, 0), (.iconst 0, 0, 0, 0, 0), (.iload_n 1, 0, 0, 0, 0), (.ifCond .ne 8, 20, 0, 0, 0), (.bipush 12, 0, 0, 0, 12), (.goto 5, 22, 0, 0, 0)]
  | 20 => [(.bipush 9, 0, 0, 0, 9)]
  | 22 => [(.invokestatic 91, 144, 3, 0, 0), (.ifCond .ne 9, 34, 0, 0, 0)]
  | 28 => [(.aload_n 0, 0, 0, 0, 0), (.iconst (-1), 0, 0, 0, (-1)), (.invokevirtual 95, 145, 1, 12, 0), (.ireturn, 0, 0, 0, 0)]
  | 34 => [(.aload_n 0, 0, 0, 0, 0), (.getfield 20, 12, 3, 0, 0), (.sipush 154, 0, 0, 0, 154), (.iload_n 1, 0, 0, 0, 0), (.iadd, 0, 0, 0, 0), (.iaload, 0, 0, 0, 0), (.istore_n 3, 0, 0, 0, 0), (.aload_n 0, 0, 0, 0, 0), (.getfield 20, 12, 3, 0, 0), (.sipush 154, 0, 0, 0, 154), (.iload_n 1, 0, 0, 0, 0), (.iadd, 0, 0, 0, 0), (.iload_n 2, 0, 0, 0, 0), (.iastore, 0, 0, 0, 0), (.aload_n 0, 0, 0, 0, 0), (.iload_n 3, 0, 0, 0, 0), (.invokevirtual 99, 146, 1, 12, 0), (.ireturn, 0, 0, 0, 0)]
  | _ => []
theorem kX12_terms (pc : Nat) : chk 166 (bX12_terms pc) pc = true := by
  unfold bX12_terms; split
  · decide +kernel
  · decide +kernel
  · decide +kernel
  · decide +kernel
  · decide +kernel
  · rfl
def bX12_row : Nat → List Ins := fun pc => match pc with
  | 0 => [(.aload_n 0, 0, 0, 0, 0), (.getfield 139, 12, 10, 0, 0), (.istore_n 1, 0, 0, 0, 0), (.aload_n 0, 0, 0, 0, 0), (.iconst 0, 0, 0, 0, 0), (.putfield 139, 12, 10, 0, 0), (.iload_n 1, 0, 0, 0, 0), (.ifCond .ne 10, 21, 0, 0, 0), (.aload_n 0, 0, 0, 0, 0), (.bipush (-6), 0, 0, 0, (-6)), (.invokevirtual 95, 145, 1, 12, 0), (.ireturn, 0, 0, 0, 0)]
  | 21 => [(.iconst 0, 0, 0, 0, 0), (.istore_n 2, 0, 0, 0, 0), (.aload_n 0, 0, 0, 0, 0), (.iload_n 1, 0, 0, 0, 0), (.iconst 5, 0, 0, 0, 5), (.irem, 0, 0, 0, 0), (.ifCond .ne 7, 34, 0, 0, 0), (.iconst 0, 0, 0, 0, 0), (.goto 4, 35, 0, 0, 0)]
  | 34 => [(.iconst 1, 0, 0, 0, 1)]
  | 35 => [(.putfield 142, 12, 6, 0, 0), (.iconst 0, 0, 0, 0, 0), (.istore_n 3, 0, 0, 0, 0)]
  | 40 => [(.iload_n 3, 0, 0, 0, 0), (.iconst 5, 0, 0, 0, 5), (.iadd, 0, 0, 0, 0), (.iload_n 1, 0, 0, 0, 0), (.if_icmp .gt 186, 230, 0, 0, 0), (.aload_n 0, 0, 0, 0, 0), (.getfield 34, 12, 8, 0, 0), (.iload_n 3, 0, 0, 0, 0), (.baload, 0, 0, 0, 0), (.aload_n 0, 0, 0, 0, 0), (.getfield 34, 12, 8, 0, 0), (.iload_n 3, 0, 0, 0, 0), (.iconst 1, 0, 0, 0, 1), (.iadd, 0, 0, 0, 0), (.baload, 0, 0, 0, 0), (.aload_n 0, 0, 0, 0, 0), (.getfield 34, 12, 8, 0, 0), (.iload_n 3, 0, 0, 0, 0), (.iconst 2, 0, 0, 0, 2), (.iadd, 0, 0, 0, 0), (.baload, 0, 0, 0, 0), (.aload_n 0, 0, 0, 0, 0), (.getfield 34, 12, 8, 0, 0), (.iload_n 3, 0, 0, 0, 0), (.iconst 3, 0, 0, 0, 3), (.iadd, 0, 0, 0, 0), (.baload, 0, 0, 0, 0), (.aload_n 0, 0, 0, 0, 0), (.getfield 34, 12, 8, 0, 0), (.iload_n 3, 0, 0, 0, 0), (.iconst 4, 0, 0, 0, 4), (.iadd, 0, 0, 0, 0), (.baload, 0, 0, 0, 0), (.invokestatic 127, 158, 5, 0, 0), (.ifCond .eq 53, 141, 0, 0, 0), (.aload_n 0, 0, 0, 0, 0), (.invokevirtual 102, 152, 0, 12, 0), (.bipush 14, 0, 0, 0, 14), (.if_icmp .ge 44, 141, 0, 0, 0), (.aload_n 0, 0, 0, 0, 0), (.aload_n 0, 0, 0, 0, 0), (.getfield 34, 12, 8, 0, 0), (.iload_n 3, 0, 0, 0, 0), (.baload, 0, 0, 0, 0), (.aload_n 0, 0, 0, 0, 0), (.getfield 34, 12, 8, 0, 0), (.iload_n 3, 0, 0, 0, 0), (.iconst 1, 0, 0, 0, 1), (.iadd, 0, 0, 0, 0), (.baload, 0, 0, 0, 0), (.aload_n 0, 0, 0, 0, 0), (.getfield 34, 12, 8, 0, 0), (.iload_n 3, 0, 0, 0, 0), (.iconst 2, 0, 0, 0, 2), (.iadd, 0, 0, 0, 0), (.baload, 0, 0, 0, 0), (.aload_n 0, 0, 0, 0, 0), (.getfield 34, 12, 8, 0, 0), (.iload_n 3, 0, 0, 0, 0), (.iconst 3, 0, 0, 0, 3), (.iadd, 0, 0, 0, 0), (.baload, 0, 0, 0, 0), (.invokevirtual 131, 159, 4, 12, 0), (.ifCond .eq 7, 141, 0, 0, 0), (.iconst 1, 0, 0, 0, 1), (.goto 4, 142, 0, 0, 0)]
  | 141 => [(.iconst 0, 0, 0, 0, 0)]
  | 142 => [(.istore 4, 0, 0, 0, 0), (.iload 4, 0, 0, 0, 0), (.ifCond .eq 46, 192, 0, 0, 0), (.aload_n 0, 0, 0, 0, 0), (.aload_n 0, 0, 0, 0, 0), (.getfield 34, 12, 8, 0, 0), (.iload_n 3, 0, 0, 0, 0), (.baload, 0, 0, 0, 0), (.aload_n 0, 0, 0, 0, 0), (.getfield 34, 12, 8, 0, 0), (.iload_n 3, 0, 0, 0, 0), (.iconst 1, 0, 0, 0, 1), (.iadd, 0, 0, 0, 0), (.baload, 0, 0, 0, 0), (.aload_n 0, 0, 0, 0, 0), (.getfield 34, 12, 8, 0, 0), (.iload_n 3, 0, 0, 0, 0), (.iconst 2, 0, 0, 0, 2), (.iadd, 0, 0, 0, 0), (.baload, 0, 0, 0, 0), (.aload_n 0, 0, 0, 0, 0), (.getfield 34, 12, 8, 0, 0), (.iload_n 3, 0, 0, 0, 0), (.iconst 3, 0, 0, 0, 3), (.iadd, 0, 0, 0, 0), (.baload, 0, 0, 0, 0), (.aload_n 0, 0, 0, 0, 0), (.getfield 34, 12, 8, 0, 0), (.iload_n 3, 0, 0, 0, 0), (.iconst 4, 0, 0, 0, 4), (.iadd, 0, 0, 0, 0), (.baload, 0, 0, 0, 0), (.invokevirtual 135, 161, 5, 12, 0), (.pop, 0, 0, 0, 0)]
  | 192 => [(.iload_n 2, 0, 0, 0, 0), (.iload 4, 0, 0, 0, 0), (.ifCond .eq 7, 202, 0, 0, 0), (.iconst 1, 0, 0, 0, 1), (.goto 4, 203, 0, 0, 0)]
  | 202 => [(.iconst 0, 0, 0, 0, 0)]
  | 203 => [(.iadd, 0, 0, 0, 0), (.istore_n 2, 0, 0, 0, 0), (.aload_n 0, 0, 0, 0, 0), (.dup, 0, 0, 0, 0), (.getfield 142, 12, 6, 0, 0), (.iload 4, 0, 0, 0, 0), (.ifCond .eq 7, 219, 0, 0, 0), (.iconst 0, 0, 0, 0, 0), (.goto 4, 220, 0, 0, 0)]
  | 219 => [(.iconst 1, 0, 0, 0, 1)]
  | 220 => [(.iadd, 0, 0, 0, 0), (.putfield 142, 12, 6, 0, 0), (.iinc 3 5, 0, 0, 0, 5), (.goto (-187), 40, 0, 0, 0)]
  | 230 => [(.aload_n 0, 0, 0, 0, 0), (.iload_n 2, 0, 0, 0, 0), (.invokevirtual 99, 146, 1, 12, 0), (.ireturn, 0, 0, 0, 0)]
  | _ => []
theorem kX12_row (pc : Nat) : chk 167 (bX12_row pc) pc = true := by
  unfold bX12_row; split
  · decide +kernel
  · decide +kernel
  · decide +kernel
  · decide +kernel
  · decide +kernel
  · decide +kernel
  · decide +kernel
  · decide +kernel
  · decide +kernel
  · decide +kernel
  · decide +kernel
  · decide +kernel
  · decide +kernel
  · rfl
def bX12_rubble : Nat → List Ins := fun pc => match pc with
  | 0 => [(.aload_n 0, 0, 0, 0, 0), (.getfield 142, 12, 6, 0, 0), (.ireturn, 0, 0, 0, 0)]
  | _ => []
theorem kX12_rubble (pc : Nat) : chk 168 (bX12_rubble pc) pc = true := by
  unfold bX12_rubble; split
  · decide +kernel
  · rfl
def bX12_feed : Nat → List Ins := fun pc => match pc with
  | 0 => [(.aload_n 0, 0, 0, 0, 0), (.getfield 139, 12, 10, 0, 0), (.bipush 20, 0, 0, 0, 20), (.iadd, 0, 0, 0, 0), (.sipush 400, 0, 0, 0, 400), (.if_icmp .le 5, 15, 0, 0, 0), (.iconst (-1), 0, 0, 0, (-1)), (.ireturn, 0, 0, 0, 0)]
  | 15 => [(.aload_n 0, 0, 0, 0, 0), (.getfield 37, 12, 9, 0, 0), (.iconst 0, 0, 0, 0, 0), (.iload_n 1, 0, 0, 0, 0), (.iastore, 0, 0, 0, 0), (.aload_n 0, 0, 0, 0, 0), (.getfield 37, 12, 9, 0, 0), (.iconst 1, 0, 0, 0, 1), (.iload_n 2, 0, 0, 0, 0), (.iastore, 0, 0, 0, 0), (.aload_n 0, 0, 0, 0, 0), (.getfield 37, 12, 9, 0, 0), (.iconst 2, 0, 0, 0, 2), (.iload_n 3, 0, 0, 0, 0), (.iastore, 0, 0, 0, 0), (.aload_n 0, 0, 0, 0, 0), (.getfield 37, 12, 9, 0, 0), (.iconst 3, 0, 0, 0, 3), (.iload 4, 0, 0, 0, 0), (.iastore, 0, 0, 0, 0), (.aload_n 0, 0, 0, 0, 0), (.getfield 37, 12, 9, 0, 0), (.iconst 4, 0, 0, 0, 4), (.iload 5, 0, 0, 0, 0), (.iastore, 0, 0, 0, 0), (.iconst 0, 0, 0, 0, 0), (.istore 6, 0, 0, 0, 0)]
  | 55 => [(.iload 6, 0, 0, 0, 0), (.bipush 20, 0, 0, 0, 20), (.if_icmp .ge 42, 101, 0, 0, 0), (.aload_n 0, 0, 0, 0, 0), (.getfield 34, 12, 8, 0, 0), (.aload_n 0, 0, 0, 0, 0), (.getfield 139, 12, 10, 0, 0), (.iload 6, 0, 0, 0, 0), (.iadd, 0, 0, 0, 0), (.aload_n 0, 0, 0, 0, 0), (.getfield 37, 12, 9, 0, 0), (.iload 6, 0, 0, 0, 0), (.iconst 4, 0, 0, 0, 4), (.idiv, 0, 0, 0, 0), (.iaload, 0, 0, 0, 0), (.bipush 24, 0, 0, 0, 24), (.bipush 8, 0, 0, 0, 8), (.iload 6, 0, 0, 0, 0), (.iconst 4, 0, 0, 0, 4), (.irem, 0, 0, 0, 0), (.imul, 0, 0, 0, 0), (.isub, 0, 0, 0, 0), (.ishr, 0, 0, 0, 0), (.i2b, 0, 0, 0, 0), (.bastore, 0, 0, 0, 0), (.iinc 6 1, 0, 0, 0, 1), (.goto (-43), 55, 0, 0, 0)]
  | 101 => [(.aload_n 0, 0, 0, 0, 0), (.dup, 0, 0, 0, 0), (.getfield 139, 12, 10, 0, 0), (.bipush 20, 0, 0, 0, 20), (.iadd, 0, 0, 0, 0), (.putfield 139, 12, 10, 0, 0), (.aload_n 0, 0, 0, 0, 0), (.getfield 139, 12, 10, 0, 0), (.ireturn, 0, 0, 0, 0)]
  | _ => []
theorem kX12_feed (pc : Nat) : chk 169 (bX12_feed pc) pc = true := by
  unfold bX12_feed; split
  · decide +kernel
  · decide +kernel
  · decide +kernel
  · decide +kernel
  · rfl
def bX12_end : Nat → List Ins := fun pc => match pc with
  | 0 => [(.iload_n 1, 0, 0, 0, 0), (.iconst 0, 0, 0, 0, 0), (.aload_n 0, 0, 0, 0, 0), (.getfield 139, 12, 10, 0, 0), (.invokestatic 91, 144, 3, 0, 0), (.ifCond .ne 5, 14, 0, 0, 0), (.iconst (-1), 0, 0, 0, (-1)), (.ireturn, 0, 0, 0, 0)]
  | 14 => [(.aload_n 0, 0, 0, 0, 0), (.iload_n 1, 0, 0, 0, 0), (.putfield 139, 12, 10, 0, 0), (.iload_n 1, 0, 0, 0, 0), (.ireturn, 0, 0, 0, 0)]
  | _ => []
theorem kX12_end (pc : Nat) : chk 170 (bX12_end pc) pc = true := by
  unfold bX12_end; split
  · decide +kernel
  · decide +kernel
  · rfl
def bX12_isSmall : Nat → List Ins := fun pc => match pc with
  | 0 => [(.iload_n 0, 0, 0, 0, 0), (.bipush 97, 0, 0, 0, 97), (.if_icmp .lt 13, 16, 0, 0, 0), (.iload_n 0, 0, 0, 0, 0), (.bipush 122, 0, 0, 0, 122), (.if_icmp .gt 7, 16, 0, 0, 0), (.iconst 1, 0, 0, 0, 1), (.goto 4, 17, 0, 0, 0)]
  | 16 => [(.iconst 0, 0, 0, 0, 0)]
  | 17 => [(.ireturn, 1, 0, 0, 0)]
  | _ => []
theorem kX12_isSmall (pc : Nat) : chk 171 (bX12_isSmall pc) pc = true := by
  unfold bX12_isSmall; split
  · decide +kernel
  · decide +kernel
  · decide +kernel
  · rfl
def bX12_isDigit : Nat → List Ins := fun pc => match pc with
  | 0 => [(.iload_n 0, 0, 0, 0, 0), (.bipush 48, 0, 0, 0, 48), (.if_icmp .lt 13, 16, 0, 0, 0), (.iload_n 0, 0, 0, 0, 0), (.bipush 57, 0, 0, 0, 57), (.if_icmp .gt 7, 16, 0, 0, 0), (.iconst 1, 0, 0, 0, 1), (.goto 4, 17, 0, 0, 0)]
  | 16 => [(.iconst 0, 0, 0, 0, 0)]
  | 17 => [(.ireturn, 1, 0, 0, 0)]
  | _ => []
theorem kX12_isDigit (pc : Nat) : chk 172 (bX12_isDigit pc) pc = true := by
  unfold bX12_isDigit; split
  · decide +kernel
  · decide +kernel
  · decide +kernel
  · rfl
def bX12_wordOf : Nat → List Ins := fun pc => match pc with
  | 0 => [(.iconst 1, 0, 0, 0, 1), (.istore_n 3, 0, 0, 0, 0), (.iconst 0, 0, 0, 0, 0), (.istore 4, 0, 0, 0, 0)]
  | 5 => [(.iload 4, 0, 0, 0, 0), (.aload_n 0, 0, 0, 0, 0), (.getfield 30, 12, 7, 0, 0), (.arraylength, 0, 0, 0, 0), (.if_icmp .ge 114, 126, 0, 0, 0), (.iconst 0, 0, 0, 0, 0), (.istore 5, 0, 0, 0, 0)]
  | 18 => [(.aload_n 0, 0, 0, 0, 0), (.getfield 30, 12, 7, 0, 0), (.iload 4, 0, 0, 0, 0), (.iload 5, 0, 0, 0, 0), (.iadd, 0, 0, 0, 0), (.baload, 0, 0, 0, 0), (.bipush 32, 0, 0, 0, 32), (.if_icmp .eq 9, 39, 0, 0, 0), (.iinc 5 1, 0, 0, 0, 1), (.goto (-18), 18, 0, 0, 0)]
  | 39 => [(.iload 5, 0, 0, 0, 0), (.iload_n 2, 0, 0, 0, 0), (.iload_n 1, 0, 0, 0, 0), (.isub, 0, 0, 0, 0), (.if_icmp .ne 7, 51, 0, 0, 0), (.iconst 1, 0, 0, 0, 1), (.goto 4, 52, 0, 0, 0)]
  | 51 => [(.iconst 0, 0, 0, 0, 0)]
  | 52 => [(.istore 6, 0, 0, 0, 0), (.iconst 0, 0, 0, 0, 0), (.istore 7, 0, 0, 0, 0)]
  | 57 => [(.iload 7, 0, 0, 0, 0), (.iload 5, 0, 0, 0, 0), (.if_icmp .ge 43, 104, 0, 0, 0), (.iload 6, 0, 0, 0, 0), (.ifCond .eq 38, 104, 0, 0, 0), (.aload_n 0, 0, 0, 0, 0), (.getfield 30, 12, 7, 0, 0), (.iload 4, 0, 0, 0, 0), (.iload 7, 0, 0, 0, 0), (.iadd, 0, 0, 0, 0), (.baload, 0, 0, 0, 0), (.aload_n 0, 0, 0, 0, 0), (.getfield 34, 12, 8, 0, 0), (.iload_n 1, 0, 0, 0, 0), (.iload 7, 0, 0, 0, 0), (.iadd, 0, 0, 0, 0), (.baload, 0, 0, 0, 0), (.if_icmp .ne 7, 95, 0, 0, 0), (.iconst 1, 0, 0, 0, 1), (.goto 4, 96, 0, 0, 0)]
  | 95 => [(.iconst 0, 0, 0, 0, 0)]
  | 96 => [(.istore 6, 0, 0, 0, 0), (.iinc 7 1, 0, 0, 0, 1), (.goto (-44), 57, 0, 0, 0)]
  | 104 => [(.iload 6, 0, 0, 0, 0), (.ifCond .eq 5, 111, 0, 0, 0), (.iload_n 3, 0, 0, 0, 0), (.ireturn, 0, 0, 0, 0)]
  | 111 => [(.iload 4, 0, 0, 0, 0), (.iload 5, 0, 0, 0, 0), (.iconst 1, 0, 0, 0, 1), (.iadd, 0, 0, 0, 0), (.iadd, 0, 0, 0, 0), (.istore 4, 0, 0, 0, 0), (.iinc 3 1, 0, 0, 0, 1), (.goto (-118), 5, 0, 0, 0)]
  | 126 => [(.iconst 0, 0, 0, 0, 0), (.ireturn, 0, 0, 0, 0)]
  | _ => []
theorem kX12_wordOf (pc : Nat) : chk 173 (bX12_wordOf pc) pc = true := by
  unfold bX12_wordOf; split
  · decide +kernel
  · decide +kernel
  · decide +kernel
  · decide +kernel
  · decide +kernel
  · decide +kernel
  · decide +kernel
  · decide +kernel
  · decide +kernel
  · decide +kernel
  · decide +kernel
  · decide +kernel
  · rfl
def bX12_splits : Nat → List Ins := fun pc => match pc with
  | 0 => [(.aload_n 0, 0, 0, 0, 0), (.iconst 0, 0, 0, 0, 0), (.putfield 145, 12, 15, 0, 0), (.iconst 0, 0, 0, 0, 0), (.istore_n 2, 0, 0, 0, 0)]
  | 7 => [(.iload_n 2, 0, 0, 0, 0), (.iload_n 1, 0, 0, 0, 0), (.if_icmp .ge 254, 263, 0, 0, 0), (.aload_n 0, 0, 0, 0, 0), (.getfield 34, 12, 8, 0, 0), (.iload_n 2, 0, 0, 0, 0), (.baload, 0, 0, 0, 0), (.istore_n 3, 0, 0, 0, 0), (.iload_n 3, 0, 0, 0, 0), (.bipush 32, 0, 0, 0, 32), (.if_icmp .ne 9, 31, 0, 0, 0), (.iinc 2 1, 0, 0, 0, 1), (.goto (-21), 7, 0, 0, 0)]
  | 31 => [(.iload_n 2, 0, 0, 0, 0), (.iconst 1, 0, 0, 0, 1), (.iadd, 0, 0, 0, 0), (.istore 4, 0, 0, 0, 0), (.iload_n 3, 0, 0, 0, 0), (.invokestatic 148, 171, 1, 0, 0), (.ifCond .eq 28, 68, 0, 0, 0)]
  | 43 => [(.iload 4, 0, 0, 0, 0), (.iload_n 1, 0, 0, 0, 0), (.if_icmp .ge 22, 68, 0, 0, 0), (.aload_n 0, 0, 0, 0, 0), (.getfield 34, 12, 8, 0, 0), (.iload 4, 0, 0, 0, 0), (.baload, 0, 0, 0, 0), (.invokestatic 148, 171, 1, 0, 0), (.ifCond .eq 9, 68, 0, 0, 0), (.iinc 4 1, 0, 0, 0, 1), (.goto (-22), 43, 0, 0, 0)]
  | 68 => [(.iload_n 3, 0, 0, 0, 0), (.invokestatic 151, 172, 1, 0, 0), (.ifCond .eq 28, 100, 0, 0, 0)]
  | 75 => [(.iload 4, 0, 0, 0, 0), (.iload_n 1, 0, 0, 0, 0), (.if_icmp .ge 22, 100, 0, 0, 0), (.aload_n 0, 0, 0, 0, 0), (.getfield 34, 12, 8, 0, 0), (.iload 4, 0, 0, 0, 0), (.baload, 0, 0, 0, 0), (.invokestatic 151, 172, 1, 0, 0), (.ifCond .eq 9, 100, 0, 0, 0), (.iinc 4 1, 0, 0, 0, 1), (.goto (-22), 75, 0, 0, 0)]
  | 100 => [(.aload_n 0, 0, 0, 0, 0), (.getfield 49, 12, 14, 0, 0), (.aload_n 0, 0, 0, 0, 0), (.getfield 145, 12, 15, 0, 0), (.iload_n 2, 0, 0, 0, 0), (.iastore, 0, 0, 0, 0), (.aload_n 0, 0, 0, 0, 0), (.getfield 46, 12, 13, 0, 0), (.aload_n 0, 0, 0, 0, 0), (.getfield 145, 12, 15, 0, 0), (.iconst 0, 0, 0, 0, 0), (.iastore, 0, 0, 0, 0), (.aload_n 0, 0, 0, 0, 0), (.getfield 43, 12, 12, 0, 0), (.aload_n 0, 0, 0, 0, 0), (.getfield 145, 12, 15, 0, 0), (.iload_n 3, 0, 0, 0, 0), (.invokestatic 148, 171, 1, 0, 0), (.ifCond .eq 13, 145, 0, 0, 0), (.aload_n 0, 0, 0, 0, 0), (.iload_n 2, 0, 0, 0, 0), (.iload 4, 0, 0, 0, 0), (.invokevirtual 154, 173, 2, 12, 0), (.goto 23, 165, 0, 0, 0)]
  | 145 => [(.iload_n 3, 0, 0, 0, 0), (.invokestatic 151, 172, 1, 0, 0), (.ifCond .eq 8, 157, 0, 0, 0), (.bipush 50, 0, 0, 0, 50), (.goto 11, 165, 0, 0, 0)]
  | 157 => [(.bipush 100, 0, 0, 0, 100), (.iload_n 3, 0, 0, 0, 0), (.sipush 255, 0, 0, 0, 255), (.iand, 0, 0, 0, 0), (.iadd, 0, 0, 0, 0)]
  | 165 => [(.iastore, 0, 0, 0, 0), (.iload_n 2, 0, 0, 0, 0), (.istore 5, 0, 0, 0, 0)]
  | 169 => [(.iload 5, 0, 0, 0, 0), (.iload 4, 0, 0, 0, 0), (.if_icmp .ge 74, 247, 0, 0, 0), (.iload_n 3, 0, 0, 0, 0), (.invokestatic 151, 172, 1, 0, 0), (.ifCond .eq 67, 247, 0, 0, 0), (.aload_n 0, 0, 0, 0, 0), (.getfield 46, 12, 13, 0, 0), (.aload_n 0, 0, 0, 0, 0), (.getfield 145, 12, 15, 0, 0), (.aload_n 0, 0, 0, 0, 0), (.getfield 46, 12, 13, 0, 0), (.aload_n 0, 0, 0, 0, 0), (.getfield 145, 12, 15, 0, 0), (.iaload, 0, 0, 0, 0), (.ldc 157, 0, 0, 0, 1000000), (.if_icmp .le 15, 217, 0, 0, 0), (.aload_n 0, 0, 0, 0, 0), (.getfield 46, 12, 13, 0, 0), (.aload_n 0, 0, 0, 0, 0), (.getfield 145, 12, 15, 0, 0), (.iaload, 0, 0, 0, 0), (.goto 26, 240, 0, 0, 0)]
  | 217 => [(.bipush 10, 0, 0, 0, 10), (.aload_n 0, 0, 0, 0, 0), (.getfield 46, 12, 13, 0, 0), (.aload_n 0, 0, 0, 0, 0), (.getfield 145, 12, 15, 0, 0), (.iaload, 0, 0, 0, 0), (.imul, 0, 0, 0, 0), (.aload_n 0, 0, 0, 0, 0), (.getfield 34, 12, 8, 0, 0), (.iload 5, 0, 0, 0, 0), (.baload, 0, 0, 0, 0), (.iadd, 0, 0, 0, 0), (.bipush 48, 0, 0, 0, 48), (.isub, 0, 0, 0, 0)]
  | 240 => [(.iastore, 0, 0, 0, 0), (.iinc 5 1, 0, 0, 0, 1), (.goto (-75), 169, 0, 0, 0)]
  | 247 => [(.aload_n 0, 0, 0, 0, 0), (.dup, 0, 0, 0, 0), (.getfield 145, 12, 15, 0, 0), (.iconst 1, 0, 0, 0, 1), (.iadd, 0, 0, 0, 0), (.putfield 145, 12, 15, 0, 0), (.iload 4, 0, 0, 0, 0), (.istore_n 2, 0, 0, 0, 0), (.goto (-253), 7, 0, 0, 0)]
  | 263 => [(.aload_n 0, 0, 0, 0, 0), (.getfield 49, 12, 14, 0, 0), (.aload_n 0, 0, 0, 0, 0), (.getfield 145, 12, 15, 0, 0), (.iload_n 1, 0, 0, 0, 0), (.iastore, 0, 0, 0, 0), (.aload_n 0, 0, 0, 0, 0), (.getfield 43, 12, 12, 0, 0), (.aload_n 0, 0, 0, 0, 0), (.getfield 145, 12, 15, 0, 0), (.iconst 0, 0, 0, 0, 0), (.iastore, 0, 0, 0, 0), (.aload_n 0, 0, 0, 0, 0), (.getfield 46, 12, 13, 0, 0), (.aload_n 0, 0, 0, 0, 0), (.getfield 145, 12, 15, 0, 0), (.iconst 0, 0, 0, 0, 0), (.iastore, 0, 0, 0, 0), (.return_, 0, 0, 0, 0)]
  | _ => []
theorem kX12_splits (pc : Nat) : chk 174 (bX12_splits pc) pc = true := by
  unfold bX12_splits; split
  · decide +kernel
  · decide +kernel
  · decide +kernel
  · decide +kernel
  · decide +kernel
  · decide +kernel
  · decide +kernel
  · decide +kernel
  · decide +kernel
  · decide +kernel
  · decide +kernel
  · decide +kernel
  · decide +kernel
  · decide +kernel
  · decide +kernel
  · rfl
def bX12_fine : Nat → List Ins := fun pc => match pc with
  | 0 => [(.aload_n 0, 0, 0, 0, 0), (.getfield 158, 12, 18, 0, 0), (.iconst (-1), 0, 0, 0, (-1)), (.if_icmp .ne 7, 12, 0, 0, 0), (.iconst 1, 0, 0, 0, 1), (.goto 4, 13, 0, 0, 0)]
  | 12 => [(.iconst 0, 0, 0, 0, 0)]
  | 13 => [(.ireturn, 1, 0, 0, 0)]
  | _ => []
theorem kX12_fine (pc : Nat) : chk 175 (bX12_fine pc) pc = true := by
  unfold bX12_fine; split
  · decide +kernel
  · decide +kernel
  · decide +kernel
  · rfl
def bX12_faults : Nat → List Ins := fun pc => match pc with
  | 0 => [(.aload_n 0, 0, 0, 0, 0), (.invokevirtual 161, 175, 0, 12, 0), (.ifCond .eq 16, 20, 0, 0, 0), (.aload_n 0, 0, 0, 0, 0), (.aload_n 0, 0, 0, 0, 0), (.getfield 49, 12, 14, 0, 0), (.aload_n 0, 0, 0, 0, 0), (.getfield 165, 12, 16, 0, 0), (.iaload, 0, 0, 0, 0), (.putfield 158, 12, 18, 0, 0)]
  | 20 => [(.return_, 0, 0, 0, 0)]
  | _ => []
theorem kX12_faults (pc : Nat) : chk 176 (bX12_faults pc) pc = true := by
  unfold bX12_faults; split
  · decide +kernel
  · decide +kernel
  · rfl
def bX12_takes0 : Nat → List Ins := fun pc => match pc with
  | 0 => [(.aload_n 0, 0, 0, 0, 0), (.invokevirtual 161, 175, 0, 12, 0), (.ifCond .eq 20, 24, 0, 0, 0), (.aload_n 0, 0, 0, 0, 0), (.getfield 43, 12, 12, 0, 0), (.aload_n 0, 0, 0, 0, 0), (.getfield 165, 12, 16, 0, 0), (.iaload, 0, 0, 0, 0), (.iload_n 1, 0, 0, 0, 0), (.if_icmp .ne 7, 24, 0, 0, 0), (.iconst 1, 0, 0, 0, 1), (.goto 4, 25, 0, 0, 0)]
  | 24 => [(.iconst 0, 0, 0, 0, 0)]
  | 25 => [(.istore_n 2, 0, 0, 0, 0), (.iload_n 2, 0, 0, 0, 0), (.ifCond .eq 13, 40, 0, 0, 0), (.aload_n 0, 0, 0, 0, 0), (.dup, 0, 0, 0, 0), (.getfield 165, 12, 16, 0, 0), (.iconst 1, 0, 0, 0, 1), (.iadd, 0, 0, 0, 0), (.putfield 165, 12, 16, 0, 0)]
  | 40 => [(.iload_n 2, 0, 0, 0, 0), (.ireturn, 1, 0, 0, 0)]
  | _ => []
theorem kX12_takes0 (pc : Nat) : chk 177 (bX12_takes0 pc) pc = true := by
  unfold bX12_takes0; split
  · decide +kernel
  · decide +kernel
  · decide +kernel
  · decide +kernel
  · rfl
def bX12_must : Nat → List Ins := fun pc => match pc with
  | 0 => [(.aload_n 0, 0, 0, 0, 0), (.iload_n 1, 0, 0, 0, 0), (.invokevirtual 168, 177, 1, 12, 0), (.ifCond .ne 7, 12, 0, 0, 0), (.aload_n 0, 0, 0, 0, 0), (.invokevirtual 171, 176, 0, 12, 0)]
  | 12 => [(.return_, 0, 0, 0, 0)]
  | _ => []
theorem kX12_must (pc : Nat) : chk 178 (bX12_must pc) pc = true := by
  unfold bX12_must; split
  · decide +kernel
  · decide +kernel
  · rfl
def bX12_leaf : Nat → List Ins := fun pc => match pc with
  | 0 => [(.aload_n 0, 0, 0, 0, 0), (.getfield 174, 12, 17, 0, 0), (.bipush 50, 0, 0, 0, 50), (.if_icmp .ne 7, 13, 0, 0, 0), (.aload_n 0, 0, 0, 0, 0), (.invokevirtual 171, 176, 0, 12, 0)]
  | 13 => [(.aload_n 0, 0, 0, 0, 0), (.dup, 0, 0, 0, 0), (.getfield 174, 12, 17, 0, 0), (.iconst 1, 0, 0, 0, 1), (.iadd, 0, 0, 0, 0), (.putfield 174, 12, 17, 0, 0), (.aload_n 0, 0, 0, 0, 0), (.invokevirtual 161, 175, 0, 12, 0), (.ifCond .eq 13, 40, 0, 0, 0), (.aload_n 0, 0, 0, 0, 0), (.dup, 0, 0, 0, 0), (.getfield 165, 12, 16, 0, 0), (.iconst 1, 0, 0, 0, 1), (.iadd, 0, 0, 0, 0), (.putfield 165, 12, 16, 0, 0)]
  | 40 => [(.return_, 0, 0, 0, 0)]
  | _ => []
theorem kX12_leaf (pc : Nat) : chk 179 (bX12_leaf pc) pc = true := by
  unfold bX12_leaf; split
  · decide +kernel
  · decide +kernel
  · decide +kernel
  · rfl
def bX12_sign : Nat → List Ins := fun pc => match pc with
  | 0 => [(.bipush 100, 0, 0, 0, 100), (.iload_n 0, 0, 0, 0, 0), (.iadd, 0, 0, 0, 0), (.ireturn, 0, 0, 0, 0)]
  | _ => []
theorem kX12_sign (pc : Nat) : chk 180 (bX12_sign pc) pc = true := by
  unfold bX12_sign; split
  · decide +kernel
  · rfl
def bX12_readClause : Nat → List Ins := fun pc => match pc with
  | 0 => [(.aload_n 0, 0, 0, 0, 0), (.iconst 1, 0, 0, 0, 1), (.invokevirtual 168, 177, 1, 12, 0), (.ifCond .eq 11, 16, 0, 0, 0), (.aload_n 0, 0, 0, 0, 0), (.iconst 0, 0, 0, 0, 0), (.invokevirtual 177, 185, 1, 12, 0), (.goto 8, 21, 0, 0, 0)]
  | 16 => [(.aload_n 0, 0, 0, 0, 0), (.iconst 2, 0, 0, 0, 2), (.invokevirtual 181, 178, 1, 12, 0)]
  | 21 => [(.aload_n 0, 0, 0, 0, 0), (.iconst 3, 0, 0, 0, 3), (.invokevirtual 168, 177, 1, 12, 0), (.ifCond .eq 8, 34, 0, 0, 0), (.aload_n 0, 0, 0, 0, 0), (.iconst 0, 0, 0, 0, 0), (.invokevirtual 184, 182, 1, 12, 0)]
  | 34 => [(.return_, 0, 0, 0, 0)]
  | _ => []
theorem kX12_readClause (pc : Nat) : chk 181 (bX12_readClause pc) pc = true := by
  unfold bX12_readClause; split
  · decide +kernel
  · decide +kernel
  · decide +kernel
  · decide +kernel
  · rfl
def bX12_readTest : Nat → List Ins := fun pc => match pc with
  | 0 => [(.aload_n 0, 0, 0, 0, 0), (.iload_n 1, 0, 0, 0, 0), (.invokevirtual 187, 183, 1, 12, 0)]
  | 5 => [(.aload_n 0, 0, 0, 0, 0), (.iconst 4, 0, 0, 0, 4), (.invokevirtual 168, 177, 1, 12, 0), (.ifCond .eq 11, 21, 0, 0, 0), (.aload_n 0, 0, 0, 0, 0), (.iload_n 1, 0, 0, 0, 0), (.invokevirtual 187, 183, 1, 12, 0), (.goto (-13), 5, 0, 0, 0)]
  | 21 => [(.return_, 0, 0, 0, 0)]
  | _ => []
theorem kX12_readTest (pc : Nat) : chk 182 (bX12_readTest pc) pc = true := by
  unfold bX12_readTest; split
  · decide +kernel
  · decide +kernel
  · decide +kernel
  · rfl
def bX12_readBoth : Nat → List Ins := fun pc => match pc with
  | 0 => [(.aload_n 0, 0, 0, 0, 0), (.iload_n 1, 0, 0, 0, 0), (.invokevirtual 190, 184, 1, 12, 0)]
  | 5 => [(.aload_n 0, 0, 0, 0, 0), (.iconst 5, 0, 0, 0, 5), (.invokevirtual 168, 177, 1, 12, 0), (.ifCond .eq 11, 21, 0, 0, 0), (.aload_n 0, 0, 0, 0, 0), (.iload_n 1, 0, 0, 0, 0), (.invokevirtual 190, 184, 1, 12, 0), (.goto (-13), 5, 0, 0, 0)]
  | 21 => [(.return_, 0, 0, 0, 0)]
  | _ => []
theorem kX12_readBoth (pc : Nat) : chk 183 (bX12_readBoth pc) pc = true := by
  unfold bX12_readBoth; split
  · decide +kernel
  · decide +kernel
  · decide +kernel
  · rfl
def bX12_readPlain : Nat → List Ins := fun pc => match pc with
  | 0 => [(.iconst 1, 0, 0, 0, 1), (.istore_n 2, 0, 0, 0, 0)]
  | 2 => [(.iload_n 2, 0, 0, 0, 0), (.ifCond .eq 13, 16, 0, 0, 0), (.aload_n 0, 0, 0, 0, 0), (.bipush 6, 0, 0, 0, 6), (.invokevirtual 168, 177, 1, 12, 0), (.istore_n 2, 0, 0, 0, 0), (.goto (-11), 2, 0, 0, 0)]
  | 16 => [(.aload_n 0, 0, 0, 0, 0), (.invokevirtual 161, 175, 0, 12, 0), (.ifCond .ne 4, 24, 0, 0, 0), (.return_, 0, 0, 0, 0)]
  | 24 => [(.aload_n 0, 0, 0, 0, 0), (.getfield 43, 12, 12, 0, 0), (.aload_n 0, 0, 0, 0, 0), (.getfield 165, 12, 16, 0, 0), (.iaload, 0, 0, 0, 0), (.istore_n 3, 0, 0, 0, 0), (.iload_n 3, 0, 0, 0, 0), (.bipush 40, 0, 0, 0, 40), (.invokestatic 193, 180, 1, 0, 0), (.if_icmp .ne 50, 90, 0, 0, 0), (.iload_n 1, 0, 0, 0, 0), (.bipush 8, 0, 0, 0, 8), (.if_icmp .ne 7, 53, 0, 0, 0), (.aload_n 0, 0, 0, 0, 0), (.invokevirtual 171, 176, 0, 12, 0)]
  | 53 => [(.aload_n 0, 0, 0, 0, 0), (.invokevirtual 161, 175, 0, 12, 0), (.ifCond .ne 4, 61, 0, 0, 0), (.return_, 0, 0, 0, 0)]
  | 61 => [(.aload_n 0, 0, 0, 0, 0), (.dup, 0, 0, 0, 0), (.getfield 165, 12, 16, 0, 0), (.iconst 1, 0, 0, 0, 1), (.iadd, 0, 0, 0, 0), (.putfield 165, 12, 16, 0, 0), (.aload_n 0, 0, 0, 0, 0), (.iload_n 1, 0, 0, 0, 0), (.iconst 1, 0, 0, 0, 1), (.iadd, 0, 0, 0, 0), (.invokevirtual 184, 182, 1, 12, 0), (.aload_n 0, 0, 0, 0, 0), (.bipush 41, 0, 0, 0, 41), (.invokestatic 193, 180, 1, 0, 0), (.invokevirtual 181, 178, 1, 12, 0), (.goto 46, 133, 0, 0, 0)]
  | 90 => [(.aload_n 0, 0, 0, 0, 0), (.iload_n 1, 0, 0, 0, 0), (.invokevirtual 177, 185, 1, 12, 0), (.aload_n 0, 0, 0, 0, 0), (.bipush 60, 0, 0, 0, 60), (.invokestatic 193, 180, 1, 0, 0), (.invokevirtual 168, 177, 1, 12, 0), (.ifCond .ne 24, 128, 0, 0, 0), (.aload_n 0, 0, 0, 0, 0), (.bipush 62, 0, 0, 0, 62), (.invokestatic 193, 180, 1, 0, 0), (.invokevirtual 168, 177, 1, 12, 0), (.ifCond .ne 12, 128, 0, 0, 0), (.aload_n 0, 0, 0, 0, 0), (.bipush 61, 0, 0, 0, 61), (.invokestatic 193, 180, 1, 0, 0), (.invokevirtual 181, 178, 1, 12, 0)]
  | 128 => [(.aload_n 0, 0, 0, 0, 0), (.iload_n 1, 0, 0, 0, 0), (.invokevirtual 177, 185, 1, 12, 0)]
  | 133 => [(.return_, 0, 0, 0, 0)]
  | _ => []
theorem kX12_readPlain (pc : Nat) : chk 184 (bX12_readPlain pc) pc = true := by
  unfold bX12_readPlain; split
  · decide +kernel
  · decide +kernel
  · decide +kernel
  · decide +kernel
  · decide +kernel
  · decide +kernel
  · decide +kernel
  · decide +kernel
  · decide +kernel
  · rfl
def bX12_readSum : Nat → List Ins := fun pc => match pc with
  | 0 => [(.aload_n 0, 0, 0, 0, 0), (.iload_n 1, 0, 0, 0, 0), (.invokevirtual 197, 186, 1, 12, 0)]
  | 5 => [(.aload_n 0, 0, 0, 0, 0), (.bipush 43, 0, 0, 0, 43), (.invokestatic 193, 180, 1, 0, 0), (.invokevirtual 168, 177, 1, 12, 0), (.ifCond .ne 15, 29, 0, 0, 0), (.aload_n 0, 0, 0, 0, 0), (.bipush 45, 0, 0, 0, 45), (.invokestatic 193, 180, 1, 0, 0), (.invokevirtual 168, 177, 1, 12, 0), (.ifCond .eq 11, 37, 0, 0, 0)]
  | 29 => [(.aload_n 0, 0, 0, 0, 0), (.iload_n 1, 0, 0, 0, 0), (.invokevirtual 197, 186, 1, 12, 0), (.goto (-29), 5, 0, 0, 0)]
  | 37 => [(.return_, 0, 0, 0, 0)]
  | _ => []
theorem kX12_readSum (pc : Nat) : chk 185 (bX12_readSum pc) pc = true := by
  unfold bX12_readSum; split
  · decide +kernel
  · decide +kernel
  · decide +kernel
  · decide +kernel
  · rfl
def bX12_readTerm : Nat → List Ins := fun pc => match pc with
  | 0 => [(.aload_n 0, 0, 0, 0, 0), (.iload_n 1, 0, 0, 0, 0), (.invokevirtual 200, 187, 1, 12, 0)]
  | 5 => [(.aload_n 0, 0, 0, 0, 0), (.bipush 42, 0, 0, 0, 42), (.invokestatic 193, 180, 1, 0, 0), (.invokevirtual 168, 177, 1, 12, 0), (.ifCond .ne 15, 29, 0, 0, 0), (.aload_n 0, 0, 0, 0, 0), (.bipush 47, 0, 0, 0, 47), (.invokestatic 193, 180, 1, 0, 0), (.invokevirtual 168, 177, 1, 12, 0), (.ifCond .eq 11, 37, 0, 0, 0)]
  | 29 => [(.aload_n 0, 0, 0, 0, 0), (.iload_n 1, 0, 0, 0, 0), (.invokevirtual 200, 187, 1, 12, 0), (.goto (-29), 5, 0, 0, 0)]
  | 37 => [(.return_, 0, 0, 0, 0)]
  | _ => []
theorem kX12_readTerm (pc : Nat) : chk 186 (bX12_readTerm pc) pc = true := by
  unfold bX12_readTerm; split
  · decide +kernel
  · decide +kernel
  · decide +kernel
  · decide +kernel
  · rfl
def bX12_readPart : Nat → List Ins := fun pc => match pc with
  | 0 => [(.aload_n 0, 0, 0, 0, 0), (.invokevirtual 161, 175, 0, 12, 0), (.ifCond .ne 4, 8, 0, 0, 0), (.return_, 0, 0, 0, 0)]
  | 8 => [(.aload_n 0, 0, 0, 0, 0), (.getfield 43, 12, 12, 0, 0), (.aload_n 0, 0, 0, 0, 0), (.getfield 165, 12, 16, 0, 0), (.iaload, 0, 0, 0, 0), (.istore_n 2, 0, 0, 0, 0), (.iload_n 2, 0, 0, 0, 0), (.bipush 91, 0, 0, 0, 91), (.invokestatic 193, 180, 1, 0, 0), (.if_icmp .ne 50, 74, 0, 0, 0), (.iload_n 1, 0, 0, 0, 0), (.bipush 8, 0, 0, 0, 8), (.if_icmp .ne 7, 37, 0, 0, 0), (.aload_n 0, 0, 0, 0, 0), (.invokevirtual 171, 176, 0, 12, 0)]
  | 37 => [(.aload_n 0, 0, 0, 0, 0), (.invokevirtual 161, 175, 0, 12, 0), (.ifCond .ne 4, 45, 0, 0, 0), (.return_, 0, 0, 0, 0)]
  | 45 => [(.aload_n 0, 0, 0, 0, 0), (.dup, 0, 0, 0, 0), (.getfield 165, 12, 16, 0, 0), (.iconst 1, 0, 0, 0, 1), (.iadd, 0, 0, 0, 0), (.putfield 165, 12, 16, 0, 0), (.aload_n 0, 0, 0, 0, 0), (.iload_n 1, 0, 0, 0, 0), (.iconst 1, 0, 0, 0, 1), (.iadd, 0, 0, 0, 0), (.invokevirtual 177, 185, 1, 12, 0), (.aload_n 0, 0, 0, 0, 0), (.bipush 93, 0, 0, 0, 93), (.invokestatic 193, 180, 1, 0, 0), (.invokevirtual 181, 178, 1, 12, 0), (.goto 47, 118, 0, 0, 0)]
  | 74 => [(.iload_n 2, 0, 0, 0, 0), (.bipush 50, 0, 0, 0, 50), (.if_icmp .ne 18, 95, 0, 0, 0), (.aload_n 0, 0, 0, 0, 0), (.getfield 46, 12, 13, 0, 0), (.aload_n 0, 0, 0, 0, 0), (.getfield 165, 12, 16, 0, 0), (.iaload, 0, 0, 0, 0), (.sipush 1000, 0, 0, 0, 1000), (.if_icmp .le 15, 107, 0, 0, 0)]
  | 95 => [(.iload_n 2, 0, 0, 0, 0), (.bipush 7, 0, 0, 0, 7), (.if_icmp .lt 16, 114, 0, 0, 0), (.iload_n 2, 0, 0, 0, 0), (.bipush 14, 0, 0, 0, 14), (.if_icmp .gt 10, 114, 0, 0, 0)]
  | 107 => [(.aload_n 0, 0, 0, 0, 0), (.invokevirtual 203, 179, 0, 12, 0), (.goto 7, 118, 0, 0, 0)]
  | 114 => [(.aload_n 0, 0, 0, 0, 0), (.invokevirtual 171, 176, 0, 12, 0)]
  | 118 => [(.return_, 0, 0, 0, 0)]
  | _ => []
theorem kX12_readPart (pc : Nat) : chk 187 (bX12_readPart pc) pc = true := by
  unfold bX12_readPart; split
  · decide +kernel
  · decide +kernel
  · decide +kernel
  · decide +kernel
  · decide +kernel
  · decide +kernel
  · decide +kernel
  · decide +kernel
  · decide +kernel
  · rfl
def bX12_reads : Nat → List Ins := fun pc => match pc with
  | 0 => [(.aload_n 0, 0, 0, 0, 0), (.aload_n 0, 0, 0, 0, 0), (.getfield 139, 12, 10, 0, 0), (.invokevirtual 206, 174, 1, 12, 0), (.aload_n 0, 0, 0, 0, 0), (.iconst 0, 0, 0, 0, 0), (.putfield 139, 12, 10, 0, 0), (.aload_n 0, 0, 0, 0, 0), (.iconst 0, 0, 0, 0, 0), (.putfield 165, 12, 16, 0, 0), (.aload_n 0, 0, 0, 0, 0), (.iconst 0, 0, 0, 0, 0), (.putfield 174, 12, 17, 0, 0), (.aload_n 0, 0, 0, 0, 0), (.iconst (-1), 0, 0, 0, (-1)), (.putfield 158, 12, 18, 0, 0), (.aload_n 0, 0, 0, 0, 0), (.invokevirtual 209, 181, 0, 12, 0), (.iconst 1, 0, 0, 0, 1), (.istore_n 1, 0, 0, 0, 0)]
  | 34 => [(.aload_n 0, 0, 0, 0, 0), (.bipush 59, 0, 0, 0, 59), (.invokestatic 193, 180, 1, 0, 0), (.invokevirtual 168, 177, 1, 12, 0), (.ifCond .eq 30, 73, 0, 0, 0), (.iload_n 1, 0, 0, 0, 0), (.bipush 12, 0, 0, 0, 12), (.if_icmp .ne 7, 56, 0, 0, 0), (.aload_n 0, 0, 0, 0, 0), (.invokevirtual 171, 176, 0, 12, 0)]
  | 56 => [(.aload_n 0, 0, 0, 0, 0), (.invokevirtual 161, 175, 0, 12, 0), (.ifCond .eq 7, 67, 0, 0, 0), (.aload_n 0, 0, 0, 0, 0), (.invokevirtual 209, 181, 0, 12, 0)]
  | 67 => [(.iinc 1 1, 0, 0, 0, 1), (.goto (-36), 34, 0, 0, 0)]
  | 73 => [(.aload_n 0, 0, 0, 0, 0), (.invokevirtual 161, 175, 0, 12, 0), (.ifCond .eq 18, 95, 0, 0, 0), (.aload_n 0, 0, 0, 0, 0), (.getfield 165, 12, 16, 0, 0), (.aload_n 0, 0, 0, 0, 0), (.getfield 145, 12, 15, 0, 0), (.if_icmp .ge 7, 95, 0, 0, 0), (.aload_n 0, 0, 0, 0, 0), (.invokevirtual 171, 176, 0, 12, 0)]
  | 95 => [(.aload_n 0, 0, 0, 0, 0), (.aload_n 0, 0, 0, 0, 0), (.getfield 158, 12, 18, 0, 0), (.putfield 40, 12, 11, 0, 0), (.aload_n 0, 0, 0, 0, 0), (.invokevirtual 161, 175, 0, 12, 0), (.ireturn, 1, 0, 0, 0)]
  | _ => []
theorem kX12_reads (pc : Nat) : chk 188 (bX12_reads pc) pc = true := by
  unfold bX12_reads; split
  · decide +kernel
  · decide +kernel
  · decide +kernel
  · decide +kernel
  · decide +kernel
  · decide +kernel
  · rfl
def bX12_law : Nat → List Ins := fun pc => match pc with
  | 0 => [(.aload_n 0, 0, 0, 0, 0), (.getfield 20, 12, 3, 0, 0), (.sipush 160, 0, 0, 0, 160), (.iaload, 0, 0, 0, 0), (.bipush 6, 0, 0, 0, 6), (.if_icmp .ne 15, 25, 0, 0, 0), (.aload_n 0, 0, 0, 0, 0), (.iconst 0, 0, 0, 0, 0), (.putfield 139, 12, 10, 0, 0), (.aload_n 0, 0, 0, 0, 0), (.bipush (-5), 0, 0, 0, (-5)), (.invokevirtual 95, 145, 1, 12, 0), (.ireturn, 0, 0, 0, 0)]
  | 25 => [(.aload_n 0, 0, 0, 0, 0), (.invokevirtual 212, 188, 0, 12, 0), (.ifCond .ne 10, 39, 0, 0, 0), (.aload_n 0, 0, 0, 0, 0), (.bipush (-6), 0, 0, 0, (-6)), (.invokevirtual 95, 145, 1, 12, 0), (.ireturn, 0, 0, 0, 0)]
  | 39 => [(.aload_n 0, 0, 0, 0, 0), (.getfield 20, 12, 3, 0, 0), (.sipush 160, 0, 0, 0, 160), (.iaload, 0, 0, 0, 0), (.istore_n 1, 0, 0, 0, 0), (.aload_n 0, 0, 0, 0, 0), (.getfield 20, 12, 3, 0, 0), (.sipush 162, 0, 0, 0, 162), (.iload_n 1, 0, 0, 0, 0), (.iadd, 0, 0, 0, 0), (.aload_n 0, 0, 0, 0, 0), (.getfield 145, 12, 15, 0, 0), (.iastore, 0, 0, 0, 0), (.iconst 0, 0, 0, 0, 0), (.istore_n 2, 0, 0, 0, 0)]
  | 64 => [(.iload_n 2, 0, 0, 0, 0), (.aload_n 0, 0, 0, 0, 0), (.getfield 145, 12, 15, 0, 0), (.if_icmp .ge 53, 122, 0, 0, 0), (.aload_n 0, 0, 0, 0, 0), (.getfield 20, 12, 3, 0, 0), (.sipush 168, 0, 0, 0, 168), (.sipush 400, 0, 0, 0, 400), (.iload_n 1, 0, 0, 0, 0), (.imul, 0, 0, 0, 0), (.iadd, 0, 0, 0, 0), (.iload_n 2, 0, 0, 0, 0), (.iadd, 0, 0, 0, 0), (.aload_n 0, 0, 0, 0, 0), (.getfield 43, 12, 12, 0, 0), (.iload_n 2, 0, 0, 0, 0), (.iaload, 0, 0, 0, 0), (.iastore, 0, 0, 0, 0), (.aload_n 0, 0, 0, 0, 0), (.getfield 20, 12, 3, 0, 0), (.sipush 2568, 0, 0, 0, 2568), (.sipush 400, 0, 0, 0, 400), (.iload_n 1, 0, 0, 0, 0), (.imul, 0, 0, 0, 0), (.iadd, 0, 0, 0, 0), (.iload_n 2, 0, 0, 0, 0), (.iadd, 0, 0, 0, 0), (.aload_n 0, 0, 0, 0, 0), (.getfield 46, 12, 13, 0, 0), (.iload_n 2, 0, 0, 0, 0), (.iaload, 0, 0, 0, 0), (.iastore, 0, 0, 0, 0), (.iinc 2 1, 0, 0, 0, 1), (.goto (-55), 64, 0, 0, 0)]
  | 122 => [(.aload_n 0, 0, 0, 0, 0), (.getfield 20, 12, 3, 0, 0), (.sipush 160, 0, 0, 0, 160), (.dup2, 0, 0, 0, 0), (.iaload, 0, 0, 0, 0), (.iconst 1, 0, 0, 0, 1), (.iadd, 0, 0, 0, 0), (.iastore, 0, 0, 0, 0), (.aload_n 0, 0, 0, 0, 0), (.iload_n 1, 0, 0, 0, 0), (.invokevirtual 99, 146, 1, 12, 0), (.ireturn, 0, 0, 0, 0)]
  | _ => []
theorem kX12_law (pc : Nat) : chk 189 (bX12_law pc) pc = true := by
  unfold bX12_law; split
  · decide +kernel
  · decide +kernel
  · decide +kernel
  · decide +kernel
  · decide +kernel
  · rfl
