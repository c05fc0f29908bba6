/-! what must hold for a stretch of code to go on: computed from the listed instructions -/
abbrev Ins : Type := Instr × Nat × Nat × Nat × Int32
def ilen (i : Instr) : Nat := match i with
  | .bipush _ | .iload _ | .istore _ | .aload _ | .astore _ | .lload _ | .lstore _ | .ldc _ => 2
  | .sipush _ | .iinc _ _ | .getfield _ | .putfield _ | .invokevirtual _ | .invokestatic _ | .invokespecial _ | .ldc_w _ | .ldc2_w _ | .ifCond _ _ | .if_icmp _ _ | .goto _ | .ifnull _ | .ifnonnull _ | .new _ => 3
  | _ => 1
def lawp (h : Hp) (o : Nat) : Prop := 126 ≤ o ∧ o < 126 + 3 * hN h ∧ (o - 126) % 3 = 0
def lawa (h : Hp) (o : Nat) : Prop := 126 ≤ o ∧ o < 126 + 3 * hN h ∧ (o - 126) % 3 ≠ 0
def g1i (st : List Value) (k : Int32 → List Value → Prop) : Prop := match st with | .int x :: r => k x r | _ => False
def g2i (st : List Value) (k : Int32 → Int32 → List Value → Prop) : Prop := match st with | .int y :: .int x :: r => k x y r | _ => False
def g1l (st : List Value) (k : Int64 → List Value → Prop) : Prop := match st with | .long x :: r => k x r | _ => False
def g2l (st : List Value) (k : Int64 → Int64 → List Value → Prop) : Prop := match st with | .long y :: .long x :: r => k x y r | _ => False
def gil (st : List Value) (k : Int64 → Int32 → List Value → Prop) : Prop := match st with | .int y :: .long x :: r => k x y r | _ => False
def g1r (st : List Value) (k : Nat → List Value → Prop) : Prop := match st with | .ref o :: r => k o r | _ => False
def gir (st : List Value) (k : Int32 → Nat → List Value → Prop) : Prop := match st with | .int i :: .ref o :: r => k i o r | _ => False
def giir (st : List Value) (k : Int32 → Int32 → Nat → List Value → Prop) : Prop := match st with | .int x :: .int i :: .ref o :: r => k x i o r | _ => False
def glir (st : List Value) (k : Int64 → Int32 → Nat → List Value → Prop) : Prop := match st with | .long x :: .int i :: .ref o :: r => k x i o r | _ => False
def gv (st : List Value) (k : Value → List Value → Prop) : Prop := match st with | .int x :: r => k (.int x) r | .ref x :: r => k (.ref x) r | .null :: r => k .null r | _ => False
def ga (st : List Value) (k : Value → List Value → Prop) : Prop := match st with | .ref x :: r => k (.ref x) r | .null :: r => k .null r | _ => False
def lI (loc : Lc) (i : Nat) (k : Int32 → Prop) : Prop := match lnth loc i with | some (.int x) => k x | _ => False
def lJ (loc : Lc) (i : Nat) (k : Int64 → Prop) : Prop := match lnth loc i with | some (.long x) => k x | _ => False
def lA (loc : Lc) (i : Nat) (k : Value → Prop) : Prop := match lnth loc i with | some (.ref x) => k (.ref x) | some .null => k .null | _ => False
/-- the last n values, the first of them in front -/
def popn : Nat → List Value → List Value → (List Value → List Value → Prop) → Prop
  | 0, st, acc, k => k acc st
  | n + 1, v :: st, acc, k => popn n st (v :: acc) k
  | _ + 1, [], _, _ => False
def sw (cx : Cx) (j d a : Nat) (loc : Lc) (st : List Value) (h : Hp) (Q : Option Value → Hp → Prop) (v : Int32) (pc : Nat) : Nat → List Int → Prop
  | _, [] => True
  | k, t :: ts => (v = Int32.ofNat k → E cx j d a ((pc : Int) + t).toNat loc st h Q) ∧ sw cx j d a loc st h Q v pc (k + 1) ts
def isB (v : Int32) : Prop := v = 0 ∨ v = 1
def kl (x y : Nat) : Int64 := match y with | 0 => Int64.ofNat x | _ => -Int64.ofNat x
def wp (cx : Cx) (j d : Nat) (Q : Option Value → Hp → Prop) : List Ins → Nat → Nat → Lc → List Value → Hp → Prop
  | [], pc, a, loc, st, h => E cx j d a pc loc st h Q
  | (ins, x, y, z, c) :: r, pc, a, loc, st, h => match ins with
    | .iload_n n => lI loc n fun v => wp cx j d Q r (pc + 1) a loc (.int v :: st) h
    | .iload n => lI loc n fun v => wp cx j d Q r (pc + 2) a loc (.int v :: st) h
    | .lload_n n => lJ loc n fun v => wp cx j d Q r (pc + 1) a loc (.long v :: st) h
    | .lload n => lJ loc n fun v => wp cx j d Q r (pc + 2) a loc (.long v :: st) h
    | .aload_n n => lA loc n fun v => wp cx j d Q r (pc + 1) a loc (v :: st) h
    | .aload n => lA loc n fun v => wp cx j d Q r (pc + 2) a loc (v :: st) h
    | .istore_n n => g1i st fun v st => wp cx j d Q r (pc + 1) a (lsto loc n (.int v)) st h
    | .istore n => g1i st fun v st => wp cx j d Q r (pc + 2) a (lsto loc n (.int v)) st h
    | .lstore_n n => g1l st fun v st => wp cx j d Q r (pc + 1) a (lst2 loc n (.long v)) st h
    | .lstore n => g1l st fun v st => wp cx j d Q r (pc + 2) a (lst2 loc n (.long v)) st h
    | .astore_n n => ga st fun v st => wp cx j d Q r (pc + 1) a (lsto loc n v) st h
    | .astore n => ga st fun v st => wp cx j d Q r (pc + 2) a (lsto loc n v) st h
    | .iinc n _ => lI loc n fun v => wp cx j d Q r (pc + 3) a (lsto loc n (.int (v + c))) st h
    | .iconst _ => wp cx j d Q r (pc + 1) a loc (.int c :: st) h
    | .bipush _ => wp cx j d Q r (pc + 2) a loc (.int c :: st) h
    | .sipush _ => wp cx j d Q r (pc + 3) a loc (.int c :: st) h
    | .lconst _ => wp cx j d Q r (pc + 1) a loc (.long (kl x 0) :: st) h
    | .ldc _ => match y with
      | 0 => wp cx j d Q r (pc + 2) a loc (.int c :: st) h
      | _ => wp cx j d Q r (pc + 2) a loc (.ref (1 + x) :: st) h
    | .ldc_w _ => wp cx j d Q r (pc + 3) a loc (.int c :: st) h
    | .ldc2_w _ => wp cx j d Q r (pc + 3) a loc (.long (kl x y) :: st) h
    | .aconst_null => wp cx j d Q r (pc + 1) a loc (.null :: st) h
    | .dup => gv st fun v st => wp cx j d Q r (pc + 1) a loc (v :: v :: st) h
    | .dup2 => gir st fun v w st => wp cx j d Q r (pc + 1) a loc (.int v :: .ref w :: .int v :: .ref w :: st) h
    | .pop => gv st fun _ st => wp cx j d Q r (pc + 1) a loc st h
    | .iadd => g2i st fun p q st => wp cx j d Q r (pc + 1) a loc (.int (p + q) :: st) h
    | .isub => g2i st fun p q st => wp cx j d Q r (pc + 1) a loc (.int (p - q) :: st) h
    | .imul => g2i st fun p q st => wp cx j d Q r (pc + 1) a loc (.int (p * q) :: st) h
    | .iand => g2i st fun p q st => wp cx j d Q r (pc + 1) a loc (.int (p &&& q) :: st) h
    | .ior => g2i st fun p q st => wp cx j d Q r (pc + 1) a loc (.int (p ||| q) :: st) h
    | .ixor => g2i st fun p q st => wp cx j d Q r (pc + 1) a loc (.int (p ^^^ q) :: st) h
    | .ishl => g2i st fun p q st => wp cx j d Q r (pc + 1) a loc (.int (p <<< (q &&& 31)) :: st) h
    | .ishr => g2i st fun p q st => wp cx j d Q r (pc + 1) a loc (.int (p >>> (q &&& 31)) :: st) h
    | .iushr => g2i st fun p q st => wp cx j d Q r (pc + 1) a loc (.int ((p.toUInt32 >>> (q.toUInt32 &&& Int32.toUInt32 31)).toInt32) :: st) h
    | .idiv => g2i st fun p q st => ¬ q = 0 ∧ wp cx j d Q r (pc + 1) a loc (.int (p / q) :: st) h
    | .irem => g2i st fun p q st => ¬ q = 0 ∧ wp cx j d Q r (pc + 1) a loc (.int (p - p / q * q) :: st) h
    | .ineg => g1i st fun p st => wp cx j d Q r (pc + 1) a loc (.int (-p) :: st) h
    | .ladd => g2l st fun p q st => wp cx j d Q r (pc + 1) a loc (.long (p + q) :: st) h
    | .lsub => g2l st fun p q st => wp cx j d Q r (pc + 1) a loc (.long (p - q) :: st) h
    | .lmul => g2l st fun p q st => wp cx j d Q r (pc + 1) a loc (.long (p * q) :: st) h
    | .land => g2l st fun p q st => wp cx j d Q r (pc + 1) a loc (.long (p &&& q) :: st) h
    | .lor => g2l st fun p q st => wp cx j d Q r (pc + 1) a loc (.long (p ||| q) :: st) h
    | .ldiv => g2l st fun p q st => ¬ q = 0 ∧ wp cx j d Q r (pc + 1) a loc (.long (p / q) :: st) h
    | .lrem => g2l st fun p q st => ¬ q = 0 ∧ wp cx j d Q r (pc + 1) a loc (.long (p - p / q * q) :: st) h
    | .lshl => gil st fun p q st => wp cx j d Q r (pc + 1) a loc (.long (p <<< (q.toInt64 &&& 63)) :: st) h
    | .lshr => gil st fun p q st => wp cx j d Q r (pc + 1) a loc (.long (p >>> (q.toInt64 &&& 63)) :: st) h
    | .lcmp => g2l st fun p q st => wp cx j d Q r (pc + 1) a loc (.int (lg_cmp p q) :: st) h
    | .i2l => g1i st fun p st => wp cx j d Q r (pc + 1) a loc (.long p.toInt64 :: st) h
    | .l2i => g1l st fun p st => wp cx j d Q r (pc + 1) a loc (.int p.toInt32 :: st) h
    | .i2b => g1i st fun p st => wp cx j d Q r (pc + 1) a loc (.int p.toInt8.toInt32 :: st) h
    | .getfield _ => g1r st fun o st => match x with
      | 3 => lawp h o ∧ (match y with
        | 2 => wp cx j d Q r (pc + 3) a loc (.int (hI h o 2) :: st) h
        | _ => wp cx j d Q r (pc + 3) a loc (.ref (o + 1 + y) :: st) h)
      | _ => match Nat.beq (ly_sk o) x with
        | true => (match ly_fk x y with
          | true => wp cx j d Q r (pc + 3) a loc (.ref (ly_rf o y) :: st) h
          | false => wp cx j d Q r (pc + 3) a loc (.int (hI h o y) :: st) h)
        | false => False
    | .putfield _ => match st with
      | .int v :: .ref o :: st => (match Nat.beq (ly_sk o) x with
        | true => (match z with
          | 0 => wp cx j d Q r (pc + 3) a loc st (wI h o y v)
          | _ => isB v ∧ wp cx j d Q r (pc + 3) a loc st (wI h o y v))
        | false => False)
      | _ => False
    | .iaload => gir st fun i o st => match x with
      | 0 => (match Nat.beq (ly_sk o) 20 with
        | true => vp_in i (ly_al o) ∧ wp cx j d Q r (pc + 1) a loc (.int (hI h o i.toNatClampNeg) :: st) h
        | false => False)
      | 1 => lawa h o ∧ vp_in i (hL h o) ∧ wp cx j d Q r (pc + 1) a loc (.int (hI h o i.toNatClampNeg) :: st) h
      | _ => (match o with
        | 0 => vp_in i (cxL cx) ∧ wp cx j d Q r (pc + 1) a loc (.int (cxX cx i.toNatClampNeg) :: st) h
        | _ => False)
    | .baload => gir st fun i o st => match ly_sk o with
      | 22 => vp_in i (ly_al o) ∧ wp cx j d Q r (pc + 1) a loc (.int (hI h o i.toNatClampNeg) :: st) h
      | 23 => vp_in i (ly_al o) ∧ wp cx j d Q r (pc + 1) a loc (.int (hI h o i.toNatClampNeg) :: st) h
      | _ => False
    | .laload => gir st fun i o st => match Nat.beq (ly_sk o) 21 with
      | true => vp_in i (ly_al o) ∧ wp cx j d Q r (pc + 1) a loc (.long (hJ h o i.toNatClampNeg) :: st) h
      | false => False
    | .aaload => gir st fun i o st => match ly_sk o with
      | 24 => vp_in i (ly_al o) ∧ wp cx j d Q r (pc + 1) a loc (vr (hR h o i.toNatClampNeg) :: st) h
      | 25 => vp_in i (ly_al o) ∧ wp cx j d Q r (pc + 1) a loc (vr (hR h o i.toNatClampNeg) :: st) h
      | _ => False
    | .iastore => giir st fun v i o st => match Nat.beq (ly_sk o) 20 with
      | true => vp_in i (ly_al o) ∧ wp cx j d Q r (pc + 1) a loc st (wI h o i.toNatClampNeg v)
      | false => False
    | .bastore => giir st fun v i o st => match ly_sk o with
      | 22 => vp_in i (ly_al o) ∧ wp cx j d Q r (pc + 1) a loc st (wI h o i.toNatClampNeg (vp_nar .boolean v))
      | 23 => vp_in i (ly_al o) ∧ wp cx j d Q r (pc + 1) a loc st (wI h o i.toNatClampNeg (vp_nar .byte v))
      | _ => False
    | .lastore => glir st fun v i o st => match Nat.beq (ly_sk o) 21 with
      | true => vp_in i (ly_al o) ∧ wp cx j d Q r (pc + 1) a loc st (wJ h o i.toNatClampNeg v)
      | false => False
    | .aastore => match st with
      | .ref v :: .int i :: .ref o :: st => (match Nat.beq (ly_sk o) 25 with
        | true => vp_in i (ly_al o) ∧ lawp h v ∧ wp cx j d Q r (pc + 1) a loc st (wR h o i.toNatClampNeg (some v))
        | false => False)
      | .null :: .int i :: .ref o :: st => (match Nat.beq (ly_sk o) 25 with
        | true => vp_in i (ly_al o) ∧ wp cx j d Q r (pc + 1) a loc st (wR h o i.toNatClampNeg none)
        | false => False)
      | _ => False
    | .arraylength => g1r st fun o st => match x with
      | 0 => (match ly_sk o with
        | 20 => wp cx j d Q r (pc + 1) a loc (.int (Int32.ofNat (ly_al o)) :: st) h
        | 21 => wp cx j d Q r (pc + 1) a loc (.int (Int32.ofNat (ly_al o)) :: st) h
        | 23 => wp cx j d Q r (pc + 1) a loc (.int (Int32.ofNat (ly_al o)) :: st) h
        | _ => False)
      | 1 => lawa h o ∧ wp cx j d Q r (pc + 1) a loc (.int (Int32.ofNat (hL h o)) :: st) h
      | _ => (match o with
        | 0 => wp cx j d Q r (pc + 1) a loc (.int (Int32.ofNat (cxL cx)) :: st) h
        | _ => False)
    | .ifCond b _ => g1i st fun v st => match b with
      | .eq => (v = 0 → E cx j d a x loc st h Q) ∧ (¬ v = 0 → wp cx j d Q r (pc + 3) a loc st h)
      | .ne => (¬ v = 0 → E cx j d a x loc st h Q) ∧ (v = 0 → wp cx j d Q r (pc + 3) a loc st h)
      | .lt => (v < 0 → E cx j d a x loc st h Q) ∧ (¬ v < 0 → wp cx j d Q r (pc + 3) a loc st h)
      | .ge => (0 ≤ v → E cx j d a x loc st h Q) ∧ (¬ 0 ≤ v → wp cx j d Q r (pc + 3) a loc st h)
      | .gt => (0 < v → E cx j d a x loc st h Q) ∧ (¬ 0 < v → wp cx j d Q r (pc + 3) a loc st h)
      | .le => (v ≤ 0 → E cx j d a x loc st h Q) ∧ (¬ v ≤ 0 → wp cx j d Q r (pc + 3) a loc st h)
    | .if_icmp b _ => g2i st fun v w st => match b with
      | .eq => (v = w → E cx j d a x loc st h Q) ∧ (¬ v = w → wp cx j d Q r (pc + 3) a loc st h)
      | .ne => (¬ v = w → E cx j d a x loc st h Q) ∧ (v = w → wp cx j d Q r (pc + 3) a loc st h)
      | .lt => (v < w → E cx j d a x loc st h Q) ∧ (¬ v < w → wp cx j d Q r (pc + 3) a loc st h)
      | .ge => (w ≤ v → E cx j d a x loc st h Q) ∧ (¬ w ≤ v → wp cx j d Q r (pc + 3) a loc st h)
      | .gt => (w < v → E cx j d a x loc st h Q) ∧ (¬ w < v → wp cx j d Q r (pc + 3) a loc st h)
      | .le => (v ≤ w → E cx j d a x loc st h Q) ∧ (¬ v ≤ w → wp cx j d Q r (pc + 3) a loc st h)
    | .ifnull _ => match st with
      | .ref _ :: st => wp cx j d Q r (pc + 3) a loc st h
      | .null :: st => E cx j d a x loc st h Q
      | _ => False
    | .ifnonnull _ => match st with
      | .ref _ :: st => E cx j d a x loc st h Q
      | .null :: st => wp cx j d Q r (pc + 3) a loc st h
      | _ => False
    | .goto _ => E cx j d a x loc st h Q
    | .tableswitch _ _ _ offs => g1i st fun v st => ((∀ k : Nat, k < offs.size → v ≠ Int32.ofNat k) → E cx j d a x loc st h Q) ∧ sw cx j d a loc st h Q v pc 0 offs.toList
    | .ireturn => match st with
      | [.int v] => (match x with
        | 0 => Q (some (.int v)) h
        | _ => isB v ∧ Q (some (.int v)) h)
      | _ => False
    | .lreturn => match st with
      | [.long v] => Q (some (.long v)) h
      | _ => False
    | .areturn => match st with
      | [.ref v] => Q (some (.ref v)) h
      | [.null] => Q (some .null) h
      | _ => False
    | .return_ => match st with
      | [] => Q none h
      | _ => False
    | .invokevirtual _ => popn y st [] fun vs st => g1r st fun o st =>
        (match z with | 3 => lawp h o | _ => Nat.beq (ly_sk o) z = true) ∧ (st.map fun v => v.category).sum ≤ 8 ∧ 0 < d ∧
        ∃ (a' : Nat) (Q' : Option Value → Hp → Prop), a' ≤ a ∧ (rok loc st = true ∨ ∀ r h', Q' r h' → hN h' = hN h) ∧ M cx x (d - 1) a' (.ref o :: vs) h Q' ∧ ∀ v h', Q' v h' → wp cx j d Q r (pc + 3) (a - a') loc (v.toList ++ st) h'
    | .invokestatic _ => match z with
      | 0 => popn y st [] fun vs st => (st.map fun v => v.category).sum ≤ 8 ∧ 0 < d ∧
        ∃ (a' : Nat) (Q' : Option Value → Hp → Prop), a' ≤ a ∧ (rok loc st = true ∨ ∀ r h', Q' r h' → hN h' = hN h) ∧ M cx x (d - 1) a' vs h Q' ∧ ∀ v h', Q' v h' → wp cx j d Q r (pc + 3) (a - a') loc (v.toList ++ st) h'
      | _ => (match x with
        | 237 => g2i st fun p q st => ((st.map fun v => v.category).sum ≤ 40 ∧ 0 < d) ∧ wp cx j d Q r (pc + 3) a loc (.int (if p < q then q else p) :: st) h
        | 239 => g2i st fun p q st => ((st.map fun v => v.category).sum ≤ 40 ∧ 0 < d) ∧ wp cx j d Q r (pc + 3) a loc (.int (if q < p then q else p) :: st) h
        | 238 => g2l st fun p q st => ((st.map fun v => v.category).sum ≤ 40 ∧ 0 < d) ∧ wp cx j d Q r (pc + 3) a loc (.long (if q < p then p else q) :: st) h
        | 240 => g2l st fun p q st => ((st.map fun v => v.category).sum ≤ 40 ∧ 0 < d) ∧ wp cx j d Q r (pc + 3) a loc (.long (if q < p then q else p) :: st) h
        | _ => False)
    | _ => False
