/-! laws: tokens read to meanings (what a text means, none: broken) -/
abbrev Env : Type := Nat → Int32
abbrev SN : Type := Env → Option Int64
abbrev SB : Type := Env → Option Bool
/-- whether it went well, the token behind, the leaves so far, the meaning -/
abbrev PR (α : Type) : Type := Bool × Nat × Nat × α
def zN : SN := fun _ => none
def zB : SB := fun _ => none
def leafS (c v : Int32) : SN := fun e => some ((if c = 50 then v else e (c.toNatClampNeg - 7)).toInt64)
def bndS (z : Int64) : Option Int64 := if 1000000000 < z ∨ z < -1000000000 then none else some z
def opV (c : Int32) (x y : Int64) : Option Int64 := if c = 142 then bndS (x * y) else if c = 147 then (if y = 0 then none else bndS (x / y)) else if c = 143 then bndS (x + y) else bndS (x - y)
def opO (c : Int32) (p q : Option Int64) : Option Int64 := match p with | none => none | some x => (match q with | none => none | some y => opV c x y)
def opN (c : Int32) (p q : SN) : SN := fun e => opO c (p e) (q e)
def cmpV (c : Int32) (x y : Int64) : Bool := if c = 160 then decide (x < y) else if c = 162 then decide (y < x) else decide (x = y)
def cmpO (c : Int32) (p q : Option Int64) : Option Bool := match p with | none => none | some x => (match q with | none => none | some y => some (cmpV c x y))
def cmpS (c : Int32) (p q : SN) : SB := fun e => cmpO c (p e) (q e)
def obO (c : Int32) (p q : Option Bool) : Option Bool := match p with | none => none | some x => if x = decide (c = 4) then some x else q
def opB (c : Int32) (p q : SB) : SB := fun e => obO c (p e) (q e)
def ntO (k : Bool) (p : Option Bool) : Option Bool := match p with | none => none | some x => some (x != k)
def notS (k : Bool) (p : SB) : SB := fun e => ntO k (p e)
def pLoop {α : Type} (op : Int32 → Bool) (cb : Int32 → α → α → α) (P : Nat → Nat → PR α) (C : Nat → Int32) : Nat → Nat → Nat → α → PR α
  | 0, t, lv, s => (true, t, lv, s)
  | n + 1, t, lv, s => if op (C t) = true then (if (P (t + 1) lv).1 = true then pLoop op cb P C n (P (t + 1) lv).2.1 (P (t + 1) lv).2.2.1 (cb (C t) s (P (t + 1) lv).2.2.2) else P (t + 1) lv) else (true, t, lv, s)
def pChain {α : Type} (op : Int32 → Bool) (cb : Int32 → α → α → α) (P : Nat → Nat → PR α) (C : Nat → Int32) (t lv : Nat) : PR α :=
  if (P t lv).1 = true then pLoop op cb P C 401 (P t lv).2.1 (P t lv).2.2.1 (P t lv).2.2.2 else P t lv
def pBrk {α : Type} (C : Nat → Int32) (cl : Int32) (nx : Option (Nat → Nat → PR α)) (z : α) (t lv : Nat) : PR α := match nx with
  | none => (false, t, lv, z)
  | some S => if (S (t + 1) lv).1 = true then (if C (S (t + 1) lv).2.1 = cl then (true, (S (t + 1) lv).2.1 + 1, (S (t + 1) lv).2.2.1, (S (t + 1) lv).2.2.2) else (false, (S (t + 1) lv).2.1, (S (t + 1) lv).2.2.1, z)) else (false, (S (t + 1) lv).2.1, (S (t + 1) lv).2.2.1, z)
def isLeaf (c v : Int32) : Prop := (c = 50 ∧ v ≤ 1000) ∨ (7 ≤ c ∧ c ≤ 14)
noncomputable def pPart (C V : Nat → Int32) (nx : Option (Nat → Nat → PR SN)) (t lv : Nat) : PR SN :=
  if C t = 191 then pBrk C 193 nx zN t lv else @ite _ (isLeaf (C t) (V t) ∧ lv < 50) (Classical.propDecidable _) (true, t + 1, lv + 1, leafS (C t) (V t)) (false, t, lv, zN)
def opTerm (c : Int32) : Bool := decide (c = 142) || decide (c = 147)
def opSum (c : Int32) : Bool := decide (c = 143) || decide (c = 145)
def opAnd (c : Int32) : Bool := decide (c = 5)
def opOr (c : Int32) : Bool := decide (c = 4)
noncomputable def pSum (C V : Nat → Int32) (nx : Option (Nat → Nat → PR SN)) : Nat → Nat → PR SN := pChain opSum opN (pChain opTerm opN (pPart C V nx) C) C
noncomputable def sumP (C V : Nat → Int32) : Nat → Nat → Nat → PR SN
  | 0 => pSum C V none
  | r + 1 => pSum C V (some (sumP C V r))
/-- the part parser of a level -/
noncomputable def prtP (C V : Nat → Int32) : Nat → Nat → Nat → PR SN
  | 0 => pPart C V none
  | r + 1 => pPart C V (some (sumP C V r))
noncomputable def trmP (C V : Nat → Int32) (r : Nat) : Nat → Nat → PR SN := pChain opTerm opN (prtP C V r) C
theorem sumP_eq (C V : Nat → Int32) (r : Nat) : sumP C V r = pChain opSum opN (trmP C V r) C := by cases r <;> rfl
def pNots (C : Nat → Int32) : Nat → Nat → Bool → Nat × Bool
  | 0, t, k => (t, k)
  | n + 1, t, k => if C t = 6 then pNots C n (t + 1) (!k) else (t, k)
def isCmp (c : Int32) : Bool := decide (c = 160) || decide (c = 162) || decide (c = 161)
def pCmp (C : Nat → Int32) (S : Nat → Nat → PR SN) (t lv : Nat) : PR SB :=
  if (S t lv).1 = true then (if isCmp (C (S t lv).2.1) = true then ((S ((S t lv).2.1 + 1) (S t lv).2.2.1).1, (S ((S t lv).2.1 + 1) (S t lv).2.2.1).2.1, (S ((S t lv).2.1 + 1) (S t lv).2.2.1).2.2.1, cmpS (C (S t lv).2.1) (S t lv).2.2.2 (S ((S t lv).2.1 + 1) (S t lv).2.2.1).2.2.2) else (false, (S t lv).2.1, (S t lv).2.2.1, zB)) else (false, (S t lv).2.1, (S t lv).2.2.1, zB)
def pPos (C : Nat → Int32) (nx : Option (Nat → Nat → PR SB)) (S : Nat → Nat → PR SN) (t lv : Nat) : PR SB := if C t = 140 then pBrk C 141 nx zB t lv else pCmp C S t lv
def pPlain (C : Nat → Int32) (nx : Option (Nat → Nat → PR SB)) (S : Nat → Nat → PR SN) (t lv : Nat) : PR SB :=
  ((pPos C nx S (pNots C 401 t false).1 lv).1, (pPos C nx S (pNots C 401 t false).1 lv).2.1, (pPos C nx S (pNots C 401 t false).1 lv).2.2.1, notS (pNots C 401 t false).2 (pPos C nx S (pNots C 401 t false).1 lv).2.2.2)
noncomputable def testP (C V : Nat → Int32) : Nat → Nat → Nat → PR SB
  | 0 => pChain opOr opB (pChain opAnd opB (pPlain C none (sumP C V 0)) C) C
  | r + 1 => pChain opOr opB (pChain opAnd opB (pPlain C (some (testP C V r)) (sumP C V (r + 1))) C) C
noncomputable def nxT (C V : Nat → Int32) : Nat → Option (Nat → Nat → PR SB)
  | 0 => none
  | r + 1 => some (testP C V r)
noncomputable def posP (C V : Nat → Int32) (r : Nat) : Nat → Nat → PR SB := pPos C (nxT C V r) (sumP C V r)
noncomputable def plnP (C V : Nat → Int32) (r : Nat) : Nat → Nat → PR SB := pPlain C (nxT C V r) (sumP C V r)
noncomputable def bthP (C V : Nat → Int32) (r : Nat) : Nat → Nat → PR SB := pChain opAnd opB (plnP C V r) C
theorem testP_eq (C V : Nat → Int32) (r : Nat) : testP C V r = pChain opOr opB (bthP C V r) C := by cases r <;> rfl
/-- a clause: whether it binds, its sum, its test -/
abbrev CS : Type := Bool × SN × SB
def tS : SB := fun _ => some true
noncomputable def pHead (C V : Nat → Int32) (t lv : Nat) : PR (Bool × SN) :=
  if C t = 1 then ((sumP C V 8 (t + 1) lv).1, (sumP C V 8 (t + 1) lv).2.1, (sumP C V 8 (t + 1) lv).2.2.1, false, (sumP C V 8 (t + 1) lv).2.2.2) else if C t = 2 then (true, t + 1, lv, true, zN) else (false, t, lv, false, zN)
noncomputable def pTail (C V : Nat → Int32) (t lv : Nat) : PR SB :=
  if C t = 3 then testP C V 8 (t + 1) lv else (true, t, lv, tS)
noncomputable def pClause (C V : Nat → Int32) (t lv : Nat) : PR CS :=
  if (pHead C V t lv).1 = true then ((pTail C V (pHead C V t lv).2.1 (pHead C V t lv).2.2.1).1, (pTail C V (pHead C V t lv).2.1 (pHead C V t lv).2.2.1).2.1, (pTail C V (pHead C V t lv).2.1 (pHead C V t lv).2.2.1).2.2.1, (pHead C V t lv).2.2.2.1, (pHead C V t lv).2.2.2.2, (pTail C V (pHead C V t lv).2.1 (pHead C V t lv).2.2.1).2.2.2) else (false, (pHead C V t lv).2.1, (pHead C V t lv).2.2.1, (pHead C V t lv).2.2.2.1, (pHead C V t lv).2.2.2.2, zB)
noncomputable def pMore (C V : Nat → Int32) : Nat → Nat → Nat → List CS → PR (List CS)
  | 0, t, lv, cs => if C t = 159 then (false, t + 1, lv, cs) else (true, t, lv, cs)
  | n + 1, t, lv, cs => if C t = 159 then (if (pClause C V (t + 1) lv).1 = true then pMore C V n (pClause C V (t + 1) lv).2.1 (pClause C V (t + 1) lv).2.2.1 (cs ++ [(pClause C V (t + 1) lv).2.2.2]) else (false, (pClause C V (t + 1) lv).2.1, (pClause C V (t + 1) lv).2.2.1, cs)) else (true, t, lv, cs)
/-- the whole text, N tokens: whether it is a law, the token that can't go on, its clauses -/
noncomputable def pLaw (C V : Nat → Int32) (N : Nat) : Bool × Nat × List CS :=
  if (pClause C V 0 0).1 = true then
    (if (pMore C V 11 (pClause C V 0 0).2.1 (pClause C V 0 0).2.2.1 [(pClause C V 0 0).2.2.2]).1 = true then (decide (N ≤ (pMore C V 11 (pClause C V 0 0).2.1 (pClause C V 0 0).2.2.1 [(pClause C V 0 0).2.2.2]).2.1), (pMore C V 11 (pClause C V 0 0).2.1 (pClause C V 0 0).2.2.1 [(pClause C V 0 0).2.2.2]).2.1, (pMore C V 11 (pClause C V 0 0).2.1 (pClause C V 0 0).2.2.1 [(pClause C V 0 0).2.2.2]).2.2.2)
     else (false, (pMore C V 11 (pClause C V 0 0).2.1 (pClause C V 0 0).2.2.1 [(pClause C V 0 0).2.2.2]).2.1, []))
  else (false, (pClause C V 0 0).2.1, [])
/-- what a law tells of a place -/
def clampN (v : Int64) : Int32 := if v < 0 then 0 else if 12 < v then 12 else v.toInt32
def csHolds (c : CS) (e : Env) : Bool := decide (c.2.2 e = some true)
def needS (e : Env) : List CS → Int32 → Int32
  | [], nd => nd
  | c :: r, nd => needS e r (match csHolds c e, c.1, c.2.1 e with | true, false, some v => clampN v | _, _, _ => nd)
def bndL (e : Env) (cs : List CS) : Prop := ∃ c, c ∈ cs ∧ c.1 = true ∧ csHolds c e = true
/-- a parser goes on, but not beyond the N tokens -/
def mono {α : Type} (N : Nat) (P : Nat → Nat → PR α) : Prop := ∀ t lv, t ≤ N → t ≤ (P t lv).2.1 ∧ (P t lv).2.1 ≤ N ∧ ((P t lv).1 = true → t < (P t lv).2.1)
theorem mono_loop {α : Type} {N : Nat} {op : Int32 → Bool} {cb : Int32 → α → α → α} {P : Nat → Nat → PR α} {C : Nat → Int32} (h0 : op 0 = false) (hC : ∀ k, N ≤ k → C k = 0) (hP : mono N P) : ∀ n t lv s, t ≤ N → t ≤ (pLoop op cb P C n t lv s).2.1 ∧ (pLoop op cb P C n t lv s).2.1 ≤ N := by
  intro n
  induction n with
  | zero => intro t lv s ht; exact ⟨Nat.le_refl _, ht⟩
  | succ n ih =>
    intro t lv s ht
    rw [pLoop]
    by_cases o : op (C t) = true
    · rw [if_pos o]
      have tl : t < N := Nat.lt_of_not_le fun z => by rw [hC t z, h0] at o; cases o
      have hp := hP (t + 1) lv (by omega)
      by_cases ok : (P (t + 1) lv).1 = true
      · rw [if_pos ok]
        have := ih (P (t + 1) lv).2.1 (P (t + 1) lv).2.2.1 (cb (C t) s (P (t + 1) lv).2.2.2) hp.2.1
        exact ⟨by omega, this.2⟩
      · rw [if_neg ok]; exact ⟨by omega, hp.2.1⟩
    · rw [if_neg o]; exact ⟨Nat.le_refl _, ht⟩
theorem mono_chain {α : Type} {N : Nat} {op : Int32 → Bool} {cb : Int32 → α → α → α} {P : Nat → Nat → PR α} {C : Nat → Int32} (h0 : op 0 = false) (hC : ∀ k, N ≤ k → C k = 0) (hP : mono N P) : mono N (pChain op cb P C) := by
  intro t lv ht
  unfold pChain
  have hp := hP t lv ht
  by_cases ok : (P t lv).1 = true
  · rw [if_pos ok]
    have := mono_loop (cb := cb) h0 hC hP 401 (P t lv).2.1 (P t lv).2.2.1 (P t lv).2.2.2 hp.2.1
    exact ⟨by omega, this.2, fun _ => by have := hp.2.2 ok; omega⟩
  · rw [if_neg ok]; exact hp
theorem mono_brk {α : Type} {N t lv : Nat} {C : Nat → Int32} {cl : Int32} {nx : Option (Nat → Nat → PR α)} {z : α} (hC : ∀ k, N ≤ k → C k = 0) (hc : ¬ cl = 0) (tl : t < N) (hnx : ∀ S, nx = some S → mono N S) : t ≤ (pBrk C cl nx z t lv).2.1 ∧ (pBrk C cl nx z t lv).2.1 ≤ N ∧ ((pBrk C cl nx z t lv).1 = true → t < (pBrk C cl nx z t lv).2.1) := by
  match nx, hnx with
  | none, _ => exact ⟨Nat.le_refl _, Nat.le_of_lt tl, fun z => by cases z⟩
  | some S, hnx =>
    have hS := hnx S rfl (t + 1) lv (by omega)
    unfold pBrk; simp only []
    by_cases ok : (S (t + 1) lv).1 = true
    · rw [if_pos ok]
      by_cases c : C (S (t + 1) lv).2.1 = cl
      · rw [if_pos c]
        have : (S (t + 1) lv).2.1 < N := Nat.lt_of_not_le fun z => hc (by rw [← c]; exact hC _ z)
        refine ⟨?_, ?_, fun _ => ?_⟩ <;> simp only [] <;> omega
      · rw [if_neg c]; refine ⟨?_, hS.2.1, fun z => by cases z⟩; simp only []; omega
    · rw [if_neg ok]; refine ⟨?_, hS.2.1, fun z => by cases z⟩; simp only []; omega
theorem leaf_ne0 {c v : Int32} (q : isLeaf c v) : ¬ c = 0 := by
  rintro rfl
  rcases q with q | q
  · exact absurd q.1 (by decide)
  · exact absurd q.1 (by decide)
theorem mono_part {N : Nat} {C V : Nat → Int32} {nx : Option (Nat → Nat → PR SN)} (hC : ∀ k, N ≤ k → C k = 0) (hnx : ∀ S, nx = some S → mono N S) : mono N (pPart C V nx) := by
  intro t lv ht
  unfold pPart
  by_cases h1 : C t = 191
  · rw [if_pos h1]
    exact mono_brk hC (by decide) (Nat.lt_of_not_le fun z => by rw [hC t z] at h1; exact absurd h1 (by decide)) hnx
  · rw [if_neg h1]
    by_cases lf : isLeaf (C t) (V t) ∧ lv < 50
    · rw [if_pos lf]
      have : t < N := Nat.lt_of_not_le fun z => leaf_ne0 lf.1 (hC t z)
      exact ⟨Nat.le_succ _, this, fun _ => Nat.lt_succ_self _⟩
    · rw [if_neg lf]; exact ⟨Nat.le_refl _, ht, fun z => by cases z⟩
theorem mono_sum {N : Nat} {C V : Nat → Int32} (hC : ∀ k, N ≤ k → C k = 0) : ∀ r, mono N (sumP C V r) := by
  intro r
  induction r with
  | zero => exact mono_chain (by decide) hC (mono_chain (by decide) hC (mono_part hC (fun S z => by cases z)))
  | succ r ih => exact mono_chain (by decide) hC (mono_chain (by decide) hC (mono_part hC (fun S z => by cases z; exact ih)))
theorem mono_prt {N : Nat} {C V : Nat → Int32} (hC : ∀ k, N ≤ k → C k = 0) (r : Nat) : mono N (prtP C V r) := by
  cases r with
  | zero => exact mono_part hC (fun S z => by cases z)
  | succ r => exact mono_part hC (fun S z => by cases z; exact mono_sum hC r)
theorem mono_trm {N : Nat} {C V : Nat → Int32} (hC : ∀ k, N ≤ k → C k = 0) (r : Nat) : mono N (trmP C V r) := mono_chain (by decide) hC (mono_prt hC r)
theorem nots_mono {N : Nat} {C : Nat → Int32} (hC : ∀ k, N ≤ k → C k = 0) : ∀ n t k, t ≤ N → t ≤ (pNots C n t k).1 ∧ (pNots C n t k).1 ≤ N := by
  intro n
  induction n with
  | zero => intro t k ht; exact ⟨Nat.le_refl _, ht⟩
  | succ n ih =>
    intro t k ht
    rw [pNots]
    by_cases c : C t = 6
    · rw [if_pos c]
      have tl : t < N := Nat.lt_of_not_le fun z => by rw [hC t z] at c; exact absurd c (by decide)
      have := ih (t + 1) (!k) tl
      exact ⟨by omega, this.2⟩
    · rw [if_neg c]; exact ⟨Nat.le_refl _, ht⟩
theorem mono_cmp {N : Nat} {C : Nat → Int32} {S : Nat → Nat → PR SN} (hC : ∀ k, N ≤ k → C k = 0) (hS : mono N S) : mono N (pCmp C S) := by
  intro t lv ht
  have h1 := hS t lv ht
  unfold pCmp
  by_cases ok : (S t lv).1 = true
  · rw [if_pos ok]
    by_cases c : isCmp (C (S t lv).2.1) = true
    · rw [if_pos c]
      have tl : (S t lv).2.1 < N := Nat.lt_of_not_le fun z => by rw [hC _ z] at c; exact absurd c (by decide)
      have h2 := hS ((S t lv).2.1 + 1) (S t lv).2.2.1 (by omega)
      refine ⟨?_, h2.2.1, fun _ => ?_⟩ <;> simp only [] <;> omega
    · rw [if_neg c]; exact ⟨h1.1, h1.2.1, fun z => by cases z⟩
  · rw [if_neg ok]; exact ⟨h1.1, h1.2.1, fun z => by cases z⟩
theorem mono_pos {N : Nat} {C : Nat → Int32} {S : Nat → Nat → PR SN} {nx : Option (Nat → Nat → PR SB)} (hC : ∀ k, N ≤ k → C k = 0) (hS : mono N S) (hnx : ∀ S, nx = some S → mono N S) : mono N (pPos C nx S) := by
  intro t lv ht
  unfold pPos
  by_cases h1 : C t = 140
  · rw [if_pos h1]
    exact mono_brk hC (by decide) (Nat.lt_of_not_le fun z => by rw [hC t z] at h1; exact absurd h1 (by decide)) hnx
  · rw [if_neg h1]; exact mono_cmp hC hS t lv ht
theorem mono_plain {N : Nat} {C : Nat → Int32} {S : Nat → Nat → PR SN} {nx : Option (Nat → Nat → PR SB)} (hC : ∀ k, N ≤ k → C k = 0) (hS : mono N S) (hnx : ∀ S, nx = some S → mono N S) : mono N (pPlain C nx S) := by
  intro t lv ht
  have h1 := nots_mono hC 401 t false ht
  have h2 := mono_pos hC hS hnx (pNots C 401 t false).1 lv h1.2
  exact ⟨Nat.le_trans h1.1 h2.1, h2.2.1, fun z => Nat.lt_of_le_of_lt h1.1 (h2.2.2 z)⟩
theorem mono_test {N : Nat} {C V : Nat → Int32} (hC : ∀ k, N ≤ k → C k = 0) : ∀ r, mono N (testP C V r) := by
  intro r
  induction r with
  | zero => exact mono_chain (by decide) hC (mono_chain (by decide) hC (mono_plain hC (mono_sum hC 0) (fun S z => by cases z)))
  | succ r ih => exact mono_chain (by decide) hC (mono_chain (by decide) hC (mono_plain hC (mono_sum hC (r + 1)) (fun S z => by cases z; exact ih)))
theorem mono_nxT {N : Nat} {C V : Nat → Int32} (hC : ∀ k, N ≤ k → C k = 0) (r : Nat) : ∀ S, nxT C V r = some S → mono N S := by
  cases r with
  | zero => intro S z; cases z
  | succ r => intro S z; cases z; exact mono_test hC r
theorem mono_posP {N : Nat} {C V : Nat → Int32} (hC : ∀ k, N ≤ k → C k = 0) (r : Nat) : mono N (posP C V r) := mono_pos hC (mono_sum hC r) (mono_nxT hC r)
theorem mono_pln {N : Nat} {C V : Nat → Int32} (hC : ∀ k, N ≤ k → C k = 0) (r : Nat) : mono N (plnP C V r) := mono_plain hC (mono_sum hC r) (mono_nxT hC r)
theorem mono_bth {N : Nat} {C V : Nat → Int32} (hC : ∀ k, N ≤ k → C k = 0) (r : Nat) : mono N (bthP C V r) := mono_chain (by decide) hC (mono_pln hC r)
section T50
variable {cx : Cx} {j d a pc : Nat} {h h' : Hp} {Q : Option Value → Hp → Prop} {loc : Lc} {st vs : List Value} {r : List Ins} {o x : Nat} {v : Value}
/-- a call by a contract that is a relation -/
theorem wcQ {cnd : Prop} {Q' : Option Value → Hp → Prop} (hM : M cx x (d - 1) 0 (.ref o :: vs) h Q') (kk : ∀ v h', Q' v h' → wp cx j d Q r pc a loc (v.toList ++ st) h') (hk : ∀ v h', Q' v h' → hN h' = hN h) (hr : cnd := by rfl) (hs : (st.map fun v => v.category).sum ≤ 8 := by exact Nat.le_of_ble_eq_true rfl) (hd0 : 0 < d := by omega) :
    cnd ∧ (st.map fun v => v.category).sum ≤ 8 ∧ 0 < d ∧ ∃ (a' : Nat) (Q' : Option Value → Hp → Prop), a' ≤ a ∧ (rok loc st = true ∨ ∀ r h', Q' r h' → hN h' = hN h) ∧ M cx x (d - 1) a' (.ref o :: vs) h Q' ∧ ∀ v h', Q' v h' → wp cx j d Q r pc (a - a') loc (v.toList ++ st) h' :=
  ⟨hr, hs, hd0, 0, Q', Nat.zero_le _, Or.inr hk, hM, fun w g q => kk w g q⟩
theorem wcQS {Q' : Option Value → Hp → Prop} (hM : M cx x (d - 1) 0 vs h Q') (kk : ∀ v h', Q' v h' → wp cx j d Q r pc a loc (v.toList ++ st) h') (hk : ∀ v h', Q' v h' → hN h' = hN h) (hs : (st.map fun v => v.category).sum ≤ 8 := by exact Nat.le_of_ble_eq_true rfl) (hd0 : 0 < d := by omega) :
    (st.map fun v => v.category).sum ≤ 8 ∧ 0 < d ∧ ∃ (a' : Nat) (Q' : Option Value → Hp → Prop), a' ≤ a ∧ (rok loc st = true ∨ ∀ r h', Q' r h' → hN h' = hN h) ∧ M cx x (d - 1) a' vs h Q' ∧ ∀ v h', Q' v h' → wp cx j d Q r pc (a - a') loc (v.toList ++ st) h' :=
  ⟨hs, hd0, 0, Q', Nat.zero_le _, Or.inr hk, hM, fun w g q => kk w g q⟩
theorem E_mono {loc : Lc} {st : List Value} {Q Q' : Option Value → Hp → Prop} (k : E cx j d a pc loc st h Q) (m : ∀ r g, Q r g → Q' r g) : E cx j d a pc loc st h Q' := by
  intro p l e s mm args below meth c h0 ad0 ad ls H locs nc ns mc ms hE h1 h2
  intro T hT X
  obtain ⟨t, s1, o, s2, s3, ⟨⟨r, h', ad', q1, q2, q3⟩, s4⟩, s5⟩ := k p l e s mm args below meth c h0 ad0 ad ls H locs nc ns mc ms hE h1 h2 T hT X
  exact ⟨t, s1, o, s2, s3, ⟨⟨r, h', ad', q1, m _ _ q2, q3⟩, s4⟩, s5⟩
end T50
