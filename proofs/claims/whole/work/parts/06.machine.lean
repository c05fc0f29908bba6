/-! A SMALL MACHINE OVER THE KIT: the whole heap as typed tables by cell number; E: from here the method ends with Q; M: the method's contract -/
abbrev Hp : Type := (Nat → Nat → Int32) × (Nat → Nat → Int64) × (Nat → Nat → Option Nat) × (Nat → Nat) × Nat
abbrev hI (h : Hp) (o k : Nat) : Int32 := h.1 o k
abbrev hJ (h : Hp) (o k : Nat) : Int64 := h.2.1 o k
abbrev hR (h : Hp) (o k : Nat) : Option Nat := h.2.2.1 o k
abbrev hL (h : Hp) (o : Nat) : Nat := h.2.2.2.1 o
abbrev hN (h : Hp) : Nat := h.2.2.2.2
def up2 {α : Type} (f : Nat → Nat → α) (o k : Nat) (v : α) : Nat → Nat → α := fun a b => if a = o then (if b = k then v else f a b) else f a b
def wI (h : Hp) (o k : Nat) (v : Int32) : Hp := (up2 h.1 o k v, h.2)
def wJ (h : Hp) (o k : Nat) (v : Int64) : Hp := (h.1, up2 h.2.1 o k v, h.2.2)
def wR (h : Hp) (o k : Nat) (v : Option Nat) : Hp := (h.1, h.2.1, up2 h.2.2.1 o k v, h.2.2.2)
/-- the run's constants: class numbers, slots, array classes, the script's length and ints -/
abbrev Cx : Type := (Nat → ClassId) × (Nat → Nat → Nat) × (Nat → ClassId) × Nat × (Nat → Int32)
abbrev cxD (cx : Cx) : va_G := (cx.1, cx.2.1)
abbrev cxA (cx : Cx) (k : Nat) : ClassId := cx.2.2.1 k
abbrev cxL (cx : Cx) : Nat := cx.2.2.2.1
abbrev cxX (cx : Cx) : Nat → Int32 := cx.2.2.2.2
def kd (o : Nat) : Nat := if o < 126 then ly_sk o else if (o - 126) % 3 = 0 then 3 else 20
def ln (h : Hp) (o : Nat) : Nat := if o < 126 then ly_al o else hL h o
def fv (ad : Nat → Nat) (h : Hp) (o ci k : Nat) : Value := if ly_fk ci k = true then Value.ref (ad (ly_rf o k)) else .int (hI h o k)
def fds (ad : Nat → Nat) (h : Hp) (o ci : Nat) : List Value := (List.range (tb_NN ci)).map (fv ad h o ci)
def cE (cx : Cx) (ad : Nat → Nat) (h : Hp) (o : Nat) : va_E := match kd o with
  | 20 => .inl (cxA cx 0, ln h o, .inl (hI h o))
  | 21 => .inl (cxA cx 1, ln h o, .inr (.inl (hJ h o)))
  | 22 => .inl (cxA cx 2, ln h o, .inl (hI h o))
  | 23 => .inl (cxA cx 3, ln h o, .inl (hI h o))
  | 24 => .inl (cxA cx 4, ln h o, .inr (.inr (.inr (.inr (fun k => (hR h o k).map ad)))))
  | 25 => .inl (cxA cx 5, ln h o, .inr (.inr (.inr (.inr (fun k => (hR h o k).map ad)))))
  | ci => .inr (ci, fds ad h o ci)
def cls (cx : Cx) (ad : Nat → Nat) (h : Hp) : va_W := (List.range (62 + 3 * hN h)).map (fun i => (ad (64 + i), cE cx ad h (64 + i)))
def tys (cx : Cx) : List (ClassId × FieldType) := [(cxA cx 0, .int), (cxA cx 1, .long), (cxA cx 2, .boolean), (cxA cx 3, .byte), (cxA cx 4, .object "FiveTouch$Wall"), (cxA cx 5, .object "FiveTouch$Law")]
def cv (ad : Nat → Nat) (v : Value) : Value := match v with
  | .ref i => .ref (ad i)
  | w => w
/-- the words' lengths and letters -/
def tx_len : List Nat := tb_S.map (fun q => q.2.length)
def tx_byt : List (List Int32) := tb_S.map (fun q => q.2.toList.map (fun ch => Int32.ofNat ch.toNat))
/-- what lies outside: the script, the words, the nest's links -/
def Wst (cx : Cx) (ad : Nat → Nat) (A : Nat → Prop) (U : State) (H : Heap) : Prop :=
  (va_X (ad 0) (cxL cx) (cxX cx) U H ∧ ad 0 < H.size ∧ ¬ A (ad 0)) ∧
  (vk_S 26 tx_len tx_byt (fun k => ad (1 + k)) (fun k => ad (30 + k)) A U H ∧ ∀ (k : Nat) (q : Nat × String), tb_S[k]? = some q → vk_R RX5 q.1 q.2 (ad (1 + k)) U) ∧
  (∀ q ∈ tb_C, q.2.2.2.1 = 2 → va_Nw (mn_w q) U) ∧
  (va_Z RJ0 "COMPACT_STRINGS" "Z" (.int 1) A U H ∧ va_Zq RJ3 "SIOOBE_FORMATTER" "Ljava/util/function/BiFunction;" A U H)
def rm (d mc ms : Nat) : Room := { frames := d, cells := mc, slots := ms, locals := 64 * d }
def wsj (j : Nat) : List Cond := Cond.code (my j) (mcode j) (mmax j) (mret j) :: gT
def QQ (cx : Cx) (ad0 : Nat → Nat) (h0 : Hp) (sz : Nat) (Q : Option Value → Hp → Prop) : Array Value → State → Outcome → State → Prop := fun _ st oc t =>
  (∃ (r : Option Value) (h' : Hp) (ad' : Nat → Nat), oc = .returned (r.map (cv ad')) ∧ Q r h' ∧ hN h0 ≤ hN h' ∧ (∀ o, o < 126 + 3 * hN h0 → ad' o = ad0 o) ∧ (hN h' = hN h0 → ad' = ad0) ∧
    va_P (cxD cx) vwCl (cls cx ad' h') t.heap ∧ va_K (cxD cx) vwCl (tys cx) t ∧ va_D (va_A (cls cx ad0 h0) sz) (cls cx ad' h')) ∧ va_F (va_A (cls cx ad0 h0) sz) st t
/-- the contract of method j: with d frames, a laws to make, from the arguments vs and the heap h it returns with Q -/
def M (cx : Cx) (j d a : Nat) (vs : List Value) (h : Hp) (Q : Option Value → Hp → Prop) : Prop := ∀ (l : Launch) (ad : Nat → Nat) (sz : Nat),
  Met l (my j) (wsj j) (rm d (3 * a) (500 * a)) (va_Pc (vs.map (cv ad)) (fun U => U.heap.size = sz ∧ va_P (cxD cx) vwCl (cls cx ad h) U.heap ∧ va_K (cxD cx) vwCl (tys cx) U ∧ va_D (fun _ => True) (cls cx ad h) ∧ Wst cx ad (va_A (cls cx ad h) sz) U U.heap)) (QQ cx ad h sz Q) (3 * a) (500 * a) (va_A (cls cx ad h) sz)
/-- locals: what each slot holds, if it is known -/
abbrev Lc : Type := List (Option Value)
def lnth : Lc → Nat → Option Value
  | [], _ => none
  | x :: _, 0 => x
  | _ :: t, n + 1 => lnth t n
def lfree (x : Option Value) : Option Value := match x with
  | some (.long _) => none
  | some (.double _) => none
  | y => y
/-- a value of one slot at place i; a long whose second half that was is gone -/
def lsto : Lc → Nat → Value → Lc
  | [], _, _ => []
  | _ :: t, 0, v => some v :: t
  | x :: t, 1, v => lfree x :: lsto t 0 v
  | x :: t, n + 2, v => x :: lsto t (n + 1) v
def lst2 : Lc → Nat → Value → Lc
  | [], _, _ => []
  | _ :: t, 0, v => some v :: (match t with | [] => [] | _ :: u => none :: u)
  | x :: t, 1, v => lfree x :: lst2 t 0 v
  | x :: t, n + 2, v => x :: lst2 t (n + 1) v
def lvok (ad : Nat → Nat) (ls : Array Slot) (n : Nat) (loc : Lc) : Prop := ls.size = n ∧ lv_wf ls ∧ ∀ (i : Nat) (v : Value), lnth loc i = some v → ls[i]? = some (.val (cv ad v))
def Ec (cx : Cx) (j : Nat) (h0 h : Hp) (ad0 ad : Nat → Nat) (loc : Lc) (p : Program) (s : State) (m : MethodId) (args : Array Value) (meth : Method) (c : Code) (ls : Array Slot) (H : Heap) (locs : List Loc) : Prop :=
  (p.tables.exec = Jvm.exec ∧ c.code = mcode j ∧ meth.sig.returnType = mret j ∧ c.maxLocals = mmax j ∧ s.vm.findClass (tb_RR (mcn j)) = some m.cls ∧ (∀ w ∈ gT, w.before args s = true) ∧ meth.locks = false) ∧
  (va_K (cxD cx) vwCl (tys cx) s ∧ va_P (cxD cx) vwCl (cls cx ad h) H ∧ va_D (va_A (cls cx ad0 h0) s.heap.size) (cls cx ad h) ∧ va_S (va_A (cls cx ad0 h0) s.heap.size) s.heap H locs ∧ Wst cx ad0 (va_A (cls cx ad0 h0) s.heap.size) s s.heap) ∧
  ((∀ o, o < 126 + 3 * hN h0 → ad o = ad0 o) ∧ hN h0 ≤ hN h ∧ (hN h = hN h0 → ad = ad0)) ∧ lvok ad ls (mmax j) loc
def E (cx : Cx) (j d a pc : Nat) (loc : Lc) (st : List Value) (h : Hp) (Q : Option Value → Hp → Prop) : Prop :=
  ∀ (p : Program) (l : Launch) (e : Env) (s : State) (m : MethodId) (args : Array Value) (below : List Frame) (meth : Method) (c : Code) (h0 : Hp) (ad0 ad : Nat → Nat) (ls : Array Slot) (H : Heap) (locs : List Loc) (nc ns mc ms : Nat),
    Ec cx j h0 h ad0 ad loc p s m args meth c ls H locs → nc + 3 * a ≤ mc → ns + 500 * a ≤ ms →
    W p l e (rm d mc ms) s m args below meth c H locs nc ns (MQ below (QQ cx ad0 h0 s.heap.size Q) args s mc ms (va_A (cls cx ad0 h0) s.heap.size)) (F0 m pc ls (st.map (cv ad)))
/-! rows of the locals -/
theorem lnth_sto {loc : Lc} {i : Nat} {v : Value} : ∀ (k : Nat) (w : Value), lnth (lsto loc i v) k = some w → (k = i ∧ w = v) ∨ (k ≠ i ∧ lnth loc k = some w ∧ ¬ (k + 1 = i ∧ w.category = 2)) := by
  induction loc generalizing i with
  | nil => intro k w h; simp [lsto, lnth] at h
  | cons x t ih =>
    intro k w h
    match i, k, h with
    | 0, 0, h => left; simp [lsto, lnth] at h; exact ⟨rfl, h.symm⟩
    | 0, k + 1, h => right; simp [lsto, lnth] at h; exact ⟨by omega, by simpa [lnth] using h, by omega⟩
    | 1, 0, h =>
      right
      simp only [lsto, lnth] at h
      refine ⟨by omega, ?_, ?_⟩
      · simp only [lnth]
        match x, h with
        | some (.int _), h => exact h
        | some (.float _), h => exact h
        | some (.ref _), h => exact h
        | some .null, h => exact h
        | some (.retAddr _), h => exact h
      · rintro ⟨-, h2⟩
        match x, h with
        | some (.int _), h => cases h; cases h2
        | some (.float _), h => cases h; cases h2
        | some (.ref _), h => cases h; cases h2
        | some .null, h => cases h; cases h2
        | some (.retAddr _), h => cases h; cases h2
    | 1, k + 1, h =>
      simp only [lsto, lnth] at h
      rcases ih (i := 0) k w h with ⟨h1, h2⟩ | ⟨h1, h2, h3⟩
      · left; exact ⟨by omega, h2⟩
      · right; exact ⟨by omega, by simpa [lnth] using h2, by omega⟩
    | i + 2, 0, h => right; simp [lsto, lnth] at h; exact ⟨by omega, by simpa [lnth] using h, by omega⟩
    | i + 2, k + 1, h =>
      simp only [lsto, lnth] at h
      rcases ih (i := i + 1) k w h with ⟨h1, h2⟩ | ⟨h1, h2, h3⟩
      · left; exact ⟨by omega, h2⟩
      · right; exact ⟨by omega, by simpa [lnth] using h2, fun q => h3 ⟨by omega, q.2⟩⟩
