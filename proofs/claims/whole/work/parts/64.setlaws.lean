/-! sets as bits: parts, differences, single stones; what falls of parts -/
def sub (s t : Int32) : Prop := ∀ k, k < 32 → bt s k = true → bt t k = true
abbrev one (k : Nat) : Int32 := (1 : Int32) <<< (nI k &&& 31)
abbrev dif (s t : Int32) : Int32 := s &&& (t ^^^ -1)
section T64
theorem bt_dif {s t : Int32} {k : Nat} (hk : k < 32) : bt (dif s t) k = (bt s k && !bt t k) := by rw [b_and, b_not t hk]
theorem bt_one {k i : Nat} (hk : k < 32) (hi : i < 32) : bt (one k) i = decide (i = k) := by
  unfold bt
  rw [nf_sh k hk, BitVec.getLsbD_twoPow]
  by_cases e : i = k
  · subst e; simp [hk]
  · simp [e]; omega
theorem sub_r {s : Int32} : sub s s := fun _ _ q => q
theorem sub_t {s t u : Int32} (p : sub s t) (q : sub t u) : sub s u := fun k hk z => q k hk (p k hk z)
theorem sub_anti {s t : Int32} (p : sub s t) (q : sub t s) : s = t := b_ext fun i hi => by
  cases a : bt s i <;> cases b : bt t i
  · rfl
  · rw [q i hi b] at a; cases a
  · rw [p i hi a] at b; cases b
  · rfl
theorem sub_dif {s t : Int32} : sub (dif s t) s := fun k hk q => by rw [bt_dif hk] at q; simp at q; exact q.1
theorem sub_and1 {s t : Int32} : sub (s &&& t) s := fun k hk q => by rw [b_and] at q; simp at q; exact q.1
theorem sub_and2 {s t : Int32} : sub (s &&& t) t := fun k hk q => by rw [b_and] at q; simp at q; exact q.2
theorem sub_0 {s : Int32} : sub 0 s := fun k hk q => by rw [b_0] at q; cases q
theorem sub_or1 {s t : Int32} : sub s (s ||| t) := fun k hk q => by rw [b_or, q]; rfl
theorem sub_or2 {s t : Int32} : sub t (s ||| t) := fun k hk q => by rw [b_or, q, Bool.or_true]
theorem sub_iff {s t : Int32} : sub s t ↔ s &&& (t ^^^ -1) = 0 := by
  constructor
  · intro p; apply b_ext; intro i hi
    rw [bt_dif hi, b_0]
    cases a : bt s i
    · rfl
    · rw [p i hi a]; rfl
  · intro p k hk q
    have : bt (s &&& (t ^^^ -1)) k = bt 0 k := by rw [p]
    rw [bt_dif hk, b_0, q] at this
    simpa using this
theorem dif_dif {s t : Int32} (p : sub s t) : dif t (dif t s) = s := b_ext fun i hi => by
  rw [bt_dif hi, bt_dif hi]
  cases a : bt s i
  · cases bt t i <;> rfl
  · rw [p i hi a]; rfl
theorem dif_self {s : Int32} : dif s s = 0 := b_ext fun i hi => by rw [bt_dif hi, b_0]; cases bt s i <;> rfl
theorem dif_0 {s : Int32} : dif s 0 = s := b_ext fun i hi => by rw [bt_dif hi, b_0]; simp
theorem dif_inj {s s' t : Int32} (p : sub s t) (q : sub s' t) (e : dif t s = dif t s') : s = s' := by rw [← dif_dif p, e, dif_dif q]
theorem low_sub {n : Nat} {s t : Int32} (p : sub s t) (q : low n t) : low n s := fun k hk z => q k hk (p k hk z)
theorem low_le {n m : Nat} (h : n ≤ m) {s : Int32} (q : low n s) : low m s := fun k hk z => Nat.lt_of_lt_of_le (q k hk z) h
theorem low_0 {n : Nat} : low n 0 := fun k hk q => by rw [b_0] at q; cases q
theorem low_or {n : Nat} {s t : Int32} (p : low n s) (q : low n t) : low n (s ||| t) := fun k hk z => by
  rw [b_or] at z; simp at z; exact z.elim (p k hk) (q k hk)
theorem low_one {n k : Nat} (h : k < n) (hk : k < 32) : low n (one k) := fun i hi q => by rw [bt_one hk hi] at q; simp at q; omega
theorem sz_sub {s t : Int32} (p : sub s t) : sz s ≤ sz t := fb_ct_sub fun k hk q => p k (by omega) q
theorem sz_0 : sz 0 = 0 := fb_ct_zero.mpr fun k _ => b_0 k
theorem sz_eq0 {s : Int32} (h : low 22 s) : sz s = 0 ↔ s = 0 := by
  constructor
  · intro e; apply zero_bt.mpr; intro k hk
    by_cases h22 : k < 22
    · exact fb_ct_zero.mp e k h22
    · exact ts_nt fun z => h22 (h k hk z)
  · rintro rfl; exact sz_0
theorem sz_sub_eq {s t : Int32} (h : low 22 t) (p : sub s t) (e : sz s = sz t) : s = t := by
  apply Classical.byContradiction; intro n
  obtain ⟨k, hk, ht, hs⟩ : ∃ k, k < 32 ∧ bt t k = true ∧ bt s k = false := Classical.byContradiction fun z => n (sub_anti p fun k hk q => ts_nf fun y => z ⟨k, hk, q, y⟩)
  have h22 := h k hk ht
  have : sz s + 1 ≤ sz t := by
    have e1 := fb_ct_upd (bt s) true (i := k) (n := 22) h22
    have e2 : fb_ct (fun j => if j = k then true else bt s j) 22 ≤ fb_ct (bt t) 22 := fb_ct_sub fun j hj q => by
      by_cases ej : j = k
      · rw [ej]; exact ht
      · rw [if_neg ej] at q; exact p j (by omega) q
    rw [hs] at e1
    have e3 : fb_ct (fun j => if j = k then true else bt s j) 22 + 0 = fb_ct (bt s) 22 + 1 := e1
    show fb_ct (bt s) 22 + 1 ≤ fb_ct (bt t) 22
    omega
  omega
/-- without stone k -/
theorem bt_rm {s : Int32} {k i : Nat} (hk : k < 32) (hi : i < 32) : bt (dif s (one k)) i = (bt s i && !decide (i = k)) := by rw [bt_dif hi, bt_one hk hi]
theorem bt_ad {s : Int32} {k i : Nat} (hk : k < 32) (hi : i < 32) : bt (s ||| one k) i = (bt s i || decide (i = k)) := by rw [b_or, bt_one hk hi]
theorem sz_rm {s : Int32} {k : Nat} (hk : k < 22) (q : bt s k = true) : sz (dif s (one k)) + 1 = sz s := by
  have e1 := fb_ct_upd (bt s) false (i := k) (n := 22) hk
  rw [q] at e1
  simp at e1
  unfold sz
  rw [← e1]
  congr 1
  exact fb_ct_cong fun i hi => by
    rw [bt_rm (by omega) (by omega)]
    by_cases ei : i = k <;> simp [ei]
theorem sz_ad {s : Int32} {k : Nat} (hk : k < 22) (q : bt s k = false) : sz (s ||| one k) = sz s + 1 := by
  have e1 := fb_ct_upd (bt s) true (i := k) (n := 22) hk
  rw [q] at e1
  simp at e1
  unfold sz
  rw [← e1]
  exact fb_ct_cong fun i hi => by
    rw [bt_ad (by omega) (by omega)]
    by_cases ei : i = k <;> simp [ei]
theorem rm_one {s : Int32} {k : Nat} (hk : k < 32) (q : bt s k = true) : one k &&& s = one k := b_ext fun i hi => by
  rw [b_and, bt_one hk hi]
  by_cases e : i = k
  · subst e; simp [q]
  · simp [e]
theorem rm_no {s : Int32} {k : Nat} (hk : k < 32) (q : bt s k = false) : one k &&& s = 0 := b_ext fun i hi => by
  rw [b_and, bt_one hk hi, b_0]
  by_cases e : i = k
  · subst e; simp [q]
  · simp [e]
theorem one_ne {k : Nat} (hk : k < 32) : ¬ one k = 0 := fun e => by
  have : bt (one k) k = bt 0 k := by rw [e]
  rw [bt_one hk hk, b_0] at this; simp at this
theorem one_and {s : Int32} {k : Nat} (hk : k < 32) : ¬ one k &&& s = 0 ↔ bt s k = true := by
  constructor
  · intro n; exact ts_nf fun z => n (rm_no hk z)
  · intro q; rw [rm_one hk q]; exact one_ne hk
/-! falling -/
def Umo (U : Int32 → Int32) : Prop := ∀ s t k, sub s t → k < 32 → bt s k = true → bt (U t) k = true → bt (U s) k = true
def lwf (U : Int32 → Int32) (s : Int32) : Prop := ¬ s = 0 ∧ U s = 0
abbrev fallA (U : Int32 → Int32) (s : Int32) : Int32 := itR U 22 s
theorem it_sub {U : Int32 → Int32} : ∀ n s, sub (itR U n s) s := by
  intro n
  induction n with
  | zero => intro s; exact sub_r
  | succ n ih => intro s; rw [itR]; split
                 · exact sub_r
                 · exact sub_t (ih _) sub_dif
theorem it_keep {U : Int32 → Int32} (hm : Umo U) {t : Int32} (ht : U t = 0) : ∀ n s, sub t s → sub t (itR U n s) := by
  intro n
  induction n with
  | zero => intro s q; exact q
  | succ n ih =>
    intro s q
    rw [itR]; split
    · exact q
    · refine ih _ fun k hk z => ?_
      rw [bt_dif hk, q k hk z]
      have : bt (U s) k = false := ts_nt fun y => by
        have := hm t s k q hk z y
        rw [ht, b_0] at this; cases this
      rw [this]; rfl
theorem fall_fix {U : Int32 → Int32} (hU : Uok U) {s : Int32} : U (fallA U s) = 0 := it_fix hU 22 s (sz_le s)
theorem fall_lwf {U : Int32 → Int32} (hU : Uok U) {s : Int32} (n : ¬ fallA U s = 0) : lwf U (fallA U s) := ⟨n, fall_fix hU⟩
/-- a set comes down whole, unless a lawful one is in it -/
theorem fall_0 {U : Int32 → Int32} (hU : Uok U) (hm : Umo U) {s : Int32} : fallA U s = 0 ↔ ∀ t, sub t s → ¬ lwf U t := by
  constructor
  · intro e t ts l
    have := it_keep hm l.2 22 s ts
    rw [show itR U 22 s = 0 from e] at this
    exact l.1 (sub_anti this sub_0)
  · intro q
    apply Classical.byContradiction; intro n
    exact q _ (it_sub 22 s) (fall_lwf hU n)
theorem fall_sub_core {U : Int32 → Int32} (hm : Umo U) {t s : Int32} (ts : sub t s) (l : lwf U t) : sub t (fallA U s) := it_keep hm l.2 22 s ts
theorem fall_id {U : Int32 → Int32} {s : Int32} (e : U s = 0) : fallA U s = s := by show itR U 22 s = s; rw [itR, if_pos e]
/-- enough rounds are enough -/
theorem it_more {U : Int32 → Int32} (hU : Uok U) : ∀ n m s, sz s ≤ n → sz s ≤ m → itR U n s = itR U m s := by
  intro n
  induction n with
  | zero =>
    intro m s h1 _
    have e : U s = 0 := Classical.byContradiction fun z => by have := sz_drop hU z; omega
    cases m with
    | zero => rfl
    | succ m => rw [itR, itR, if_pos e]
  | succ n ih =>
    intro m s h1 h2
    rw [itR]
    split
    · rename_i e
      cases m with
      | zero => rfl
      | succ m => rw [itR, if_pos e]
    · rename_i e
      have hd := sz_drop hU e
      cases m with
      | zero => omega
      | succ m => rw [itR, if_neg e]; exact ih m _ (by omega) (by omega)
theorem fall_step {U : Int32 → Int32} (hU : Uok U) {s : Int32} (e : ¬ U s = 0) : fallA U s = fallA U (dif s (U s)) := by
  have hd : sz (dif s (U s)) < sz s := sz_drop hU e
  have h2 := sz_le s
  show itR U 22 s = itR U 22 _
  rw [show itR U 22 s = itR U 21 (dif s (U s)) by rw [itR, if_neg e]]
  exact it_more hU 21 22 _ (by omega) (by omega)
end T64
