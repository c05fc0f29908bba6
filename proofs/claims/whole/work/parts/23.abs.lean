/-! the stack machine without a heap -/
abbrev AS : Type := List Int64 × Int32
def apush (x : AS) (v : Int64) : AS := if x.1.length < 64 then (v :: x.1, x.2) else x
def apopV (x : AS) : Int64 := match x.1 with | [] => 0 | v :: _ => v
def apopS (x : AS) : AS := match x.1 with | [] => x | _ :: t => (t, x.2)
def ajF (br : Int32) (k : Int32) (x y : Int64) : Prop := (¬ br = 0 ∨ (¬ k = 2 ∧ ¬ k = 3 ∧ ¬ k = 4 ∧ y = 0)) ∨ 1000000000 < jnV k x y ∨ jnV k x y < -1000000000
noncomputable def ajn (x : AS) (k : Int32) (u v : Int64) : AS := @ite _ (jnC k) (Classical.propDecidable _) x (x.1, b2i (ajF x.2 k u v))
noncomputable def astp (F S : Int32 → Int32) (p i : Int32) (x : AS) : AS × Int32 :=
  if S i >>> ((10 : Int32) &&& 31) = 0 then (apush x (S i &&& 1023).toInt64, i)
  else if S i >>> ((10 : Int32) &&& 31) = 1 then (apush x (if S i &&& 1023 = 7 then p.toInt64 else (F (S i &&& 1023)).toInt64), i)
  else if S i >>> ((10 : Int32) &&& 31) = 9 then (apush (apopS x) (if apopV x = 0 then 1 else 0), i)
  else if S i >>> ((10 : Int32) &&& 31) = 10 ∨ S i >>> ((10 : Int32) &&& 31) = 11 then @ite _ (jmp (S i >>> ((10 : Int32) &&& 31)) (apopV x)) (Classical.propDecidable _) (apush (apopS x) (apopV x), if i < (S i &&& 1023) - 1 then (S i &&& 1023) - 1 else i) (apopS x, i)
  else (apush (ajn (apopS (apopS x)) (S i >>> ((10 : Int32) &&& 31)) (apopV (apopS x)) (apopV x)) (jnV (S i >>> ((10 : Int32) &&& 31)) (apopV (apopS x)) (apopV x)), i)
noncomputable def aval (F S : Int32 → Int32) (p T : Int32) : Nat → Int32 → AS → AS
  | 0, _, x => x
  | n + 1, i, x => if T ≤ i then x else if ¬ x.2 = 0 then x else aval F S p T n ((astp F S p i x).2 + 1) (astp F S p i x).1
/-- the asker's heap holds that stack -/
def aRel (g : Hp) (x : AS) : Prop := hI g o_asker 1 = nI x.1.length ∧ x.1.length ≤ 64 ∧ (∀ i, i < x.1.length → hJ g o_asker_stack i = x.1.reverse.getD i 0) ∧ hI g o_asker 2 = x.2
section T23
variable {h g : Hp}
theorem rel_push {x : AS} {v : Int64} (q : aRel g x) : aRel (pushH g v) (apush x v) := by
  obtain ⟨q1, q2, q3, q4⟩ := q
  unfold pushH apush
  by_cases hl : x.1.length < 64
  · rw [if_pos hl, if_pos ⟨by rw [q1]; exact nI_pos' (by omega), by rw [q1]; exact nI_lt (b := 64) hl (by decide)⟩]
    refine ⟨?_, by simp; omega, fun i hi => ?_, ?_⟩
    · rw [rd_same, q1, List.length_cons, nI_succ]
    · have e1 : hJ (wI (wJ g o_asker_stack (hI g o_asker 1).toNatClampNeg v) o_asker 1 (hI g o_asker 1 + 1)) o_asker_stack i = if i = x.1.length then v else hJ g o_asker_stack i := by
        show up2 g.2.1 o_asker_stack _ v o_asker_stack i = _
        rw [q1, nI_clamp (by omega)]
        by_cases hi2 : i = x.1.length <;> simp [up2, hi2]
      rw [e1]
      simp only [List.length_cons] at hi
      by_cases hi2 : i = x.1.length
      · subst hi2; simp
      · have hi3 : i < x.1.length := by omega
        simp [hi2, q3 i hi3, List.getElem?_append, hi3]
    · rw [rd_k (by decide)]; exact q4
  · rw [if_neg hl, if_neg (fun z => ?_)]
    · exact ⟨q1, q2, q3, q4⟩
    · have : x.1.length = 64 := by omega
      rw [q1, this] at z; exact absurd z.2 (by decide)
theorem rel_popV {x : AS} (q : aRel g x) : popV g = apopV x := by
  obtain ⟨q1, q2, q3, q4⟩ := q
  unfold popV apopV
  match hx : x.1, q1, q2, q3 with
  | [], q1, q2, q3 =>
    have z : popE g := Or.inl (by rw [q1]; decide)
    rw [if_pos z]
  | v :: t, q1, q2, q3 =>
    simp only [List.length_cons] at q1 q2 q3
    have n : ¬ popE g := by
      rintro (z | z)
      · rw [q1] at z; exact absurd z (nI_nlt (a := t.length + 1) (b := 1) (by omega) (by omega))
      · rw [q1] at z; exact absurd z (nI_nlt (a := 64) (b := t.length + 1) (by omega) (by decide))
    rw [if_neg n, q1, nI_pred, nI_clamp (by omega), q3 t.length (by omega)]
    simp
theorem rel_popS {x : AS} (q : aRel g x) : aRel (popH g) (apopS x) := by
  obtain ⟨q1, q2, q3, q4⟩ := q
  obtain ⟨l, b⟩ := x
  unfold popH apopS
  match l, q1, q2, q3, q4 with
  | [], q1, q2, q3, q4 =>
    have z : popE g := Or.inl (by rw [q1]; show nI 0 < 1; decide)
    rw [if_pos z]; exact ⟨q1, q2, q3, q4⟩
  | v :: t, q1, q2, q3, q4 =>
    simp only [List.length_cons] at q1 q2 q3
    have n : ¬ popE g := by
      rintro (z | z)
      · rw [q1] at z; exact absurd z (nI_nlt (a := t.length + 1) (b := 1) (by omega) (by omega))
      · rw [q1] at z; exact absurd z (nI_nlt (a := 64) (b := t.length + 1) (by omega) (by decide))
    rw [if_neg n]
    refine ⟨?_, by show t.length ≤ 64; omega, fun i hi => ?_, ?_⟩
    · rw [rd_same, q1, nI_pred]
    · have hi : i < t.length := hi
      have := q3 i (by omega)
      show hJ g o_asker_stack i = _
      rw [this]
      simp [List.getElem?_append, hi]
    · rw [rd_k (by decide)]; exact q4
theorem rel_jn {x : AS} {k : Int32} {u v : Int64} (q : aRel g x) : aRel (jnH g k u v) (ajn x k u v) := by
  unfold jnH ajn
  by_cases c : jnC k
  · rw [if_pos c, if_pos c]; exact q
  · rw [if_neg c, if_neg c]
    obtain ⟨q1, q2, q3, q4⟩ := q
    refine ⟨?_, q2, q3, ?_⟩
    · rw [rd_k (by decide)]; exact q1
    · rw [rd_same]
      show b2i (jnF g k u v) = b2i (ajF x.2 k u v)
      unfold jnF ajF; rw [q4]
theorem rel_vst {x : AS} {o : Nat} {p i : Int32} (q : aRel g x) : aRel (vst g o p i).1 (astp (fFact g p) (fStep g o) p i x).1 ∧ (vst g o p i).2 = (astp (fFact g p) (fStep g o) p i x).2 := by
  have v1 := rel_popV q
  have s1 := rel_popS q
  have v2 := rel_popV s1
  have s2 := rel_popS s1
  unfold vst astp stK stN
  rw [v1, v2]
  split
  · exact ⟨rel_push q, rfl⟩
  split
  · exact ⟨rel_push q, rfl⟩
  split
  · exact ⟨rel_push s1, rfl⟩
  split
  · split
    · exact ⟨rel_push s1, rfl⟩
    · exact ⟨s1, rfl⟩
  · exact ⟨rel_push (rel_jn s2), rfl⟩
theorem fFact_A {p w : Int32} (x : sameA h g) : fFact g p w = fFact h p w := fFact_cong (fun k => x.1 o_wall_facts k (by decide)) p w
theorem fStep_A {o : Nat} {i : Int32} (x : sameA h g) (q : 126 ≤ o) : fStep g o i = fStep h o i := by
  unfold fStep; rw [sameA_L x, x.1 (o + 1) _ (by show o + 1 ≠ 85; omega)]
theorem rel_val {o : Nat} {p T : Int32} (q : 126 ≤ o) : ∀ (n : Nat) (i : Int32) (g : Hp) (x : AS), sameA h g → aRel g x → aRel (valR o p T n i g) (aval (fFact h p) (fStep h o) p T n i x) := by
  intro n
  induction n with
  | zero => intro i g x _ r; exact r
  | succ n ih =>
    intro i g x sa r
    have e1 : fFact g p = fFact h p := funext fun w => fFact_A sa
    have e2 : fStep g o = fStep h o := funext fun w => fStep_A sa q
    have rv := rel_vst (o := o) (p := p) (i := i) r
    rw [e1, e2] at rv
    unfold valR aval
    split
    · exact r
    rw [r.2.2.2]
    split
    · exact r
    · rw [rv.2]; exact ih _ _ _ (sameA_t sa sameA_vst) rv.1
/-- the value of a part, and whether it broke, without a heap -/
noncomputable def pvS (h : Hp) (o : Nat) (part p : Int32) : AS := aval (fFact h p) (fStep h o) p (fStart h o (part + 1)) 401 (fStart h o part) ([], 0)
noncomputable def pvV (h : Hp) (o : Nat) (part p : Int32) : Int64 := apopV (pvS h o part p)
noncomputable def pvB (h : Hp) (o : Nat) (part p : Int32) : Int32 := (pvS h o part p).2
theorem vl_pv {o : Nat} {part p : Int32} (q : 126 ≤ o) (sa : sameA h g) : vlV g o part p = pvV h o part p ∧ hI (vlH g o part p) o_asker 2 = pvB h o part p := by
  have r0 : aRel (as0 g) ([], 0) := ⟨by show hI (wI (wI g o_asker 1 0) o_asker 2 0) o_asker 1 = 0; rw [rd_k (by decide), rd_same], by decide, fun i hi => by simp at hi, rd_same⟩
  have r := rel_val (h := h) (p := p) (T := fStart h o (part + 1)) q 401 (fStart h o part) (as0 g) ([], 0) (sameA_t sa sameA_as0) r0
  have e : vlG g o part p = valR o p (fStart h o (part + 1)) 401 (fStart h o part) (as0 g) := by unfold vlG; rw [fStart_same sa q, fStart_same sa q]
  unfold vlV vlH pvV pvB
  rw [e]
  refine ⟨rel_popV r, ?_⟩
  have := (rel_popS r).2.2.2
  rw [this]
  unfold apopS pvS
  split <;> rfl
def pSo (h : Hp) (o : Nat) (part p : Int32) : Prop := sEmp h o part ∨ (¬ pvV h o part p = 0 ∧ pvB h o part p = 0)
theorem isSo_p {o : Nat} {part p : Int32} (q : 126 ≤ o) (sa : sameA h g) : isSoP g o part p ↔ pSo h o part p := by
  unfold isSoP pSo sEmp
  rw [fStart_same sa q, fStart_same sa q, (vl_pv q sa).1, (vl_pv q sa).2]
theorem sEmp_A {o : Nat} {part : Int32} (q : 126 ≤ o) (sa : sameA h g) : sEmp g o part ↔ sEmp h o part := by
  unfold sEmp; rw [fStart_same sa q, fStart_same sa q]
/-- bound by one of the first clauses -/
def pBd (h : Hp) (o C : Nat) (p : Int32) : Prop := ∃ c, c < C ∧ sEmp h o (nI (2 * c)) ∧ pSo h o (nI (2 * c + 1)) p
theorem bd_p {o : Nat} {p : Int32} (q : 126 ≤ o) : ∀ (n c : Nat) (g : Hp), sameA h g → ((bdR o p n c g).1 ↔ ∃ e, c ≤ e ∧ e < c + n ∧ sEmp h o (nI (2 * e)) ∧ pSo h o (nI (2 * e + 1)) p) := by
  intro n
  induction n with
  | zero => intro c g _; simp [bdR]; intro e h1 h2; omega
  | succ n ih =>
    intro c g sa
    have hb : bdQ g o p c ↔ sEmp h o (nI (2 * c)) ∧ pSo h o (nI (2 * c + 1)) p := by
      unfold bdQ; rw [sEmp_A q sa, isSo_p q sa]
    unfold bdR
    split
    · rename_i z
      exact ⟨fun _ => ⟨c, Nat.le_refl _, by omega, hb.mp z⟩, fun _ => trivial⟩
    · rename_i z
      rw [ih (c + 1) _ (sameA_t sa sameA_bdN)]
      constructor
      · rintro ⟨e, h1, h2, h3⟩; exact ⟨e, by omega, by omega, h3⟩
      · rintro ⟨e, h1, h2, h3⟩
        by_cases he : e = c
        · subst he; exact absurd (hb.mpr h3) z
        · exact ⟨e, by omega, by omega, h3⟩
theorem bd_pBd {o C : Nat} {p : Int32} (q : 126 ≤ o) (sa : sameA h g) : (bdR o p C 0 g).1 ↔ pBd h o C p := by
  rw [bd_p q C 0 g sa]; unfold pBd; simp
/-- what is needed behind the clauses from c on -/
noncomputable def pNs (h : Hp) (o : Nat) (p : Int32) (c : Nat) (nd : Int32) : Int32 :=
  @ite _ (¬ sEmp h o (nI (2 * c)) ∧ pSo h o (nI (2 * c + 1)) p ∧ pvB h o (nI (2 * c)) p = 0) (Classical.propDecidable _) (clampL (pvV h o (nI (2 * c)) p)) nd
noncomputable def pNd (h : Hp) (o : Nat) (p : Int32) : Nat → Nat → Int32 → Int32
  | 0, _, nd => nd
  | n + 1, c, nd => pNd h o p n (c + 1) (pNs h o p c nd)
theorem nd_s {o c : Nat} {p nd : Int32} (q : 126 ≤ o) (sa : sameA h g) : (ndS g o p c nd).1 = pNs h o p c nd := by
  unfold ndS pNs
  by_cases c1 : sEmp g o (nI (2 * c))
  · rw [if_pos c1, if_neg (fun z => z.1 ((sEmp_A q sa).mp c1))]
  · rw [if_neg c1]
    by_cases c2 : isSoP g o (nI (2 * c + 1)) p
    · have v := vl_pv (part := nI (2 * c)) (p := p) q (sameA_t sa (sameA_isSoH (o := o) (part := nI (2 * c + 1)) (p := p)))
      rw [if_pos c2]
      by_cases c3 : pvB h o (nI (2 * c)) p = 0
      · have A : ¬ sEmp h o (nI (2 * c)) ∧ pSo h o (nI (2 * c + 1)) p ∧ pvB h o (nI (2 * c)) p = 0 := ⟨fun z => c1 ((sEmp_A q sa).mpr z), (isSo_p q sa).mp c2, c3⟩
        rw [if_pos A]
        show (if hI (vlH (isSoH g o (nI (2 * c + 1)) p) o (nI (2 * c)) p) o_asker 2 = 0 then _ else nd) = _
        rw [v.2, if_pos c3, v.1]
      · have A : ¬ (¬ sEmp h o (nI (2 * c)) ∧ pSo h o (nI (2 * c + 1)) p ∧ pvB h o (nI (2 * c)) p = 0) := fun z => c3 z.2.2
        rw [if_neg A]
        show (if hI (vlH (isSoH g o (nI (2 * c + 1)) p) o (nI (2 * c)) p) o_asker 2 = 0 then _ else nd) = _
        rw [v.2, if_neg c3]
    · rw [if_neg c2, if_neg (fun z => c2 ((isSo_p q sa).mpr z.2.1))]
theorem nd_p {o : Nat} {p : Int32} (q : 126 ≤ o) : ∀ (n c : Nat) (nd : Int32) (g : Hp), sameA h g → (ndR o p n c nd g).1 = pNd h o p n c nd := by
  intro n
  induction n with
  | zero => intro c nd g _; rfl
  | succ n ih =>
    intro c nd g sa
    rw [ndR, pNd, ih _ _ _ (sameA_t sa sameA_ndS), nd_s q sa]
end T23
