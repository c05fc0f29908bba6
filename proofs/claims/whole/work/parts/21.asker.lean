/-! a law is asked: the stack machine -/
section T21
variable {cx : Cx} {d a : Nat} {h : Hp}
theorem wI_wI {o k : Nat} {v w : Int32} : wI (wI h o k v) o k w = wI h o k w := by
  unfold wI
  have : up2 (up2 h.1 o k v) o k w = up2 h.1 o k w := by
    funext p q
    unfold up2
    by_cases h1 : p = o <;> by_cases h2 : q = k <;> simp [h1, h2]
  simp only [this]
def pushH (h : Hp) (v : Int64) : Hp := if 0 ≤ hI h o_asker 1 ∧ hI h o_asker 1 < 64 then wI (wJ h o_asker_stack (hI h o_asker 1).toNatClampNeg v) o_asker 1 (hI h o_asker 1 + 1) else h
theorem m_push {v : Int64} : M cx jX0_push d a [.ref o_asker, .long v] h (RV (pushH h v)) := by
  refine sX0_push rfl (And.intro (fun q => eX0_push ⟨rfl, ?_⟩) (fun q => And.intro (fun q2 => eX0_push ⟨rfl, ?_⟩) (fun q2 => And.intro ?_ (eX0_push ⟨rfl, ?_⟩))))
  · unfold pushH; rw [if_neg (fun z => absurd q (Int32.not_lt.mpr z.1))]
  · unfold pushH; rw [if_neg (fun z => absurd q2 (Int32.not_le.mpr z.2))]
  · exact vp_len (n := 64) (by decide) (Int32.not_lt.mp q) (Int32.not_le.mp q2)
  · unfold pushH; rw [if_pos ⟨Int32.not_lt.mp q, Int32.not_le.mp q2⟩]; rfl
def popE (h : Hp) : Prop := hI h o_asker 1 < 1 ∨ 64 < hI h o_asker 1
noncomputable def popV (h : Hp) : Int64 := @ite _ (popE h) (Classical.propDecidable _) 0 (hJ h o_asker_stack (hI h o_asker 1 - 1).toNatClampNeg)
noncomputable def popH (h : Hp) : Hp := @ite _ (popE h) (Classical.propDecidable _) h (wI h o_asker 1 (hI h o_asker 1 - 1))
theorem vp_pop {i : Int32} (h1 : ¬ i < 1) (h2 : i ≤ 64) : vp_in (i - 1) 64 := by
  rw [vp_in_iff]
  have g1 := Int32.le_iff_toInt_le.mp (Int32.not_lt.mp h1)
  have g2 := Int32.le_iff_toInt_le.mp h2
  have e0 : (1 : Int32).toInt = 1 := rfl
  have e1 : (64 : Int32).toInt = 64 := rfl
  have e2 : (i - 1).toInt = i.toInt - 1 := by
    rw [Int32.toInt_sub, e0]; apply Int.bmod_eq_of_le <;> omega
  omega
theorem m_pop : M cx jX0_pop d a [.ref o_asker] h (RQ (.long (popV h)) (popH h)) := by
  refine sX0_pop rfl (And.intro (fun q => eX0_pop ⟨?_, ?_⟩) (fun q => And.intro (fun q2 => eX0_pop (And.intro ?_ ⟨?_, ?_⟩)) (fun q2 => eX0_pop ⟨?_, ?_⟩)))
  · unfold popV; rw [if_pos (show popE h from Or.inl q)]; rfl
  · unfold popH; rw [if_pos (show popE h from Or.inl q)]
  · have : hI (wI h o_asker 1 (hI h o_asker 1 - 1)) o_asker 1 = hI h o_asker 1 - 1 := rd_same
    show vp_in (hI (wI h o_asker 1 (hI h o_asker 1 - 1)) o_asker 1) 64
    rw [this]; exact vp_pop q q2
  · have n : ¬ popE h := fun z => z.elim q (Int32.not_lt.mpr q2)
    have : hI (wI h o_asker 1 (hI h o_asker 1 - 1)) o_asker 1 = hI h o_asker 1 - 1 := rd_same
    show some (Value.long (hJ (wI h o_asker 1 (hI h o_asker 1 - 1)) o_asker_stack (hI (wI h o_asker 1 (hI h o_asker 1 - 1)) o_asker 1).toNatClampNeg)) = _
    unfold popV; rw [if_neg n, this]; rfl
  · have n : ¬ popE h := fun z => z.elim q (Int32.not_lt.mpr q2)
    unfold popH; rw [if_neg n]
  · unfold popV; rw [if_pos (show popE h from Or.inr (Int32.not_le.mp q2))]; rfl
  · unfold popH; rw [if_pos (show popE h from Or.inr (Int32.not_le.mp q2))]
def jnV (k : Int32) (x y : Int64) : Int64 := if k = 6 then (if x < y then 1 else 0) else if k = 7 then (if y < x then 1 else 0) else if k = 8 then (if x = y then 1 else 0) else if k = 2 then x + y else if k = 3 then x - y else if k = 4 then x * y else if y = 0 then 0 else x / y
def jnC (k : Int32) : Prop := k = 6 ∨ k = 7 ∨ k = 8
def jnF (h : Hp) (k : Int32) (x y : Int64) : Prop := (¬ hI h o_asker 2 = 0 ∨ (¬ k = 2 ∧ ¬ k = 3 ∧ ¬ k = 4 ∧ y = 0)) ∨ 1000000000 < jnV k x y ∨ jnV k x y < -1000000000
noncomputable def jnH (h : Hp) (k : Int32) (x y : Int64) : Hp := @ite _ (jnC k) (Classical.propDecidable _) h (wI h o_asker 2 (b2i (jnF h k x y)))
theorem m_joined {k : Int32} {x y : Int64} : M cx jX0_joined d a [.ref o_asker, .int k, .long x, .long y] h (RQ (.long (jnV k x y)) (jnH h k x y)) := by
  have L1 : kl 1 0 = 1 := rfl
  have L0 : kl 0 0 = 0 := rfl
  have tail : ∀ (g : Hp) (v : Int64), ¬ jnC k → v = jnV k x y → (∀ w, wI g o_asker 2 w = wI h o_asker 2 w) → (¬ hI g o_asker 2 = 0 ↔ (¬ hI h o_asker 2 = 0 ∨ (¬ k = 2 ∧ ¬ k = 3 ∧ ¬ k = 4 ∧ y = 0))) → E cx jX0_joined d a 123 [some (.ref o_asker), some (.int k), some (.long x), none, some (.long y), none, some (.long v), none] [] g (RQ (.long (jnV k x y)) (jnH h k x y)) := by
    intro g v nc ev eg eb
    have fin : ∀ w, w = b2i (jnF h k x y) → isB w → E cx jX0_joined d a 154 [some (.ref o_asker), some (.int k), some (.long x), none, some (.long y), none, some (.long v), none] [.int w, .ref o_asker] g (RQ (.long (jnV k x y)) (jnH h k x y)) := fun w ew hw => by
      refine eX0_joined (And.intro hw ⟨by rw [ev], ?_⟩)
      unfold jnH; rw [if_neg nc, ← ew]; exact eg w
    have yes : jnF h k x y → E cx jX0_joined d a 149 [some (.ref o_asker), some (.int k), some (.long x), none, some (.long y), none, some (.long v), none] [.ref o_asker] g (RQ (.long (jnV k x y)) (jnH h k x y)) := fun z => eX0_joined (fin 1 (b2i_t z).symm (Or.inr rfl))
    refine eX0_joined (And.intro (fun q => yes (Or.inl (eb.mp q))) (fun q => And.intro (fun q2 => yes (Or.inr (Or.inl ?_))) (fun q2 => And.intro (fun q3 => eX0_joined (fin 0 (b2i_f ?_).symm (Or.inl rfl))) (fun q3 => yes (Or.inr (Or.inr ?_))))))
    · rw [← ev]; exact (lg_cmp_gt _ _).mp q2
    · rintro (z | z | z)
      · exact absurd (eb.mpr z) (fun n => n q)
      · rw [← ev] at z; exact q2 ((lg_cmp_gt _ _).mpr z)
      · rw [← ev] at z; exact absurd z (Int64.not_lt.mpr ((lg_cmp_ge _ _).mp q3))
    · rw [← ev]; exact Int64.not_le.mp (fun z => q3 ((lg_cmp_ge _ _).mpr z))
  have cmp : ∀ (c : Prop) (w : Int64), jnC k → w = jnV k x y → RQ (.long (jnV k x y)) (jnH h k x y) (some (.long w)) h := fun c w hc ew => ⟨by rw [ew], by unfold jnH; rw [if_pos hc]⟩
  refine sX0_joined rfl (And.intro (fun q6 => eX0_joined (And.intro (fun q7 => eX0_joined (And.intro (fun q8 => eX0_joined (And.intro (fun q2 => eX0_joined (And.intro (fun q3 => eX0_joined (And.intro (fun q4 => eX0_joined (And.intro (fun q0 => eX0_joined (And.intro ?_ ?_)) (fun q0 => And.intro (Or.inr rfl) ?_))) (fun q4 => ?_))) (fun q3 => ?_))) (fun q2 => ?_))) (fun q8 => And.intro (fun z => eX0_joined (eX0_joined ?_)) (fun z => eX0_joined ?_)))) (fun q7 => And.intro (fun z => eX0_joined (eX0_joined ?_)) (fun z => eX0_joined ?_)))) (fun q6 => And.intro (fun z => eX0_joined (eX0_joined ?_)) (fun z => eX0_joined ?_)))
  · exact fun z => q0 (by rw [z, L0]; exact (lg_cmp_eq _ _).mpr rfl)
  · have ny : ¬ y = 0 := fun z => q0 (by rw [z, L0]; exact (lg_cmp_eq _ _).mpr rfl)
    refine tail h _ (fun z => z.elim q6 (fun z => z.elim q7 q8)) ?_ (fun _ => rfl) ⟨fun z => Or.inl z, fun z => z.elim id (fun z => absurd z.2.2.2 ny)⟩
    simp [jnV, q6, q7, q8, q2, q3, q4, ny]
  · have y0 : y = 0 := (lg_cmp_eq _ _).mp q0
    refine tail _ _ (fun z => z.elim q6 (fun z => z.elim q7 q8)) ?_ (fun _ => wI_wI) ⟨fun _ => Or.inr ⟨q2, q3, q4, y0⟩, fun _ => ?_⟩
    · simp [jnV, q6, q7, q8, q2, q3, q4, y0, L0]
    · show ¬ hI (wI h o_asker 2 1) o_asker 2 = 0
      rw [rd_same]; decide
  · refine tail h _ (fun z => z.elim q6 (fun z => z.elim q7 q8)) ?_ (fun _ => rfl) ⟨fun z => Or.inl z, fun z => z.elim id (fun z => absurd q4 z.2.2.1)⟩
    simp [jnV, q6, q7, q8, q2, q3, q4]
  · refine tail h _ (fun z => z.elim q6 (fun z => z.elim q7 q8)) ?_ (fun _ => rfl) ⟨fun z => Or.inl z, fun z => z.elim id (fun z => absurd q3 z.2.1)⟩
    simp [jnV, q6, q7, q8, q2, q3]
  · refine tail h _ (fun z => z.elim q6 (fun z => z.elim q7 q8)) ?_ (fun _ => rfl) ⟨fun z => Or.inl z, fun z => z.elim id (fun z => absurd q2 z.1)⟩
    simp [jnV, q6, q7, q8, q2]
  · refine cmp True _ (Or.inr (Or.inr q8)) ?_
    subst q8
    have : ¬ x = y := fun w => z ((lg_cmp_eq _ _).mpr w)
    simp [jnV, this, L0]
  · refine cmp True _ (Or.inr (Or.inr q8)) ?_
    subst q8
    have : x = y := (lg_cmp_eq _ _).mp z
    simp [jnV, this, L1]
  · refine cmp True _ (Or.inr (Or.inl q7)) ?_
    subst q7
    have : ¬ y < x := Int64.not_lt.mpr ((lg_cmp_le _ _).mp z)
    simp [jnV, this, L0]
  · refine cmp True _ (Or.inr (Or.inl q7)) ?_
    subst q7
    have : y < x := Int64.not_le.mp (fun w => z ((lg_cmp_le _ _).mpr w))
    simp [jnV, this, L1]
  · refine cmp True _ (Or.inl q6) ?_
    subst q6
    have : ¬ x < y := Int64.not_lt.mpr ((lg_cmp_ge _ _).mp z)
    simp [jnV, this, L0]
  · refine cmp True _ (Or.inl q6) ?_
    subst q6
    have : x < y := Int64.not_le.mp (fun w => z ((lg_cmp_ge _ _).mpr w))
    simp [jnV, this, L1]
/-! one step of a law's code -/
theorem lawok_push {o : Nat} {v : Int64} (q : lawok h o) : lawok (pushH h v) o := by
  unfold pushH; split <;> exact q
theorem lawok_pop {o : Nat} (q : lawok h o) : lawok (popH h) o := by
  unfold popH; split <;> exact q
theorem lawok_jn {o : Nat} {k : Int32} {x y : Int64} (q : lawok h o) : lawok (jnH h k x y) o := by
  unfold jnH; split <;> exact q
def stK (h : Hp) (o : Nat) (i : Int32) : Int32 := fStep h o i >>> ((10 : Int32) &&& 31)
def stN (h : Hp) (o : Nat) (i : Int32) : Int32 := fStep h o i &&& 1023
def jmp (k : Int32) (v : Int64) : Prop := (¬ v = 0 ↔ k = 11)
noncomputable def vst (h : Hp) (o : Nat) (p i : Int32) : Hp × Int32 :=
  if stK h o i = 0 then (pushH h (stN h o i).toInt64, i)
  else if stK h o i = 1 then (pushH h (if stN h o i = 7 then p.toInt64 else (fFact h p (stN h o i)).toInt64), i)
  else if stK h o i = 9 then (pushH (popH h) (if popV h = 0 then 1 else 0), i)
  else if stK h o i = 10 ∨ stK h o i = 11 then @ite _ (jmp (stK h o i) (popV h)) (Classical.propDecidable _) (pushH (popH h) (popV h), if i < stN h o i - 1 then stN h o i - 1 else i) (popH h, i)
  else (pushH (jnH (popH (popH h)) (stK h o i) (popV (popH h)) (popV h)) (jnV (stK h o i) (popV (popH h)) (popV h)), i)
noncomputable def valR (o : Nat) (p T : Int32) : Nat → Int32 → Hp → Hp
  | 0, _, g => g
  | n + 1, i, g => if T ≤ i then g else if ¬ hI g o_asker 2 = 0 then g else valR o p T n ((vst g o p i).2 + 1) (vst g o p i).1
theorem lawok_vst {o : Nat} {p i : Int32} (q : lawok h o) : lawok (vst h o p i).1 o := by
  unfold vst
  split
  · exact lawok_push q
  split
  · exact lawok_push q
  split
  · exact lawok_push (lawok_pop q)
  split
  · split
    · exact lawok_push (lawok_pop q)
    · exact lawok_pop q
  · exact lawok_push (lawok_jn (lawok_pop (lawok_pop q)))
theorem hN_push {v : Int64} : hN (pushH h v) = hN h := by unfold pushH; split <;> rfl
theorem hN_pop : hN (popH h) = hN h := by unfold popH; split <;> rfl
theorem hN_jn {k : Int32} {x y : Int64} : hN (jnH h k x y) = hN h := by unfold jnH; split <;> rfl
theorem hN_vst {o : Nat} {p i : Int32} : hN (vst h o p i).1 = hN h := by
  unfold vst
  split
  · exact hN_push
  split
  · exact hN_push
  split
  · rw [hN_push, hN_pop]
  split
  · split
    · rw [hN_push, hN_pop]
    · exact hN_pop
  · rw [hN_push, hN_jn, hN_pop, hN_pop]
/-- a number of ten bits -/
theorem and1023 (x : Int32) : ∃ n : Nat, n < 1024 ∧ x &&& 1023 = nI n := pk_andE x 10 (by decide)
theorem vst_i {o m : Nat} {p : Int32} (hm : m < 2000) : ∃ m', m ≤ m' ∧ m' < 2000 ∧ (vst h o p (nI m)).2 = nI m' := by
  unfold vst
  split
  · exact ⟨m, Nat.le_refl _, hm, rfl⟩
  split
  · exact ⟨m, Nat.le_refl _, hm, rfl⟩
  split
  · exact ⟨m, Nat.le_refl _, hm, rfl⟩
  split
  · split
    · show ∃ m', m ≤ m' ∧ m' < 2000 ∧ (if nI m < stN h o (nI m) - 1 then stN h o (nI m) - 1 else nI m) = nI m'
      obtain ⟨n, hn, en⟩ := and1023 (fStep h o (nI m))
      have en : stN h o (nI m) = nI n := en
      rw [en]
      split
      · rename_i hlt
        match n, hn with
        | 0, _ => exfalso; have h1 : (nI 0 - 1 : Int32) = -1 := by decide
                  rw [h1] at hlt; have := nI_pos (n := m) (by omega); exact this (Int32.lt_trans hlt (by decide))
        | n + 1, hn =>
          rw [nI_pred] at hlt ⊢
          have := (nI_ltI (a := m) (b := n) (by omega) (by omega)).mp hlt
          exact ⟨n, by omega, by omega, rfl⟩
      · exact ⟨m, Nat.le_refl _, hm, rfl⟩
    · exact ⟨m, Nat.le_refl _, hm, rfl⟩
  · exact ⟨m, Nat.le_refl _, hm, rfl⟩
theorem e_valueStep (hd : 2 ≤ d) {o : Nat} {i p T S : Int32} {g : Hp} {Q : Option Value → Hp → Prop} (q : lawok g o) (hlt : ¬ T ≤ i) (hbr : hI g o_asker 2 = 0)
    (K : E cx jX0_value d a 26 [some (.ref o_asker), some (.ref o), some (.int S), some (.ref o_wall), some (.int p), some (.int T), some (.int ((vst g o p i).2 + 1)), none, none, none, none] [] (vst g o p i).1 Q) :
    E cx jX0_value d a 26 [some (.ref o_asker), some (.ref o), some (.int S), some (.ref o_wall), some (.int p), some (.int T), some (.int i), none, none, none, none] [] g Q := by
  have L1 : kl 1 0 = 1 := rfl
  have L0 : kl 0 0 = 0 := rfl
  have fin : ∀ (i' : Int32) (g' : Hp) (w9 : Option Value), vst g o p i = (g', i') → E cx jX0_value d a 230 [some (.ref o_asker), some (.ref o), some (.int S), some (.ref o_wall), some (.int p), some (.int T), some (.int i'), some (.int (stK g o i)), some (.int (stN g o i)), w9, none] [] g' Q := fun i' g' w9 e => by
    rw [e] at K
    exact e_clr 7 (e_clr 8 (e_clr 9 (eX0_value K)))
  have lf := lawok_vst (p := p) (i := i) q
  refine eX0_value (And.intro (fun z => absurd z hlt) (fun _ => And.intro (fun z => absurd hbr z) (fun _ => wcV (m_stepAt q) (wcV (m_stepAt q) ?_ q.1) q.1)))
  have E205 : ∀ (i' : Int32) (g' : Hp), vst g o p i = (g', i') → E cx jX0_value d a 205 [some (.ref o_asker), some (.ref o), some (.int S), some (.ref o_wall), some (.int p), some (.int T), some (.int i'), some (.int (stK g o i)), some (.int (stN g o i)), some (.long (popV g)), none] [] g' Q := fun i' g' e => eX0_value (fin _ _ _ e)
  have E155 : ¬ stK g o i = 0 → ¬ stK g o i = 1 → ¬ stK g o i = 9 → (stK g o i = 10 ∨ stK g o i = 11) → E cx jX0_value d a 155 [some (.ref o_asker), some (.ref o), some (.int S), some (.ref o_wall), some (.int p), some (.int T), some (.int i), some (.int (stK g o i)), some (.int (stN g o i)), none, none] [] g Q := fun n0 n1 n9 k1 => by
    have ev1 : jmp (stK g o i) (popV g) → vst g o p i = (pushH (popH g) (popV g), if i < stN g o i - 1 then stN g o i - 1 else i) := fun z => by
      unfold vst; rw [if_neg n0, if_neg n1, if_neg n9, if_pos k1, if_pos z]
    have ev2 : ¬ jmp (stK g o i) (popV g) → vst g o p i = (popH g, i) := fun z => by
      unfold vst; rw [if_neg n0, if_neg n1, if_neg n9, if_pos k1, if_neg z]
    have E185 : ∀ u v : Int32, (u = v ↔ jmp (stK g o i) (popV g)) → E cx jX0_value d a 185 [some (.ref o_asker), some (.ref o), some (.int S), some (.ref o_wall), some (.int p), some (.int T), some (.int i), some (.int (stK g o i)), some (.int (stN g o i)), some (.long (popV g)), none] [.int v, .int u] (popH g) Q := fun u v e => by
      refine eX0_value (And.intro (fun z => E205 _ _ (ev2 (fun y => z (e.mpr y)))) (fun z => wcV0 m_push (And.intro ⟨Nat.le_of_ble_eq_true rfl, by omega⟩ (E205 _ _ (ev1 (e.mp z)))) (hok := Or.inr hN_push)))
    have E173 : ∀ u : Int32, (u = 0 ∨ u = 1) → (u = 1 ↔ ¬ popV g = 0) → E cx jX0_value d a 173 [some (.ref o_asker), some (.ref o), some (.int S), some (.ref o_wall), some (.int p), some (.int T), some (.int i), some (.int (stK g o i)), some (.int (stN g o i)), some (.long (popV g)), none] [.int u] (popH g) Q := fun u hu eu => by
      refine eX0_value (And.intro (fun z => eX0_value (E185 u 0 ?_)) (fun z => E185 u 1 ?_))
      · unfold jmp
        rw [← eu]
        rcases hu with rfl | rfl
        · simp [z]
        · simp [z]
      · unfold jmp
        rw [← eu]
        simp [z]
    refine eX0_value (wcV m_pop (And.intro (fun z => eX0_value (E173 0 (Or.inl rfl) ?_)) (fun z => E173 1 (Or.inr rfl) ?_)) (hok := Or.inr hN_pop))
    · have : popV g = 0 := (lg_cmp_eq _ _).mp z
      simp [this]
    · have : ¬ popV g = 0 := fun y => z ((lg_cmp_eq _ _).mpr y)
      simp [this]
  refine And.intro (fun k0 => eX0_value (And.intro (fun k1 => eX0_value (And.intro (fun k9 => eX0_value (And.intro (fun ka => E155 k0 k1 k9 (Or.inl ka)) (fun ka => And.intro (fun kb => eX0_value ?_) (fun kb => E155 k0 k1 k9 (Or.inr kb))))) (fun k9 => wcV m_pop (And.intro (fun z => eX0_value (eX0_value ?_)) (fun z => eX0_value ?_)) (hok := Or.inr hN_pop)))) (fun k1 => And.intro (fun k7 => eX0_value (wcV m_fact (eX0_value ?_))) (fun k7 => eX0_value ?_)))) (fun k0 => wcV0 m_push (fin _ _ _ ?_) (hok := Or.inr hN_push))
  · refine wcV m_pop (wcV m_pop (wcV m_joined (wcV0 m_push ?_ (hok := Or.inr hN_push)) (hok := Or.inr hN_jn)) (hok := Or.inr hN_pop)) (hok := Or.inr hN_pop)
    refine fin _ _ _ ?_
    unfold vst stK stN; rw [if_neg k0, if_neg k1, if_neg k9, if_neg (fun z => z.elim ka kb)]
  · have z : ¬ popV g = 0 := fun y => z ((lg_cmp_eq _ _).mpr y)
    refine wcV0 m_push (fin _ _ _ ?_) (hok := Or.inr hN_push)
    unfold vst stK stN; rw [if_neg k0, if_neg k1, if_pos k9, if_neg z]; rfl
  · have z : popV g = 0 := (lg_cmp_eq _ _).mp z
    refine wcV0 m_push (fin _ _ _ ?_) (hok := Or.inr hN_push)
    unfold vst stK stN; rw [if_neg k0, if_neg k1, if_pos k9, if_pos z]; rfl
  · refine wcV0 m_push (fin _ _ _ ?_) (hok := Or.inr hN_push)
    unfold vst stK stN; rw [if_neg k0, if_pos k1, if_neg k7]
  · refine wcV0 m_push (fin _ _ _ ?_) (hok := Or.inr hN_push)
    unfold vst stK stN; rw [if_neg k0, if_pos k1, if_pos k7]
  · unfold vst stK stN; rw [if_pos k0]
theorem fStart_as {o k : Nat} {v i : Int32} (q : 126 ≤ o) : fStart (wI h o_asker k v) o i = fStart h o i := by
  have e : hI (wI h o_asker k v) (o + 2) i.toNatClampNeg = hI h (o + 2) i.toNatClampNeg := rd_o (by show o + 2 ≠ 85; omega)
  unfold fStart; rw [e]; rfl
/-- the asker made ready -/
def as0 (h : Hp) : Hp := wI (wI h o_asker 1 0) o_asker 2 0
noncomputable def vlG (h : Hp) (o : Nat) (part p : Int32) : Hp := valR o p (fStart h o (part + 1)) 401 (fStart h o part) (as0 h)
noncomputable def vlV (h : Hp) (o : Nat) (part p : Int32) : Int64 := popV (vlG h o part p)
noncomputable def vlH (h : Hp) (o : Nat) (part p : Int32) : Hp := popH (vlG h o part p)
theorem lawok_valR {o : Nat} {p T : Int32} : ∀ (n : Nat) (i : Int32) (g : Hp), lawok g o → lawok (valR o p T n i g) o := by
  intro n
  induction n with
  | zero => intro i g q; exact q
  | succ n ih =>
    intro i g q
    unfold valR
    split
    · exact q
    split
    · exact q
    · exact ih _ _ (lawok_vst q)
theorem lawok_vlH {o : Nat} {part p : Int32} (q : lawok h o) : lawok (vlH h o part p) o := lawok_pop (lawok_valR _ _ _ q)
theorem hN_valR {o : Nat} {p T : Int32} : ∀ (n : Nat) (i : Int32) (g : Hp), hN (valR o p T n i g) = hN g := by
  intro n
  induction n with
  | zero => intro i g; rfl
  | succ n ih =>
    intro i g
    unfold valR
    split
    · rfl
    split
    · rfl
    · rw [ih, hN_vst]
theorem hN_vlH {o : Nat} {part p : Int32} : hN (vlH h o part p) = hN h := by
  unfold vlH vlG; rw [hN_pop, hN_valR]; rfl
/-- the starts of a part lie within the code -/
def vok (h : Hp) (o : Nat) (part : Int32) : Prop := ∃ S T : Nat, S ≤ 400 ∧ T ≤ 400 ∧ fStart h o part = nI S ∧ fStart h o (part + 1) = nI T
theorem m_value (hd : 2 ≤ d) {o : Nat} {part p : Int32} (q : lawok h o) (hv : vok h o part) : M cx jX0_value d a [.ref o_asker, .ref o, .int part, .ref o_wall, .int p] h (RQ (.long (vlV h o part p)) (vlH h o part p)) := by
  obtain ⟨S, T, hS, hT, eS, eT⟩ := hv
  have loop : ∀ n m g, T < n + m → m < 2000 → lawok g o → hN g = hN h → valR o p (nI T) n (nI m) g = vlG h o part p → E cx jX0_value d a 26 [some (.ref o_asker), some (.ref o), some (.int part), some (.ref o_wall), some (.int p), some (.int (nI T)), some (.int (nI m)), none, none, none, none] [] g (RQ (.long (vlV h o part p)) (vlH h o part p)) := by
    intro n
    induction n with
    | zero =>
      intro m g hm h2 qg en e
      refine eX0_value (And.intro (fun _ => eX0_value (wcV m_pop ?_ (hok := Or.inr hN_pop))) (fun z => absurd (nI_le (by omega) (by omega)) z))
      have e : g = vlG h o part p := e
      exact ⟨by rw [e]; rfl, by rw [e]; rfl⟩
    | succ n ih =>
      intro m g hm h2 qg en e
      have stop : g = vlG h o part p → E cx jX0_value d a 236 [some (.ref o_asker), some (.ref o), some (.int part), some (.ref o_wall), some (.int p), some (.int (nI T)), some (.int (nI m)), none, none, none, none] [] g (RQ (.long (vlV h o part p)) (vlH h o part p)) := fun e => eX0_value (wcV m_pop ⟨by rw [e]; rfl, by rw [e]; rfl⟩ (hok := Or.inr hN_pop))
      by_cases c1 : nI T ≤ nI m
      · rw [valR, if_pos c1] at e
        exact eX0_value (And.intro (fun _ => stop e) (fun z => absurd c1 z))
      · rw [valR, if_neg c1] at e
        by_cases c2 : hI g o_asker 2 = 0
        · rw [if_neg (fun z => z c2)] at e
          obtain ⟨m', l1, l2, em⟩ := vst_i (h := g) (o := o) (p := p) h2
          have c3 : m < T := (nI_ltI (by omega) (by omega)).mp (Int32.not_le.mp c1)
          refine e_valueStep hd qg c1 c2 ?_
          rw [em, ← nI_succ] at e
          rw [em, ← nI_succ]
          by_cases c4 : m' + 1 < 2000
          · exact ih (m' + 1) _ (by omega) c4 (lawok_vst qg) (hN_vst.trans en) e
          · -- beyond the code: the next look ends it
            have c5 : nI T ≤ nI (m' + 1) := nI_le (by omega) (by omega)
            have e6 : (vst g o p (nI m)).1 = vlG h o part p := by
              rw [← e]
              cases n with
              | zero => rfl
              | succ n => rw [valR, if_pos c5]
            exact eX0_value (And.intro (fun _ => eX0_value (wcV m_pop ⟨by rw [e6]; rfl, by rw [e6]; rfl⟩ (hok := Or.inr hN_pop))) (fun z => absurd c5 z))
        · rw [if_pos c2] at e
          exact eX0_value (And.intro (fun z => absurd z c1) (fun _ => And.intro (fun _ => stop e) (fun z => absurd z c2)))
  have s1 : ∀ i, fStart (as0 h) o i = fStart h o i := fun i => by unfold as0; rw [fStart_as q.1.1, fStart_as q.1.1]
  refine sX0_value rfl (And.intro (Or.inl rfl) (wcV (m_startOf (h := as0 h) q) (wcV (m_startOf (h := as0 h) q) ?_ q.1) q.1))
  have := loop 401 S (as0 h) (by omega) (by omega) q rfl (by unfold vlG; rw [eS, eT])
  refine e_eq this ?_ rfl rfl
  rw [s1, s1, eS, eT]; rfl
def sEmp (h : Hp) (o : Nat) (part : Int32) : Prop := fStart h o (part + 1) ≤ fStart h o part
/-- a part is so: it is empty, or its value is not 0 and nothing broke -/
def isSoP (h : Hp) (o : Nat) (part p : Int32) : Prop := sEmp h o part ∨ (¬ vlV h o part p = 0 ∧ hI (vlH h o part p) o_asker 2 = 0)
noncomputable def isSoH (h : Hp) (o : Nat) (part p : Int32) : Hp := @ite _ (sEmp h o part) (Classical.propDecidable _) h (vlH h o part p)
theorem m_isSo (hd : 3 ≤ d) {o : Nat} {part p : Int32} (q : lawok h o) (hv : vok h o part) : M cx jX0_isSo d a [.ref o_asker, .ref o, .int part, .ref o_wall, .int p] h (RQ (.int (b2i (isSoP h o part p))) (isSoH h o part p)) := by
  have e1 : sEmp h o part → isSoH h o part p = h := fun z => if_pos z
  have e2 : ¬ sEmp h o part → isSoH h o part p = vlH h o part p := fun z => if_neg z
  refine sX0_isSo rfl (wcV (m_isEmptyPart (by omega) q) (And.intro (fun z => eX0_isSo (eX0_isSo (And.intro (Or.inr rfl) (RQ_eq' (b2i_t (Or.inl (b2i_n z))).symm (e1 (b2i_n z)).symm)))) (fun z => wcV (m_value (by omega) q hv) (And.intro (fun y => eX0_isSo (eX0_isSo (And.intro (Or.inl rfl) (RQ_eq' (b2i_f ?_).symm (e2 (b2i_0.mp z)).symm)))) (fun y => And.intro (fun x => eX0_isSo (eX0_isSo (And.intro (Or.inl rfl) (RQ_eq' (b2i_f ?_).symm (e2 (b2i_0.mp z)).symm)))) (fun x => eX0_isSo (eX0_isSo (And.intro (Or.inr rfl) (RQ_eq' (b2i_t ?_).symm (e2 (b2i_0.mp z)).symm)))))) (hok := Or.inr hN_vlH))) q.1)
  · rintro (w | w)
    · exact b2i_0.mp z w
    · exact w.1 ((lg_cmp_eq _ _).mp y)
  · rintro (w | w)
    · exact b2i_0.mp z w
    · exact x w.2
  · exact Or.inr ⟨fun w => y ((lg_cmp_eq _ _).mpr w), x⟩
end T21
