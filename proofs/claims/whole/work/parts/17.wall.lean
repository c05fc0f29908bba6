/-! the wall's methods that only read: what they answer -/
section T17
variable {cx : Cx} {d a : Nat} {h : Hp}
theorem m_isWithin {v lo hi : Int32} : M cx jX11_isWithin d a [.int v, .int lo, .int hi] h (RQ (.int (b2i (lo ≤ v ∧ v ≤ hi))) h) := by
  refine sX11_isWithin rfl ?_
  refine And.intro (fun q1 => eX11_isWithin (And.intro (Or.inl rfl) (RQ_eq (b2i_f ?_).symm))) (fun q1 => And.intro (fun q2 => eX11_isWithin (And.intro (Or.inl rfl) (RQ_eq (b2i_f ?_).symm))) (fun q2 => eX11_isWithin (And.intro (Or.inr rfl) (RQ_eq (b2i_t ?_).symm))))
  · exact fun q => absurd q1 (Int32.not_lt.mpr q.1)
  · exact fun q => absurd q2 (Int32.not_lt.mpr q.2)
  · exact ⟨Int32.not_lt.mp q1, Int32.not_lt.mp q2⟩
theorem m_isPart {s w : Int32} : M cx jX11_isPart d a [.int s, .int w] h (RQ (.int (b2i (s &&& (w ^^^ -1) = 0))) h) := by
  refine sX11_isPart rfl ?_
  refine And.intro (fun q1 => eX11_isPart (And.intro (Or.inl rfl) (RQ_eq (b2i_f q1).symm))) (fun q1 => eX11_isPart (And.intro (Or.inr rfl) (RQ_eq (b2i_t q1).symm)))
/-- the facts of the wall's places -/
def fFact (h : Hp) (p w : Int32) : Int32 := if 0 ≤ p ∧ p < 22 ∧ 0 ≤ w ∧ w < 7 then hI h o_wall_facts (p * 7 + w).toNatClampNeg else -1
theorem ix_fact {p w : Int32} (h1 : 0 ≤ p) (h2 : p < 22) (h3 : 0 ≤ w) (h4 : w < 7) : vp_in (p * 7 + w) 154 := by
  rw [vp_in_iff]
  rw [Int32.le_iff_toInt_le] at h1 h3
  rw [Int32.lt_iff_toInt_lt] at h2 h4
  have e0 : (0 : Int32).toInt = 0 := rfl
  have e1 : (22 : Int32).toInt = 22 := rfl
  have e2 : (7 : Int32).toInt = 7 := rfl
  rw [e0] at h1 h3; rw [e1] at h2; rw [e2] at h4
  have e3 : (p * 7).toInt = p.toInt * 7 := by
    rw [Int32.toInt_mul, e2]; apply Int.bmod_eq_of_le <;> omega
  have e4 : (p * 7 + w).toInt = p.toInt * 7 + w.toInt := by
    rw [Int32.toInt_add, e3]; apply Int.bmod_eq_of_le <;> omega
  omega
theorem m_fact {p w : Int32} : M cx jX10_fact d a [.ref o_wall, .int p, .int w] h (RQ (.int (fFact h p w)) h) := by
  refine sX10_fact rfl ?_
  have no : ¬ (0 ≤ p ∧ p < 22 ∧ 0 ≤ w ∧ w < 7) → E cx jX10_fact d a 20 [some (.ref o_wall), some (.int p), some (.int w)] [] h (RQ (.int (fFact h p w)) h) := fun q => eX10_fact (RQ_eq (by unfold fFact; rw [if_neg q]))
  refine And.intro (fun q1 => no fun q => absurd q1 (Int32.not_lt.mpr q.1)) (fun q1 => And.intro (fun q2 => no fun q => absurd q.2.1 (Int32.not_lt.mpr q2)) (fun q2 => And.intro (fun q3 => no fun q => absurd q3 (Int32.not_lt.mpr q.2.2.1)) (fun q3 => And.intro (fun q4 => eX10_fact ?_) (fun q4 => ?_))))
  · have h1 := Int32.not_lt.mp q1
    have h2 := Int32.not_le.mp q2
    have h3 := Int32.not_lt.mp q3
    exact And.intro (ix_fact h1 h2 h3 q4) (RQ_eq (by unfold fFact; rw [if_pos ⟨h1, h2, h3, q4⟩]; rfl))
  · exact RQ_eq (by unfold fFact; rw [if_neg (fun q => q4 q.2.2.2)])
theorem m_isStone (hd : 1 ≤ d) {p : Int32} : M cx jX10_isStone d a [.ref o_wall, .int p] h (RQ (.int (b2i (0 ≤ p ∧ p ≤ hI h o_wall 3 - 1))) h) := by
  refine sX10_isStone rfl ?_
  refine wcS m_isWithin ?_
  exact And.intro b2i_B (RQ_eq rfl)
def sPlace (h : Hp) (p : Int32) : Prop := (0 ≤ p ∧ p ≤ hI h o_wall 3 - 1) ∨ (14 ≤ p ∧ p ≤ 14 + hI h o_wall 4 - 1)
theorem m_isPlace (hd : 2 ≤ d) {p : Int32} : M cx jX10_isPlace d a [.ref o_wall, .int p] h (RQ (.int (b2i (sPlace h p))) h) := by
  refine sX10_isPlace rfl ?_
  refine wcV (m_isStone (by omega)) ?_
  refine And.intro (fun q => eX10_isPlace (eX10_isPlace (And.intro (Or.inr rfl) (RQ_eq (b2i_t (Or.inl ?_)).symm)))) (fun q => wcS m_isWithin (And.intro (fun q2 => eX10_isPlace (And.intro (Or.inl rfl) (RQ_eq (b2i_f ?_).symm))) (fun q2 => eX10_isPlace (And.intro (Or.inr rfl) (RQ_eq (b2i_t (Or.inr ?_)).symm)))))
  · exact b2i_n q
  · rintro (n | n)
    · exact b2i_0.mp q n
    · exact b2i_0.mp q2 n
  · exact b2i_n q2
def fTerm (h : Hp) (w : Int32) : Int32 := if 0 ≤ w ∧ w ≤ 2 then hI h o_wall_terms w.toNatClampNeg else -1
theorem ix_3 {w : Int32} (q : 0 ≤ w ∧ w ≤ 2) : vp_in w 3 := by
  rw [vp_in_iff]
  have h1 := Int32.le_iff_toInt_le.mp q.1
  have h2 := Int32.le_iff_toInt_le.mp q.2
  have e0 : (0 : Int32).toInt = 0 := rfl
  have e1 : (2 : Int32).toInt = 2 := rfl
  omega
theorem m_term (hd : 1 ≤ d) {w : Int32} : M cx jX10_term d a [.ref o_wall, .int w] h (RQ (.int (fTerm h w)) h) := by
  refine sX10_term rfl ?_
  refine wcS m_isWithin ?_
  refine And.intro (fun q => eX10_term (RQ_eq (by unfold fTerm; rw [if_neg (b2i_0.mp q)]))) (fun q => ?_)
  have q : 0 ≤ w ∧ w ≤ 2 := b2i_n q
  exact And.intro (ix_3 q) (eX10_term (RQ_eq (by unfold fTerm; rw [if_pos q]; rfl)))
def fCov (h : Hp) (p x y wd tl : Int32) : Prop := (fFact h p 0 - wd + 1 ≤ x ∧ x ≤ fFact h p 0 + fFact h p 2 - 1) ∧ (fFact h p 1 - tl + 1 ≤ y ∧ y ≤ fFact h p 1 + fFact h p 3 - 1)
theorem m_covers (hd : 1 ≤ d) {p x y wd tl : Int32} : M cx jX10_covers d a [.ref o_wall, .int p, .int x, .int y, .int wd, .int tl] h (RQ (.int (b2i (fCov h p x y wd tl))) h) := by
  refine sX10_covers rfl ?_
  refine wcV m_fact (wcV m_fact (wcV m_fact (wcS m_isWithin ?_)))
  refine And.intro (fun q => eX10_covers (And.intro (Or.inl rfl) (RQ_eq (b2i_f ?_).symm))) (fun q => ?_)
  · exact fun n => b2i_0.mp q n.1
  refine wcV m_fact (wcV m_fact (wcV m_fact (wcS m_isWithin ?_)))
  refine And.intro (fun q2 => eX10_covers (And.intro (Or.inl rfl) (RQ_eq (b2i_f ?_).symm))) (fun q2 => eX10_covers (And.intro (Or.inr rfl) (RQ_eq (b2i_t ?_).symm)))
  · exact fun n => b2i_0.mp q2 n.2
  · exact ⟨b2i_n q, b2i_n q2⟩
def fTaken (h : Hp) (x y wd tl : Int32) (k : Nat) : Prop := sPlace h (nI k) ∧ fCov h (nI k) x y wd tl
def wtR (h : Hp) (s : Int32) : Nat → Int32
  | 0 => 0
  | k + 1 => if (s >>> (nI k &&& 31)) &&& 1 = 0 then wtR h s k else wtR h s k + fFact h (nI k) 4
theorem m_weightOf (hd : 1 ≤ d) {s : Int32} : M cx jX10_weightOf d a [.ref o_wall, .int s] h (RQ (.int (wtR h s 14)) h) := by
  have loop : ∀ n k, n + k = 14 → E cx jX10_weightOf d a 4 [some (.ref o_wall), some (.int s), some (.int (wtR h s k)), some (.int (nI k))] [] h (RQ (.int (wtR h s 14)) h) := by
    intro n
    induction n with
    | zero =>
      intro k hk
      obtain rfl : k = 14 := by omega
      exact eX10_weightOf (And.intro (fun _ => eX10_weightOf (RQ_eq rfl)) (fun q => absurd (nI_le (a := 14) (b := 14) (Nat.le_refl _) (by decide)) q))
    | succ n ih =>
      intro k hk
      refine eX10_weightOf (And.intro (fun q => absurd q (nI_ge (a := k) (b := 14) (by omega) (by decide))) (fun _ => And.intro (fun q => eX10_weightOf ?_) (fun q => wcV m_fact ?_)))
      · have e : wtR h s (k + 1) = wtR h s k := by simp [wtR, q]
        have := ih (k + 1) (by omega)
        rw [e, nI_succ] at this
        exact this
      · have e : wtR h s (k + 1) = wtR h s k + fFact h (nI k) 4 := by simp [wtR, q]
        have := ih (k + 1) (by omega)
        rw [e, nI_succ] at this
        exact this
  exact sX10_weightOf rfl (loop 14 0 rfl)
end T17
