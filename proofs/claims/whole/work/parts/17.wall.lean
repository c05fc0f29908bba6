/-! the wall's methods that only read: what they answer -/
section T17
variable {cx : Cx} {d a : Nat} {h : Hp}
theorem m_isWithin {v lo hi : Int32} : M cx jX11_isWithin d a [.int v, .int lo, .int hi] h (RQ (.int (b2i (lo ≤ v ∧ v ≤ hi))) h) := by
  refine sX11_isWithin rfl ?_
  refine And.intro (fun q1 => eX11_isWithin (eX11_isWithin <| And.intro (Or.inl rfl) (RQ_eq (b2i_f ?_).symm))) (fun q1 => And.intro (fun q2 => eX11_isWithin (eX11_isWithin <| And.intro (Or.inl rfl) (RQ_eq (b2i_f ?_).symm))) (fun q2 => eX11_isWithin (And.intro (Or.inr rfl) (RQ_eq (b2i_t ?_).symm))))
  · exact fun q => absurd q1 (Int32.not_lt.mpr q.1)
  · exact fun q => absurd q2 (Int32.not_lt.mpr q.2)
  · exact ⟨Int32.not_lt.mp q1, Int32.not_lt.mp q2⟩
theorem m_isPart {s w : Int32} : M cx jX11_isPart d a [.int s, .int w] h (RQ (.int (b2i (s &&& (w ^^^ -1) = 0))) h) := by
  refine sX11_isPart rfl ?_
  refine And.intro (fun q1 => eX11_isPart (eX11_isPart <| And.intro (Or.inl rfl) (RQ_eq (b2i_f q1).symm))) (fun q1 => eX11_isPart (And.intro (Or.inr rfl) (RQ_eq (b2i_t q1).symm)))
/-- the facts of the wall's places -/
def fFact (h : Hp) (p w : Int32) : Int32 := if 0 ≤ p ∧ p < 22 ∧ 0 ≤ w ∧ w < 7 then hI h o_wall_facts (p * 7 + w).toNatClampNeg else -1
theorem ix_fact {p w : Int32} (h1 : 0 ≤ p) (h2 : p < 22) (h3 : 0 ≤ w) (h4 : w < 7) : vp_in (p * 7 + w) 154 := by
  rw [vp_in_iff]
  rw [Int32.le_iff_toInt_le] at h1 h3
  rw [Int32.lt_iff_toInt_lt] at h2 h4
  have e0 : (0 : Int32).toInt = 0 := rfl
  have e1 : (22 : Int32).toInt = 22 := rfl
  have e2 : (7 : Int32).toInt = 7 := rfl
  rw [e0] at h1 h3; rw [e1] at h2; rw [e2] at h4
  have e3 : (p * 7).toInt = p.toInt * 7 := by
    rw [Int32.toInt_mul, e2]; apply Int.bmod_eq_of_le <;> omega
  have e4 : (p * 7 + w).toInt = p.toInt * 7 + w.toInt := by
    rw [Int32.toInt_add, e3]; apply Int.bmod_eq_of_le <;> omega
  omega
theorem m_fact {p w : Int32} : M cx jX10_fact d a [.ref o_wall, .int p, .int w] h (RQ (.int (fFact h p w)) h) := by
  refine sX10_fact rfl ?_
  have no : ¬ (0 ≤ p ∧ p < 22 ∧ 0 ≤ w ∧ w < 7) → E cx jX10_fact d a 20 [some (.ref o_wall), some (.int p), some (.int w)] [] h (RQ (.int (fFact h p w)) h) := fun q => eX10_fact (RQ_eq (by unfold fFact; rw [if_neg q]))
  refine And.intro (fun q1 => no fun q => absurd q1 (Int32.not_lt.mpr q.1)) (fun q1 => And.intro (fun q2 => no fun q => absurd q.2.1 (Int32.not_lt.mpr q2)) (fun q2 => And.intro (fun q3 => no fun q => absurd q3 (Int32.not_lt.mpr q.2.2.1)) (fun q3 => And.intro (fun q4 => eX10_fact ?_) (fun q4 => ?_))))
  · have h1 := Int32.not_lt.mp q1
    have h2 := Int32.not_le.mp q2
    have h3 := Int32.not_lt.mp q3
    exact And.intro (ix_fact h1 h2 h3 q4) (RQ_eq (by unfold fFact; rw [if_pos ⟨h1, h2, h3, q4⟩]; rfl))
  · exact eX10_fact (RQ_eq (by unfold fFact; rw [if_neg (fun q => q4 q.2.2.2)]))
theorem m_isStone (hd : 1 ≤ d) {p : Int32} : M cx jX10_isStone d a [.ref o_wall, .int p] h (RQ (.int (b2i (0 ≤ p ∧ p ≤ hI h o_wall 3 - 1))) h) := by
  refine sX10_isStone rfl ?_
  refine wcS m_isWithin ?_
  exact And.intro b2i_B (RQ_eq rfl)
def sPlace (h : Hp) (p : Int32) : Prop := (0 ≤ p ∧ p ≤ hI h o_wall 3 - 1) ∨ (14 ≤ p ∧ p ≤ 14 + hI h o_wall 4 - 1)
theorem m_isPlace (hd : 2 ≤ d) {p : Int32} : M cx jX10_isPlace d a [.ref o_wall, .int p] h (RQ (.int (b2i (sPlace h p))) h) := by
  refine sX10_isPlace rfl ?_
  refine wcV (m_isStone (by omega)) ?_
  refine And.intro (fun q => eX10_isPlace (eX10_isPlace (And.intro (Or.inr rfl) (RQ_eq (b2i_t (Or.inl ?_)).symm)))) (fun q => wcS m_isWithin (And.intro (fun q2 => eX10_isPlace (eX10_isPlace <| And.intro (Or.inl rfl) (RQ_eq (b2i_f ?_).symm))) (fun q2 => eX10_isPlace (eX10_isPlace <| And.intro (Or.inr rfl) (RQ_eq (b2i_t (Or.inr ?_)).symm)))))
  · exact b2i_n q
  · rintro (n | n)
    · exact b2i_0.mp q n
    · exact b2i_0.mp q2 n
  · exact b2i_n q2
def fTerm (h : Hp) (w : Int32) : Int32 := if 0 ≤ w ∧ w ≤ 2 then hI h o_wall_terms w.toNatClampNeg else -1
theorem ix_3 {w : Int32} (q : 0 ≤ w ∧ w ≤ 2) : vp_in w 3 := by
  rw [vp_in_iff]
  have h1 := Int32.le_iff_toInt_le.mp q.1
  have h2 := Int32.le_iff_toInt_le.mp q.2
  have e0 : (0 : Int32).toInt = 0 := rfl
  have e1 : (2 : Int32).toInt = 2 := rfl
  omega
theorem m_term (hd : 1 ≤ d) {w : Int32} : M cx jX10_term d a [.ref o_wall, .int w] h (RQ (.int (fTerm h w)) h) := by
  refine sX10_term rfl ?_
  refine wcS m_isWithin ?_
  refine And.intro (fun q => eX10_term (eX10_term <| RQ_eq (by unfold fTerm; rw [if_neg (b2i_0.mp q)]))) (fun q => ?_)
  have q : 0 ≤ w ∧ w ≤ 2 := b2i_n q
  exact And.intro (ix_3 q) (eX10_term (RQ_eq (by unfold fTerm; rw [if_pos q]; rfl)))
def fCov (h : Hp) (p x y wd tl : Int32) : Prop := (fFact h p 0 - wd + 1 ≤ x ∧ x ≤ fFact h p 0 + fFact h p 2 - 1) ∧ (fFact h p 1 - tl + 1 ≤ y ∧ y ≤ fFact h p 1 + fFact h p 3 - 1)
theorem m_covers (hd : 1 ≤ d) {p x y wd tl : Int32} : M cx jX10_covers d a [.ref o_wall, .int p, .int x, .int y, .int wd, .int tl] h (RQ (.int (b2i (fCov h p x y wd tl))) h) := by
  refine sX10_covers rfl ?_
  refine wcV m_fact (wcV m_fact (wcV m_fact (wcS m_isWithin ?_)))
  refine And.intro (fun q => eX10_covers (eX10_covers <| And.intro (Or.inl rfl) (RQ_eq (b2i_f ?_).symm))) (fun q => ?_)
  · exact fun n => b2i_0.mp q n.1
  refine wcV m_fact (wcV m_fact (wcV m_fact (wcS m_isWithin ?_)))
  refine And.intro (fun q2 => eX10_covers (eX10_covers <| And.intro (Or.inl rfl) (RQ_eq (b2i_f ?_).symm))) (fun q2 => eX10_covers (And.intro (Or.inr rfl) (RQ_eq (b2i_t ?_).symm)))
  · exact fun n => b2i_0.mp q2 n.2
  · exact ⟨b2i_n q, b2i_n q2⟩
def fTaken (h : Hp) (x y wd tl : Int32) (k : Nat) : Prop := sPlace h (nI k) ∧ fCov h (nI k) x y wd tl
def wtR (h : Hp) (s : Int32) : Nat → Int32
  | 0 => 0
  | k + 1 => if (s >>> (nI k &&& 31)) &&& 1 = 0 then wtR h s k else wtR h s k + fFact h (nI k) 4
theorem m_weightOf (hd : 1 ≤ d) {s : Int32} : M cx jX10_weightOf d a [.ref o_wall, .int s] h (RQ (.int (wtR h s 14)) h) := by
  have loop : ∀ n k, n + k = 14 → E cx jX10_weightOf d a 4 [some (.ref o_wall), some (.int s), some (.int (wtR h s k)), some (.int (nI k))] [] h (RQ (.int (wtR h s 14)) h) := by
    intro n
    induction n with
    | zero =>
      intro k hk
      obtain rfl : k = 14 := by omega
      exact eX10_weightOf (And.intro (fun _ => eX10_weightOf (RQ_eq rfl)) (fun q => absurd (nI_le (a := 14) (b := 14) (Nat.le_refl _) (by decide)) q))
    | succ n ih =>
      intro k hk
      refine eX10_weightOf (And.intro (fun q => absurd q (nI_ge (a := k) (b := 14) (by omega) (by decide))) (fun _ => And.intro (fun q => eX10_weightOf ?_) (fun q => wcV m_fact (eX10_weightOf ?_))))
      · have e : wtR h s (k + 1) = wtR h s k := by simp [wtR, q]
        have := ih (k + 1) (by omega)
        rw [e, nI_succ] at this
        exact this
      · have e : wtR h s (k + 1) = wtR h s k + fFact h (nI k) 4 := by simp [wtR, q]
        have := ih (k + 1) (by omega)
        rw [e, nI_succ] at this
        exact this
  exact sX10_weightOf rfl (loop 14 0 rfl)
def fTakenB (h : Hp) (x y wd tl : Int32) (n : Nat) : Prop := ∃ k, k < n ∧ fTaken h x y wd tl k
theorem m_isTaken (hd : 3 ≤ d) {x y wd tl : Int32} : M cx jX10_isTaken d a [.ref o_wall, .int x, .int y, .int wd, .int tl] h (RQ (.int (b2i (fTakenB h x y wd tl 22))) h) := by
  have loop : ∀ n k, n + k = 22 → ¬ fTakenB h x y wd tl k → E cx jX10_isTaken d a 3 [some (.ref o_wall), some (.int x), some (.int y), some (.int wd), some (.int tl), some (.int (nI k))] [] h (RQ (.int (b2i (fTakenB h x y wd tl 22))) h) := by
    intro n
    induction n with
    | zero =>
      intro k hk hn
      obtain rfl : k = 22 := by omega
      exact eX10_isTaken (And.intro (fun _ => eX10_isTaken (And.intro (Or.inl rfl) (RQ_eq (b2i_f hn).symm))) (fun q => absurd (nI_le (a := 22) (b := 22) (Nat.le_refl _) (by decide)) q))
    | succ n ih =>
      intro k hk hn
      have go : ¬ fTaken h x y wd tl k → E cx jX10_isTaken d a 35 [some (.ref o_wall), some (.int x), some (.int y), some (.int wd), some (.int tl), some (.int (nI k))] [] h (RQ (.int (b2i (fTakenB h x y wd tl 22))) h) := fun hk2 => by
        have := ih (k + 1) (by omega) (by
          rintro ⟨i, hi, hf⟩
          rcases Nat.lt_succ_iff_lt_or_eq.mp hi with hi | rfl
          · exact hn ⟨i, hi, hf⟩
          · exact hk2 hf)
        rw [nI_succ] at this
        exact eX10_isTaken this
      refine eX10_isTaken (And.intro (fun q => absurd q (nI_ge (a := k) (b := 22) (by omega) (by decide))) (fun _ => wcV (m_isPlace (by omega)) (And.intro (fun q => go fun z => b2i_0.mp q z.1) (fun q => wcV (m_covers (by omega)) (And.intro (fun q2 => go fun z => b2i_0.mp q2 z.2) (fun q2 => And.intro (Or.inr rfl) (RQ_eq (b2i_t ?_).symm)))))))
      exact ⟨k, by omega, b2i_n q, b2i_n q2⟩
  exact sX10_isTaken rfl (loop 22 0 rfl (fun z => by obtain ⟨i, hi, _⟩ := z; omega))
theorem ix_nat {k w : Nat} (hk : k < 22) (hw : w < 7) : nI k * 7 + nI w = nI (7 * k + w) := by
  rw [show (7 : Int32) = nI 7 from rfl, pk_mul, nI_add, Nat.mul_comm]
theorem m_change (hd : 1 ≤ d) {k w : Nat} {p q v : Int32} (ep : p = nI k) (eq : q = nI w) (hk : k < 22) (hw : w < 7) : M cx jX10_change d a [.ref o_wall, .int p, .int q, .int v] h (RQ (.int (hI h o_wall_facts (7 * k + w))) (wI h o_wall_facts (7 * k + w) v)) := by
  subst ep; subst eq
  have e0 := ix_nat hk hw
  have e1 : (nI k * 7 + nI w).toNatClampNeg = 7 * k + w := by rw [e0, nI_clamp (by omega)]
  have e2 : vp_in (nI k * 7 + nI w) 154 := by rw [e0]; exact vp_in_nI (by omega) (by decide)
  refine sX10_change rfl ?_
  refine wcS m_isWithin (And.intro (fun z => absurd ⟨nI_pos' (by omega), nI_le (b := 21) (by omega) (by decide)⟩ (b2i_0.mp z)) (fun _ => wcS m_isWithin (And.intro (fun _ => eX10_change ?_) (fun z => absurd ⟨nI_pos' (by omega), nI_le (b := 6) (by omega) (by decide)⟩ (b2i_0.mp z)))))
  refine And.intro e2 (And.intro e2 ?_)
  rw [← e1]
  exact ⟨rfl, rfl⟩
def layH (h : Hp) (k : Nat) (x y wd tl wt : Int32) : Hp := wI (wI (wI (wI (wI (wI (wI h o_wall_facts (7 * k + 0) x) o_wall_facts (7 * k + 1) y) o_wall_facts (7 * k + 2) wd) o_wall_facts (7 * k + 3) tl) o_wall_facts (7 * k + 4) wt) o_wall_facts (7 * k + 5) 0) o_wall_facts (7 * k + 6) 0
theorem m_lay (hd : 2 ≤ d) {k : Nat} {p x y wd tl wt : Int32} (ep : p = nI k) (hk : k < 22) : M cx jX10_lay d a [.ref o_wall, .int p, .int x, .int y, .int wd, .int tl, .int wt] h (RV (layH h k x y wd tl wt)) := by
  refine sX10_lay rfl ?_
  have ch : ∀ (w : Nat) (q v : Int32) (g : Hp), q = nI w → w < 7 → M cx jX10_change (d - 1) 0 [.ref o_wall, .int p, .int q, .int v] g (RQ (.int (hI g o_wall_facts (7 * k + w))) (wI g o_wall_facts (7 * k + w) v)) := fun w q v g eq hw => m_change (by omega) ep eq hk hw
  exact wcV (ch 0 _ _ _ rfl (by decide)) (wcV (ch 1 _ _ _ rfl (by decide)) (wcV (ch 2 _ _ _ rfl (by decide)) (wcV (ch 3 _ _ _ rfl (by decide)) (wcV (ch 4 _ _ _ rfl (by decide)) (wcV (ch 5 _ _ _ rfl (by decide)) (wcV (ch 6 _ _ _ rfl (by decide)) ⟨rfl, rfl⟩))))))
def addStoneH (h : Hp) (n : Nat) (x y wd tl wt : Int32) : Hp := layH (wI (wI h o_wall 3 (nI (n + 1))) o_wall 5 (hI h o_wall 5 ||| (1 <<< (nI n &&& 31)))) n x y wd tl wt
theorem m_addStone (hd : 3 ≤ d) {n : Nat} {x y wd tl wt : Int32} (en : hI h o_wall 3 = nI n) (hn : n < 22) : M cx jX10_addStone d a [.ref o_wall, .int x, .int y, .int wd, .int tl, .int wt] h (RQ (.int (nI n)) (addStoneH h n x y wd tl wt)) := by
  refine sX10_addStone rfl ?_
  have e : wI (wI h o_wall 3 (hI h o_wall 3 + 1)) o_wall 5 (hI (wI h o_wall 3 (hI h o_wall 3 + 1)) o_wall 5 ||| (1 <<< (hI h o_wall 3 &&& 31))) = wI (wI h o_wall 3 (nI (n + 1))) o_wall 5 (hI h o_wall 5 ||| (1 <<< (nI n &&& 31))) := by
    rw [rd_k (by decide), en, nI_succ]
  refine wcV0 (m_lay (by omega) en hn) (RQ_eq' en ?_)
  unfold addStoneH
  rw [← e]
def addSpareH (h : Hp) (n : Nat) (x y wd tl wt : Int32) : Hp := layH (wI h o_wall 4 (nI (n + 1))) (14 + n) x y wd tl wt
theorem m_addSpare (hd : 3 ≤ d) {n : Nat} {x y wd tl wt : Int32} (en : hI h o_wall 4 = nI n) (hn : n < 8) : M cx jX10_addSpare d a [.ref o_wall, .int x, .int y, .int wd, .int tl, .int wt] h (RQ (.int (nI n)) (addSpareH h n x y wd tl wt)) := by
  refine sX10_addSpare rfl ?_
  have e : wI h o_wall 4 (hI h o_wall 4 + 1) = wI h o_wall 4 (nI (n + 1)) := by rw [en, nI_succ]
  refine wcV0 (m_lay (k := 14 + n) (by omega) (by rw [en, show (14 : Int32) = nI 14 from rfl, nI_add]) (by omega)) (RQ_eq' en ?_)
  unfold addSpareH
  rw [← e]
theorem m_allStones : M cx jX10_allStones d a [.ref o_wall] h (RQ (.int ((1 <<< (hI h o_wall 3 &&& 31)) - 1)) h) := sX10_allStones rfl ⟨rfl, rfl⟩
theorem m_changeTerm (hd : 2 ≤ d) {k : Nat} {w v : Int32} (ew : w = nI k) (hk : k < 3) : M cx jX10_changeTerm d a [.ref o_wall, .int w, .int v] h (RQ (.int (hI h o_wall_terms k)) (wI h o_wall_terms k v)) := by
  subst ew
  have e1 : (nI k).toNatClampNeg = k := nI_clamp (by omega)
  have e2 : vp_in (nI k) 3 := vp_in_nI hk (by decide)
  have e3 : 0 ≤ nI k ∧ nI k ≤ 2 := ⟨nI_pos' (by omega), nI_le (b := 2) (by omega) (by decide)⟩
  refine sX10_changeTerm rfl ?_
  refine wcV (m_term (by omega)) (wcS m_isWithin (And.intro (fun z => absurd e3 (b2i_0.mp z)) (fun _ => And.intro e2 ?_)))
  refine eX10_changeTerm (RQ_eq' (by unfold fTerm; rw [if_pos e3, e1]) ?_)
  rw [e1]; rfl
theorem m_byteAt {i : Int32} : M cx jX8_byteAt d a [.ref o_tape, .int i] h (RQ (.int (if 0 ≤ i ∧ i < 400 then hI h o_tape_bytes i.toNatClampNeg else -1)) h) := by
  refine sX8_byteAt rfl ?_
  refine And.intro (fun q => eX8_byteAt (eX8_byteAt <| RQ_eq (by rw [if_neg (fun z => absurd q (Int32.not_lt.mpr z.1))]))) (fun q => And.intro (fun q2 => eX8_byteAt (eX8_byteAt <| RQ_eq (by rw [if_neg (fun z => absurd q2 (Int32.not_le.mpr z.2))]))) (fun q2 => ?_))
  have h1 := Int32.not_lt.mp q
  have h2 := Int32.not_le.mp q2
  refine And.intro ?_ (eX8_byteAt (RQ_eq (by rw [if_pos ⟨h1, h2⟩]; rfl)))
  show vp_in i 400
  rw [vp_in_iff]
  have g1 := Int32.le_iff_toInt_le.mp h1
  have g2 := Int32.lt_iff_toInt_lt.mp h2
  have e0 : (0 : Int32).toInt = 0 := rfl
  have e1 : (400 : Int32).toInt = 400 := rfl
  omega
end T17
