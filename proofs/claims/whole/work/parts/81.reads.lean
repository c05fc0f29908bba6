/-! the model reads sums and tests -/
section T81
variable {cx : Cx} {d a : Nat} {h g : Hp} {N : Nat} {C V : Nat → Int32} {pl : Nat → Nat}
theorem rd_readTermS {dp : Nat} (hP : rdS cx jX12_readPart 1 h dp) : rdS cx jX12_readTerm 3 h dp := fun d t lv bd hd nb =>
  sX12_readTerm rfl (wcV0 (hP (d - 1) t lv bd (by omega) nb) (eX12_readTerm (wcS (n_signC (r := 142)) (wcV (n_takesB (by omega) nb) (And.intro (fun q1 => absurd rfl q1) (fun q1 => (wcS (n_signC (r := 147)) (wcV (n_takesB (by omega) nb) (And.intro (fun q2 => (eX12_readTerm ⟨rfl, rfl⟩)) (fun q2 => absurd rfl q2))))))))))
theorem rd_readTerm (q : tokP h N C V pl) {D dp : Nat} {P : Nat → Nat → PR SN} (hD : 4 ≤ D) (hm : mono N P) (hl : lvb P) (hP : rdP cx jX12_readPart D h N pl dp P) : rdP cx jX12_readTerm (D + 1) h N pl dp (pChain opTerm opN P C) := by
  intro d t0 lv0 hd ht0 hl0
  have stuck : ∀ (t lv bd : Int32) (Q : Option Value → Hp → Prop), ¬ bd = -1 → Q none (pst h t lv bd) → E cx jX12_readTerm d 0 5 [some (.ref o_m), some (.int (nI dp))] [] (pst h t lv bd) Q := fun t lv bd Q nb k =>
    eX12_readTerm (wcS (n_signC (r := 142)) (wcV (n_takesB (by omega) nb) (And.intro (fun q1 => absurd rfl q1) (fun q1 => (wcS (n_signC (r := 147)) (wcV (n_takesB (by omega) nb) (And.intro (fun q2 => (eX12_readTerm k)) (fun q2 => absurd rfl q2))))))))
  have loop : ∀ n t lv s, 400 < n + t → t ≤ N → lv ≤ 50 → E cx jX12_readTerm d 0 5 [some (.ref o_m), some (.int (nI dp))] [] (pst h (nI t) (nI lv) (-1)) (rQ h pl (pLoop opTerm opN P C n t lv s)) := by
    intro n
    induction n with
    | zero => intro t lv s hn ht; have := q.1; omega
    | succ n ih =>
      intro t lv s hn ht h50
      rw [pLoop]
      by_cases op : opTerm (C t) = true
      · rw [if_pos op]
        have tl : t < N := tp_lt q (fun z => by rw [z] at op; exact absurd op (by decide))
        have mo := hm (t + 1) lv (by omega)
        have hM := hP (d - 1) (t + 1) lv (by omega) (by omega) h50
        have e29 : E cx jX12_readTerm d 0 29 [some (.ref o_m), some (.int (nI dp))] [] (pst h (nI (t + 1)) (nI lv) (-1)) (rQ h pl (if (P (t + 1) lv).1 = true then pLoop opTerm opN P C n (P (t + 1) lv).2.1 (P (t + 1) lv).2.2.1 (opN (C t) s (P (t + 1) lv).2.2.2) else P (t + 1) lv)) := by
          refine eX12_readTerm (wcQ hM (fun v G z => ?_) rQ_N)
          obtain ⟨rfl, ⟨ok, rfl⟩ | ⟨ok, t2, lv2, rfl⟩⟩ := z
          · rw [if_pos ok]
            exact ih _ _ _ (by omega) mo.2.1 (hl _ _ h50)
          · rw [if_neg (by rw [ok]; exact Bool.noConfusion)]
            exact stuck _ _ _ _ (pl_ne q) ⟨rfl, Or.inr ⟨ok, _, _, rfl⟩⟩
        have cc : C t = 142 ∨ C t = 147 := by simpa [opTerm] using op
        by_cases c1 : C t = 142
        · exact eX12_readTerm (wcS (n_signC (r := 142)) (wcV (n_takesT (by omega) q ht c1) (And.intro (fun q1 => e29) (fun q1 => absurd q1 (by decide)))))
        · exact eX12_readTerm (wcS (n_signC (r := 142)) (wcV (n_takesF (by omega) q ht c1) (And.intro (fun q1 => absurd rfl q1) (fun q1 => (wcS (n_signC (r := 147)) (wcV (n_takesT (by omega) q ht (cc.resolve_left c1)) (And.intro (fun q2 => absurd q2 (by decide)) (fun q2 => e29))))))))
      · rw [if_neg op]
        have c1 : ¬ C t = 142 := fun z => op (by rw [z]; decide)
        have c2 : ¬ C t = 147 := fun z => op (by rw [z]; decide)
        exact eX12_readTerm (wcS (n_signC (r := 142)) (wcV (n_takesF (by omega) q ht c1) (And.intro (fun q1 => absurd rfl q1) (fun q1 => (wcS (n_signC (r := 147)) (wcV (n_takesF (by omega) q ht c2) (And.intro (fun q2 => (eX12_readTerm ⟨rfl, Or.inl ⟨rfl, rfl⟩⟩)) (fun q2 => absurd rfl q2))))))))
  have mo := hm t0 lv0 ht0
  refine sX12_readTerm rfl (wcQ (hP (d - 1) t0 lv0 (by omega) ht0 hl0) (fun v G z => ?_) rQ_N)
  unfold pChain
  obtain ⟨rfl, ⟨ok, rfl⟩ | ⟨ok, t2, lv2, rfl⟩⟩ := z
  · rw [if_pos ok]
    exact loop 401 _ _ _ (by omega) mo.2.1 (hl _ _ hl0)
  · rw [if_neg (by rw [ok]; exact Bool.noConfusion)]
    exact stuck _ _ _ _ (pl_ne q) ⟨rfl, Or.inr ⟨ok, _, _, rfl⟩⟩
theorem rd_readSumS {dp : Nat} (hP : rdS cx jX12_readTerm 3 h dp) : rdS cx jX12_readSum 5 h dp := fun d t lv bd hd nb =>
  sX12_readSum rfl (wcV0 (hP (d - 1) t lv bd (by omega) nb) (eX12_readSum (wcS (n_signC (r := 143)) (wcV (n_takesB (by omega) nb) (And.intro (fun q1 => absurd rfl q1) (fun q1 => (wcS (n_signC (r := 145)) (wcV (n_takesB (by omega) nb) (And.intro (fun q2 => (eX12_readSum ⟨rfl, rfl⟩)) (fun q2 => absurd rfl q2))))))))))
theorem rd_readSum (q : tokP h N C V pl) {D dp : Nat} {P : Nat → Nat → PR SN} (hD : 4 ≤ D) (hm : mono N P) (hl : lvb P) (hP : rdP cx jX12_readTerm D h N pl dp P) : rdP cx jX12_readSum (D + 1) h N pl dp (pChain opSum opN P C) := by
  intro d t0 lv0 hd ht0 hl0
  have stuck : ∀ (t lv bd : Int32) (Q : Option Value → Hp → Prop), ¬ bd = -1 → Q none (pst h t lv bd) → E cx jX12_readSum d 0 5 [some (.ref o_m), some (.int (nI dp))] [] (pst h t lv bd) Q := fun t lv bd Q nb k =>
    eX12_readSum (wcS (n_signC (r := 143)) (wcV (n_takesB (by omega) nb) (And.intro (fun q1 => absurd rfl q1) (fun q1 => (wcS (n_signC (r := 145)) (wcV (n_takesB (by omega) nb) (And.intro (fun q2 => (eX12_readSum k)) (fun q2 => absurd rfl q2))))))))
  have loop : ∀ n t lv s, 400 < n + t → t ≤ N → lv ≤ 50 → E cx jX12_readSum d 0 5 [some (.ref o_m), some (.int (nI dp))] [] (pst h (nI t) (nI lv) (-1)) (rQ h pl (pLoop opSum opN P C n t lv s)) := by
    intro n
    induction n with
    | zero => intro t lv s hn ht; have := q.1; omega
    | succ n ih =>
      intro t lv s hn ht h50
      rw [pLoop]
      by_cases op : opSum (C t) = true
      · rw [if_pos op]
        have tl : t < N := tp_lt q (fun z => by rw [z] at op; exact absurd op (by decide))
        have mo := hm (t + 1) lv (by omega)
        have hM := hP (d - 1) (t + 1) lv (by omega) (by omega) h50
        have e29 : E cx jX12_readSum d 0 29 [some (.ref o_m), some (.int (nI dp))] [] (pst h (nI (t + 1)) (nI lv) (-1)) (rQ h pl (if (P (t + 1) lv).1 = true then pLoop opSum opN P C n (P (t + 1) lv).2.1 (P (t + 1) lv).2.2.1 (opN (C t) s (P (t + 1) lv).2.2.2) else P (t + 1) lv)) := by
          refine eX12_readSum (wcQ hM (fun v G z => ?_) rQ_N)
          obtain ⟨rfl, ⟨ok, rfl⟩ | ⟨ok, t2, lv2, rfl⟩⟩ := z
          · rw [if_pos ok]
            exact ih _ _ _ (by omega) mo.2.1 (hl _ _ h50)
          · rw [if_neg (by rw [ok]; exact Bool.noConfusion)]
            exact stuck _ _ _ _ (pl_ne q) ⟨rfl, Or.inr ⟨ok, _, _, rfl⟩⟩
        have cc : C t = 143 ∨ C t = 145 := by simpa [opSum] using op
        by_cases c1 : C t = 143
        · exact eX12_readSum (wcS (n_signC (r := 143)) (wcV (n_takesT (by omega) q ht c1) (And.intro (fun q1 => e29) (fun q1 => absurd q1 (by decide)))))
        · exact eX12_readSum (wcS (n_signC (r := 143)) (wcV (n_takesF (by omega) q ht c1) (And.intro (fun q1 => absurd rfl q1) (fun q1 => (wcS (n_signC (r := 145)) (wcV (n_takesT (by omega) q ht (cc.resolve_left c1)) (And.intro (fun q2 => absurd q2 (by decide)) (fun q2 => e29))))))))
      · rw [if_neg op]
        have c1 : ¬ C t = 143 := fun z => op (by rw [z]; decide)
        have c2 : ¬ C t = 145 := fun z => op (by rw [z]; decide)
        exact eX12_readSum (wcS (n_signC (r := 143)) (wcV (n_takesF (by omega) q ht c1) (And.intro (fun q1 => absurd rfl q1) (fun q1 => (wcS (n_signC (r := 145)) (wcV (n_takesF (by omega) q ht c2) (And.intro (fun q2 => (eX12_readSum ⟨rfl, Or.inl ⟨rfl, rfl⟩⟩)) (fun q2 => absurd rfl q2))))))))
  have mo := hm t0 lv0 ht0
  refine sX12_readSum rfl (wcQ (hP (d - 1) t0 lv0 (by omega) ht0 hl0) (fun v G z => ?_) rQ_N)
  unfold pChain
  obtain ⟨rfl, ⟨ok, rfl⟩ | ⟨ok, t2, lv2, rfl⟩⟩ := z
  · rw [if_pos ok]
    exact loop 401 _ _ _ (by omega) mo.2.1 (hl _ _ hl0)
  · rw [if_neg (by rw [ok]; exact Bool.noConfusion)]
    exact stuck _ _ _ _ (pl_ne q) ⟨rfl, Or.inr ⟨ok, _, _, rfl⟩⟩
theorem rd_readBothS {dp : Nat} (hP : rdS cx jX12_readPlain 2 h dp) : rdS cx jX12_readBoth 4 h dp := fun d t lv bd hd nb =>
  sX12_readBoth rfl (wcV0 (hP (d - 1) t lv bd (by omega) nb) (eX12_readBoth (wcV (n_takesB (by omega) nb) (And.intro (fun q1 => (eX12_readBoth ⟨rfl, rfl⟩)) (fun q1 => absurd rfl q1)))))
theorem rd_readBoth (q : tokP h N C V pl) {D dp : Nat} {P : Nat → Nat → PR SB} (hD : 4 ≤ D) (hm : mono N P) (hl : lvb P) (hP : rdP cx jX12_readPlain D h N pl dp P) : rdP cx jX12_readBoth (D + 1) h N pl dp (pChain opAnd opB P C) := by
  intro d t0 lv0 hd ht0 hl0
  have stuck : ∀ (t lv bd : Int32) (Q : Option Value → Hp → Prop), ¬ bd = -1 → Q none (pst h t lv bd) → E cx jX12_readBoth d 0 5 [some (.ref o_m), some (.int (nI dp))] [] (pst h t lv bd) Q := fun t lv bd Q nb k =>
    eX12_readBoth (wcV (n_takesB (by omega) nb) (And.intro (fun q1 => (eX12_readBoth k)) (fun q1 => absurd rfl q1)))
  have loop : ∀ n t lv s, 400 < n + t → t ≤ N → lv ≤ 50 → E cx jX12_readBoth d 0 5 [some (.ref o_m), some (.int (nI dp))] [] (pst h (nI t) (nI lv) (-1)) (rQ h pl (pLoop opAnd opB P C n t lv s)) := by
    intro n
    induction n with
    | zero => intro t lv s hn ht; have := q.1; omega
    | succ n ih =>
      intro t lv s hn ht h50
      rw [pLoop]
      by_cases op : opAnd (C t) = true
      · rw [if_pos op]
        have tl : t < N := tp_lt q (fun z => by rw [z] at op; exact absurd op (by decide))
        have mo := hm (t + 1) lv (by omega)
        have hM := hP (d - 1) (t + 1) lv (by omega) (by omega) h50
        have c1 : C t = 5 := by simpa [opAnd] using op
        refine eX12_readBoth (wcV (n_takesT (by omega) q ht c1) (And.intro (fun q1 => absurd q1 (by decide)) (fun q1 => (wcQ hM (fun v G z => ?_) rQ_N))))
        obtain ⟨rfl, ⟨ok, rfl⟩ | ⟨ok, t2, lv2, rfl⟩⟩ := z
        · rw [if_pos ok]
          exact ih _ _ _ (by omega) mo.2.1 (hl _ _ h50)
        · rw [if_neg (by rw [ok]; exact Bool.noConfusion)]
          exact stuck _ _ _ _ (pl_ne q) ⟨rfl, Or.inr ⟨ok, _, _, rfl⟩⟩
      · rw [if_neg op]
        have c1 : ¬ C t = 5 := fun z => op (by rw [z]; decide)
        exact eX12_readBoth (wcV (n_takesF (by omega) q ht c1) (And.intro (fun q1 => (eX12_readBoth ⟨rfl, Or.inl ⟨rfl, rfl⟩⟩)) (fun q1 => absurd rfl q1)))
  have mo := hm t0 lv0 ht0
  refine sX12_readBoth rfl (wcQ (hP (d - 1) t0 lv0 (by omega) ht0 hl0) (fun v G z => ?_) rQ_N)
  unfold pChain
  obtain ⟨rfl, ⟨ok, rfl⟩ | ⟨ok, t2, lv2, rfl⟩⟩ := z
  · rw [if_pos ok]
    exact loop 401 _ _ _ (by omega) mo.2.1 (hl _ _ hl0)
  · rw [if_neg (by rw [ok]; exact Bool.noConfusion)]
    exact stuck _ _ _ _ (pl_ne q) ⟨rfl, Or.inr ⟨ok, _, _, rfl⟩⟩
theorem rd_readTestS {dp : Nat} (hP : rdS cx jX12_readBoth 4 h dp) : rdS cx jX12_readTest 6 h dp := fun d t lv bd hd nb =>
  sX12_readTest rfl (wcV0 (hP (d - 1) t lv bd (by omega) nb) (eX12_readTest (wcV (n_takesB (by omega) nb) (And.intro (fun q1 => (eX12_readTest ⟨rfl, rfl⟩)) (fun q1 => absurd rfl q1)))))
theorem rd_readTest (q : tokP h N C V pl) {D dp : Nat} {P : Nat → Nat → PR SB} (hD : 4 ≤ D) (hm : mono N P) (hl : lvb P) (hP : rdP cx jX12_readBoth D h N pl dp P) : rdP cx jX12_readTest (D + 1) h N pl dp (pChain opOr opB P C) := by
  intro d t0 lv0 hd ht0 hl0
  have stuck : ∀ (t lv bd : Int32) (Q : Option Value → Hp → Prop), ¬ bd = -1 → Q none (pst h t lv bd) → E cx jX12_readTest d 0 5 [some (.ref o_m), some (.int (nI dp))] [] (pst h t lv bd) Q := fun t lv bd Q nb k =>
    eX12_readTest (wcV (n_takesB (by omega) nb) (And.intro (fun q1 => (eX12_readTest k)) (fun q1 => absurd rfl q1)))
  have loop : ∀ n t lv s, 400 < n + t → t ≤ N → lv ≤ 50 → E cx jX12_readTest d 0 5 [some (.ref o_m), some (.int (nI dp))] [] (pst h (nI t) (nI lv) (-1)) (rQ h pl (pLoop opOr opB P C n t lv s)) := by
    intro n
    induction n with
    | zero => intro t lv s hn ht; have := q.1; omega
    | succ n ih =>
      intro t lv s hn ht h50
      rw [pLoop]
      by_cases op : opOr (C t) = true
      · rw [if_pos op]
        have tl : t < N := tp_lt q (fun z => by rw [z] at op; exact absurd op (by decide))
        have mo := hm (t + 1) lv (by omega)
        have hM := hP (d - 1) (t + 1) lv (by omega) (by omega) h50
        have c1 : C t = 4 := by simpa [opOr] using op
        refine eX12_readTest (wcV (n_takesT (by omega) q ht c1) (And.intro (fun q1 => absurd q1 (by decide)) (fun q1 => (wcQ hM (fun v G z => ?_) rQ_N))))
        obtain ⟨rfl, ⟨ok, rfl⟩ | ⟨ok, t2, lv2, rfl⟩⟩ := z
        · rw [if_pos ok]
          exact ih _ _ _ (by omega) mo.2.1 (hl _ _ h50)
        · rw [if_neg (by rw [ok]; exact Bool.noConfusion)]
          exact stuck _ _ _ _ (pl_ne q) ⟨rfl, Or.inr ⟨ok, _, _, rfl⟩⟩
      · rw [if_neg op]
        have c1 : ¬ C t = 4 := fun z => op (by rw [z]; decide)
        exact eX12_readTest (wcV (n_takesF (by omega) q ht c1) (And.intro (fun q1 => (eX12_readTest ⟨rfl, Or.inl ⟨rfl, rfl⟩⟩)) (fun q1 => absurd rfl q1)))
  have mo := hm t0 lv0 ht0
  refine sX12_readTest rfl (wcQ (hP (d - 1) t0 lv0 (by omega) ht0 hl0) (fun v G z => ?_) rQ_N)
  unfold pChain
  obtain ⟨rfl, ⟨ok, rfl⟩ | ⟨ok, t2, lv2, rfl⟩⟩ := z
  · rw [if_pos ok]
    exact loop 401 _ _ _ (by omega) mo.2.1 (hl _ _ hl0)
  · rw [if_neg (by rw [ok]; exact Bool.noConfusion)]
    exact stuck _ _ _ _ (pl_ne q) ⟨rfl, Or.inr ⟨ok, _, _, rfl⟩⟩
/-! leaves are counted to 50 -/
theorem lvb_loop {α : Type} {op : Int32 → Bool} {cb : Int32 → α → α → α} {P : Nat → Nat → PR α} (hP : lvb P) : ∀ n t lv s, lv ≤ 50 → (pLoop op cb P C n t lv s).2.2.1 ≤ 50 := by
  intro n
  induction n with
  | zero => intro t lv s h; exact h
  | succ n ih =>
    intro t lv s h
    rw [pLoop]
    split
    · split
      · exact ih _ _ _ (hP _ _ h)
      · exact hP _ _ h
    · exact h
theorem lvb_chain {α : Type} {op : Int32 → Bool} {cb : Int32 → α → α → α} {P : Nat → Nat → PR α} (hP : lvb P) : lvb (pChain op cb P C) := fun t lv h => by
  unfold pChain; split
  · exact lvb_loop hP _ _ _ _ (hP _ _ h)
  · exact hP _ _ h
theorem lvb_brk {α : Type} {cl : Int32} {nx : Option (Nat → Nat → PR α)} {z : α} (hn : ∀ S, nx = some S → lvb S) : lvb (pBrk C cl nx z) := fun t lv h => by
  match nx, hn with
  | none, _ => exact h
  | some S, hn =>
    have := hn S rfl (t + 1) lv h
    by_cases ok : (S (t + 1) lv).1 = true
    · by_cases e : C (S (t + 1) lv).2.1 = cl
      · rw [brk_ok ok e]; exact this
      · rw [brk_cl ok e]; exact this
    · rw [brk_no (ts_nt ok)]; exact this
theorem lvb_part {nx : Option (Nat → Nat → PR SN)} (hn : ∀ S, nx = some S → lvb S) : lvb (pPart C V nx) := fun t lv h => by
  unfold pPart; split
  · exact lvb_brk hn t lv h
  · split
    · rename_i z; exact z.2
    · exact h
theorem lvb_sum : ∀ r, lvb (sumP C V r) := by
  intro r
  induction r with
  | zero => exact lvb_chain (lvb_chain (lvb_part (fun S z => by cases z)))
  | succ r ih => exact lvb_chain (lvb_chain (lvb_part (fun S z => by cases z; exact ih)))
theorem lvb_prt (r : Nat) : lvb (prtP C V r) := by
  cases r with
  | zero => exact lvb_part (fun S z => by cases z)
  | succ r => exact lvb_part (fun S z => by cases z; exact lvb_sum r)
theorem lvb_cmp {S : Nat → Nat → PR SN} (hS : lvb S) : lvb (pCmp C S) := fun t lv h => by
  unfold pCmp; split
  · split
    · exact hS _ _ (hS _ _ h)
    · exact hS _ _ h
  · exact hS _ _ h
theorem lvb_pos {S : Nat → Nat → PR SN} {nx : Option (Nat → Nat → PR SB)} (hS : lvb S) (hn : ∀ S, nx = some S → lvb S) : lvb (pPos C nx S) := fun t lv h => by
  unfold pPos; split
  · exact lvb_brk hn t lv h
  · exact lvb_cmp hS t lv h
theorem lvb_plain {S : Nat → Nat → PR SN} {nx : Option (Nat → Nat → PR SB)} (hS : lvb S) (hn : ∀ S, nx = some S → lvb S) : lvb (pPlain C nx S) := fun t lv h => lvb_pos hS hn _ lv h
theorem lvb_test : ∀ r, lvb (testP C V r) := by
  intro r
  induction r with
  | zero => exact lvb_chain (lvb_chain (lvb_plain (lvb_sum 0) (fun S z => by cases z)))
  | succ r ih => exact lvb_chain (lvb_chain (lvb_plain (lvb_sum (r + 1)) (fun S z => by cases z; exact ih)))
/-- all levels of sums -/
theorem rd_sumP (q : tokP h N C V pl) : ∀ r dp, dp + r = 8 → rdP cx jX12_readSum (5 * r + 6) h N pl dp (sumP C V r) := by
  have hC := q.2.2.1
  intro r
  induction r with
  | zero =>
    intro dp hdp
    have hp : rdP cx jX12_readPart 4 h N pl dp (prtP C V 0) := rd_part (D := 1) q (by omega) (fun _ => by omega) (fun S z => by cases z)
    have ht : rdP cx jX12_readTerm 5 h N pl dp (trmP C V 0) := rd_readTerm q (by omega) (mono_prt hC 0) (lvb_prt 0) hp
    rw [sumP_eq]
    exact rd_readSum q (by omega) (mono_trm hC 0) (lvb_chain (lvb_prt 0)) ht
  | succ r ih =>
    intro dp hdp
    have hp : rdP cx jX12_readPart (5 * r + 6 + 3) h N pl dp (prtP C V (r + 1)) := rd_part q (by omega) (fun z => by cases z) (fun S z => by cases z; exact ⟨by omega, ih (dp + 1) (by omega), mono_sum hC r⟩)
    have ht : rdP cx jX12_readTerm (5 * r + 6 + 4) h N pl dp (trmP C V (r + 1)) := rd_readTerm q (by omega) (mono_prt hC (r + 1)) (lvb_prt (r + 1)) hp
    rw [sumP_eq]
    exact rd_readSum q (by omega) (mono_trm hC (r + 1)) (lvb_chain (lvb_prt (r + 1))) ht
theorem rd_sumS {dp : Nat} : rdS cx jX12_readSum 5 h dp := rd_readSumS (rd_readTermS rd_partS)
end T81
