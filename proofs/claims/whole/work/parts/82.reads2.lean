/-! the model reads tests, clauses, a whole text -/
section T82
variable {cx : Cx} {d a : Nat} {h g : Hp} {N : Nat} {C V : Nat → Int32} {pl : Nat → Nat}
theorem rd_plainS {dp : Nat} : rdS cx jX12_readPlain 2 h dp := fun d t lv bd hd nb =>
  sX12_readPlain rfl (eX12_readPlain (And.intro (fun q => absurd q (by decide)) (fun _ => wcV (n_takesB (by omega) nb) (eX12_readPlain (And.intro (fun _ => (eX12_readPlain (wcV (n_fineF nb) (And.intro (fun q1 => absurd rfl q1) (fun q1 => ⟨rfl, rfl⟩))))) (fun q => absurd rfl q))))))
theorem rd_plain (q : tokP h N C V pl) {D dp : Nat} {nx : Option (Nat → Nat → PR SB)} {S : Nat → Nat → PR SN} (hD : 5 ≤ D) (hdp : dp ≤ 8) (hS : rdP cx jX12_readSum D h N pl dp S) (hm : mono N S) (hl : lvb S) (hn : nx = none → dp = 8) (hs : ∀ S, nx = some S → dp < 8 ∧ rdP cx jX12_readTest D h N pl (dp + 1) S ∧ mono N S) : rdP cx jX12_readPlain (D + 1) h N pl dp (pPlain C nx S) := by
  intro d t0 lv hd ht0 h50
  have body : ∀ t l3, t ≤ N → E cx jX12_readPlain d 0 16 [some (.ref o_m), some (.int (nI dp)), some (.int 0), l3] [] (pst h (nI t) (nI lv) (-1)) (rQ h pl (pPos C nx S t lv)) := fun t l3 ht => by
    have cc : hI (pst h (nI t) (nI lv) (-1)) o_m_code (hI (pst h (nI t) (nI lv) (-1)) o_m 16).toNatClampNeg = C t := tp_c ht q
    refine eX12_readPlain (wcV n_fineT (And.intro (fun q1 => (eX12_readPlain (And.intro (tp_v ht q) (wcS (n_signC (r := 140)) (And.intro (fun q2 => (eX12_readPlain ?_)) (fun q2 => ?_)))))) (fun q1 => absurd q1 (by decide))))
    · have n140 : ¬ C t = 140 := fun z => q2 (cc.trans z)
      unfold pPos
      rw [if_neg n140]
      have mo := hm t lv ht
      refine wcQ (hS (d - 1) t lv (by omega) ht h50) (fun v G z => ?_) rQ_N
      unfold pCmp
      obtain ⟨rfl, ⟨ok, rfl⟩ | ⟨ok, t2, lv2, rfl⟩⟩ := z
      · rw [if_pos ok]
        by_cases ic : isCmp (C (S t lv).2.1) = true
        · rw [if_pos ic]
          have tl : (S t lv).2.1 < N := tp_lt q (fun z => by rw [z] at ic; exact absurd ic (by decide))
          have e128 : E cx jX12_readPlain d 0 128 [some (.ref o_m), some (.int (nI dp)), some (.int 0), some (.int (hI (pst h (nI t) (nI lv) (-1)) o_m_code (hI (pst h (nI t) (nI lv) (-1)) o_m 16).toNatClampNeg))] [] (pst h (nI ((S t lv).2.1 + 1)) (nI (S t lv).2.2.1) (-1)) (rQ h pl ((S ((S t lv).2.1 + 1) (S t lv).2.2.1).1, (S ((S t lv).2.1 + 1) (S t lv).2.2.1).2.1, (S ((S t lv).2.1 + 1) (S t lv).2.2.1).2.2.1, cmpS (C (S t lv).2.1) (S t lv).2.2.2 (S ((S t lv).2.1 + 1) (S t lv).2.2.1).2.2.2)) := by
            refine eX12_readPlain (wcQ (hS (d - 1) ((S t lv).2.1 + 1) (S t lv).2.2.1 (by omega) (by omega) (hl _ _ h50)) (fun v G z => ?_) rQ_N)
            obtain ⟨rfl, ⟨ok2, rfl⟩ | ⟨ok2, t3, lv3, rfl⟩⟩ := z
            · exact eX12_readPlain ⟨rfl, Or.inl ⟨ok2, rfl⟩⟩
            · exact eX12_readPlain ⟨rfl, Or.inr ⟨ok2, _, _, rfl⟩⟩
          by_cases c1 : C (S t lv).2.1 = 160
          · exact wcS (n_signC (r := 160)) (wcV (n_takesT (by omega) q mo.2.1 c1) (And.intro (fun q3 => e128) (fun q3 => absurd q3 (by decide))))
          · refine wcS (n_signC (r := 160)) (wcV (n_takesF (by omega) q mo.2.1 c1) (And.intro (fun q3 => absurd rfl q3) (fun q3 => ?_)))
            by_cases c2 : C (S t lv).2.1 = 162
            · exact wcS (n_signC (r := 162)) (wcV (n_takesT (by omega) q mo.2.1 c2) (And.intro (fun q3 => e128) (fun q3 => absurd q3 (by decide))))
            · have c3 : C (S t lv).2.1 = 161 := by
                have : (C (S t lv).2.1 = 160 ∨ C (S t lv).2.1 = 162) ∨ C (S t lv).2.1 = 161 := by simpa [isCmp] using ic
                exact this.resolve_left fun z => z.elim c1 c2
              exact wcS (n_signC (r := 162)) (wcV (n_takesF (by omega) q mo.2.1 c2) (And.intro (fun q3 => absurd rfl q3) (fun q3 => (wcS (n_signC (r := 161)) (wcV0 (n_mustT (by omega) q mo.2.1 c3) e128)))))
        · rw [if_neg ic]
          have c1 : ¬ C (S t lv).2.1 = 160 := fun z => ic (by rw [z]; decide)
          have c2 : ¬ C (S t lv).2.1 = 162 := fun z => ic (by rw [z]; decide)
          have c3 : ¬ C (S t lv).2.1 = 161 := fun z => ic (by rw [z]; decide)
          refine wcS (n_signC (r := 160)) (wcV (n_takesF (by omega) q mo.2.1 c1) (And.intro (fun q3 => absurd rfl q3) (fun q3 => ?_)))
          refine wcS (n_signC (r := 162)) (wcV (n_takesF (by omega) q mo.2.1 c2) (And.intro (fun q3 => absurd rfl q3) (fun q3 => ?_)))
          exact wcS (n_signC (r := 161)) (wcV0 (n_mustF (by omega) q mo.2.1 c3) (eX12_readPlain (wcV0 (rd_sumS (d - 1) _ _ _ (by omega) (pl_ne q)) (eX12_readPlain ⟨rfl, Or.inr ⟨rfl, _, _, rfl⟩⟩))))
      · rw [if_neg (by rw [ok]; exact Bool.noConfusion)]
        refine wcS (n_signC (r := 160)) (wcV (n_takesB (by omega) (pl_ne q)) (And.intro (fun q3 => absurd rfl q3) (fun q3 => ?_)))
        refine wcS (n_signC (r := 162)) (wcV (n_takesB (by omega) (pl_ne q)) (And.intro (fun q3 => absurd rfl q3) (fun q3 => ?_)))
        exact wcS (n_signC (r := 161)) (wcV0 (n_mustB (by omega) (pl_ne q)) (eX12_readPlain (wcV0 (rd_sumS (d - 1) _ _ _ (by omega) (pl_ne q)) (eX12_readPlain ⟨rfl, Or.inr ⟨rfl, _, _, rfl⟩⟩))))
    · have y140 : C t = 140 := cc.symm.trans q2
      have tl : t < N := tp_lt q (by rw [y140]; decide)
      unfold pPos
      rw [if_pos y140]
      match nx, hn, hs with
      | none, hn, _ =>
        obtain rfl := hn rfl
        exact And.intro (fun q3 => absurd rfl q3) (fun q3 => (wcV0 (n_faultsT (by omega) q ht) (eX12_readPlain (wcV (n_fineF (pl_ne q)) (And.intro (fun q4 => absurd rfl q4) (fun q4 => ⟨rfl, Or.inr ⟨rfl, _, _, rfl⟩⟩))))))
      | some T, _, hs =>
        obtain ⟨h8, hT, hmT⟩ := hs T rfl
        have mo := hmT (t + 1) lv (by omega)
        have hM := hT (d - 1) (t + 1) lv (by omega) (by omega) h50
        have e16 : wI (pst h (nI t) (nI lv) (-1)) o_m 16 (hI (pst h (nI t) (nI lv) (-1)) o_m 16 + 1) = pst h (nI (t + 1)) (nI lv) (-1) := by rw [ps_16, ps_w16, nI_succ]
        rw [← e16, nI_succ] at hM
        refine And.intro (fun q3 => (eX12_readPlain (wcV n_fineT (And.intro (fun q4 => (eX12_readPlain (wcQ hM (fun v G z => ?_) rQ_N))) (fun q4 => absurd q4 (by decide)))))) (fun q3 => absurd q3 (fun z => by have := (nI_eq (a := dp) (b := 8) (by omega) (by decide)).mp z; omega))
        obtain ⟨rfl, ⟨ok, rfl⟩ | ⟨ok, t2, lv2, rfl⟩⟩ := z
        · by_cases cl : C (T (t + 1) lv).2.1 = 141
          · rw [brk_ok ok cl]
            exact wcS (n_signC (r := 141)) (wcV0 (n_mustT (by omega) q mo.2.1 cl) (eX12_readPlain ⟨rfl, Or.inl ⟨rfl, rfl⟩⟩))
          · rw [brk_cl ok cl]
            exact wcS (n_signC (r := 141)) (wcV0 (n_mustF (by omega) q mo.2.1 cl) (eX12_readPlain ⟨rfl, Or.inr ⟨rfl, _, _, rfl⟩⟩))
        · rw [brk_no ok]
          exact wcS (n_signC (r := 141)) (wcV0 (n_mustB (by omega) (pl_ne q)) (eX12_readPlain ⟨rfl, Or.inr ⟨rfl, _, _, rfl⟩⟩))
  have loop : ∀ n t k, 400 < n + t → t ≤ N → E cx jX12_readPlain d 0 2 [some (.ref o_m), some (.int (nI dp)), some (.int 1), none] [] (pst h (nI t) (nI lv) (-1)) (rQ h pl (pPos C nx S (pNots C n t k).1 lv)) := by
    intro n
    induction n with
    | zero => intro t k hn ht; have := q.1; omega
    | succ n ih =>
      intro t k hn ht
      rw [pNots]
      by_cases c6 : C t = 6
      · rw [if_pos c6]
        have tl : t < N := tp_lt q (by rw [c6]; decide)
        exact eX12_readPlain (And.intro (fun z => absurd z (by decide)) (fun _ => wcV (n_takesT (by omega) q ht c6) (ih (t + 1) (!k) (by omega) (by omega))))
      · rw [if_neg c6]
        exact eX12_readPlain (And.intro (fun z => absurd z (by decide)) (fun _ => wcV (n_takesF (by omega) q ht c6) (eX12_readPlain (And.intro (fun _ => body t none ht) (fun z => absurd rfl z)))))
  exact sX12_readPlain rfl (loop 401 t0 false (by omega) ht0)
/-- all levels of tests -/
theorem rd_testP (q : tokP h N C V pl) : ∀ r dp, dp + r = 8 → rdP cx jX12_readTest (5 * r + 9) h N pl dp (testP C V r) := by
  have hC := q.2.2.1
  intro r
  induction r with
  | zero =>
    intro dp hdp
    have hp : rdP cx jX12_readPlain 7 h N pl dp (plnP C V 0) := rd_plain (D := 6) q (by omega) (by omega) (rd_sumP q 0 dp hdp) (mono_sum hC 0) (lvb_sum 0) (fun _ => by omega) (fun S z => by cases z)
    have hb : rdP cx jX12_readBoth 8 h N pl dp (bthP C V 0) := rd_readBoth q (by omega) (mono_pln hC 0) (lvb_plain (lvb_sum 0) (fun S z => by cases z)) hp
    rw [testP_eq]
    exact rd_readTest q (by omega) (mono_bth hC 0) (lvb_chain (lvb_plain (lvb_sum 0) (fun S z => by cases z))) hb
  | succ r ih =>
    intro dp hdp
    have ih' : rdP cx jX12_readTest (5 * (r + 1) + 6) h N pl (dp + 1) (testP C V r) := fun d t lv hd => ih (dp + 1) (by omega) d t lv (by omega)
    have lb : lvb (plnP C V (r + 1)) := lvb_plain (lvb_sum (r + 1)) (fun S z => by cases z; exact lvb_test r)
    have hp : rdP cx jX12_readPlain (5 * (r + 1) + 7) h N pl dp (plnP C V (r + 1)) := rd_plain q (by omega) (by omega) (rd_sumP q (r + 1) dp hdp) (mono_sum hC (r + 1)) (lvb_sum (r + 1)) (fun z => by cases z) (fun S z => by cases z; exact ⟨by omega, ih', mono_test hC r⟩)
    have hb : rdP cx jX12_readBoth (5 * (r + 1) + 8) h N pl dp (bthP C V (r + 1)) := rd_readBoth q (by omega) (mono_pln hC (r + 1)) lb hp
    rw [testP_eq]
    exact rd_readTest q (by omega) (mono_bth hC (r + 1)) (lvb_chain lb) hb
/-! a clause -/
theorem lvb_head : lvb (pHead C V) := fun t lv h => by
  unfold pHead; split
  · exact lvb_sum 8 _ _ h
  · split <;> exact h
theorem lvb_tail : lvb (pTail C V) := fun t lv h => by
  unfold pTail; split
  · exact lvb_test 8 _ _ h
  · exact h
theorem lvb_clause : lvb (pClause C V) := fun t lv h => by
  unfold pClause; split
  · exact lvb_tail _ _ (lvb_head _ _ h)
  · exact lvb_head _ _ h
theorem n_readClause (q : tokP h N C V pl) {t lv : Nat} (hd : 51 ≤ d) (ht : t ≤ N) (h50 : lv ≤ 50) : M cx jX12_readClause d 0 [.ref o_m] (pst h (nI t) (nI lv) (-1)) (rQ h pl (pClause C V t lv)) := by
  have hC := q.2.2.1
  have tail : ∀ t lv, t ≤ N → lv ≤ 50 → E cx jX12_readClause d 0 21 [some (.ref o_m)] [] (pst h (nI t) (nI lv) (-1)) (rQ h pl (pTail C V t lv)) := fun t lv ht h50 => by
    unfold pTail
    by_cases c3 : C t = 3
    · rw [if_pos c3]
      have tl : t < N := tp_lt q (by rw [c3]; decide)
      have hs := rd_testP (cx := cx) q 8 0 rfl (d - 1) (t + 1) lv (by omega) (by omega) h50
      generalize testP C V 8 (t + 1) lv = R at hs
      refine eX12_readClause (wcV (n_takesT (by omega) q ht c3) (And.intro (fun q2 => absurd q2 (by decide)) (fun q2 => (wcQ hs (fun v G z => ?_) rQ_N))))
      obtain ⟨rfl, z⟩ := z
      exact eX12_readClause ⟨rfl, z⟩
    · rw [if_neg c3]
      exact eX12_readClause (wcV (n_takesF (by omega) q ht c3) (And.intro (fun q2 => (eX12_readClause ⟨rfl, Or.inl ⟨rfl, rfl⟩⟩)) (fun q2 => absurd rfl q2)))
  have stuck : ∀ (t lv bd : Int32) (Q : Option Value → Hp → Prop), ¬ bd = -1 → Q none (pst h t lv bd) → E cx jX12_readClause d 0 21 [some (.ref o_m)] [] (pst h t lv bd) Q := fun t lv bd Q nb k =>
    eX12_readClause (wcV (n_takesB (by omega) nb) (And.intro (fun q2 => (eX12_readClause k)) (fun q2 => absurd rfl q2)))
  have tail2 : ∀ a b, (pHead C V t lv).1 = true → (pHead C V t lv).2.1 = a → (pHead C V t lv).2.2.1 = b → E cx jX12_readClause d 0 21 [some (.ref o_m)] [] (pst h (nI a) (nI b) (-1)) (rQ h pl (pClause C V t lv)) := fun a b ok ea eb => by
    subst ea; subst eb
    unfold pClause
    rw [if_pos ok]
    exact tail _ _ (head_mono hC ht).2.1 (lvb_head _ _ h50)
  have no : ∀ a, (pHead C V t lv).1 = false → (pHead C V t lv).2.1 = a → ∀ (t2 lv2 : Int32), E cx jX12_readClause d 0 21 [some (.ref o_m)] [] (pst h t2 lv2 (nI (pl a))) (rQ h pl (pClause C V t lv)) := fun a ok ea t2 lv2 => by
    subst ea
    unfold pClause
    rw [if_neg (by rw [ok]; exact Bool.noConfusion)]
    exact stuck _ _ _ _ (pl_ne q) ⟨rfl, Or.inr ⟨rfl, _, _, rfl⟩⟩
  by_cases c1 : C t = 1
  · have tl : t < N := tp_lt q (by rw [c1]; decide)
    have eh : pHead C V t lv = ((sumP C V 8 (t + 1) lv).1, (sumP C V 8 (t + 1) lv).2.1, (sumP C V 8 (t + 1) lv).2.2.1, false, (sumP C V 8 (t + 1) lv).2.2.2) := by unfold pHead; rw [if_pos c1]
    have hs := rd_sumP (cx := cx) q 8 0 rfl (d - 1) (t + 1) lv (by omega) (by omega) h50
    generalize sumP C V 8 (t + 1) lv = R at eh hs
    have f1 : (pHead C V t lv).1 = R.1 := by rw [eh]
    have f2 : (pHead C V t lv).2.1 = R.2.1 := by rw [eh]
    have f3 : (pHead C V t lv).2.2.1 = R.2.2.1 := by rw [eh]
    refine sX12_readClause rfl (wcV (n_takesT (by omega) q ht c1) (And.intro (fun q1 => absurd q1 (by decide)) (fun q1 => (wcQ hs (fun v G z => ?_) rQ_N))))
    obtain ⟨rfl, ⟨ok, rfl⟩ | ⟨ok, t2, lv2, rfl⟩⟩ := z
    · exact tail2 _ _ (f1.trans ok) f2 f3
    · exact no _ (f1.trans ok) f2 _ _
  · by_cases c2 : C t = 2
    · have eh : pHead C V t lv = (true, t + 1, lv, true, zN) := by unfold pHead; rw [if_neg c1, if_pos c2]
      exact sX12_readClause rfl (wcV (n_takesF (by omega) q ht c1) (And.intro (fun q1 => (eX12_readClause (wcV0 (n_mustT (by omega) q ht c2) (tail2 _ _ (by rw [eh]) (by rw [eh]) (by rw [eh]))))) (fun q1 => absurd rfl q1)))
    · have eh : pHead C V t lv = (false, t, lv, false, zN) := by unfold pHead; rw [if_neg c1, if_neg c2]
      exact sX12_readClause rfl (wcV (n_takesF (by omega) q ht c1) (And.intro (fun q1 => (eX12_readClause (wcV0 (n_mustF (by omega) q ht c2) (no _ (by rw [eh]) (by rw [eh]) _ _)))) (fun q1 => absurd rfl q1)))
end T82
