/-! the model asks a law of an item -/
section T55
variable {cx : Cx} {d a : Nat} {h g : Hp} {base N : Nat} {C V : Nat → Int32} {e : Env}
def bndA (e : Env) (cs : List CS) : Bool := cs.any (fun c => c.1 && csHolds c e)
/-- the clauses from token t on -/
def CLs (C V : Nat → Int32) (N : Nat) : List CS → Nat → Prop
  | [], t => t = N + 1
  | c :: r, t => t ≤ N ∧ ∃ lv, (pClause C V t lv).1 = true ∧ (pClause C V t lv).2.2.2 = c ∧ CLs C V N r ((pClause C V t lv).2.1 + 1)
theorem head_mono (hC : ∀ k, N ≤ k → C k = 0) {t lv : Nat} (ht : t ≤ N) : t ≤ (pHead C V t lv).2.1 ∧ (pHead C V t lv).2.1 ≤ N ∧ ((pHead C V t lv).1 = true → t < (pHead C V t lv).2.1) := by
  unfold pHead
  by_cases c1 : C t = 1
  · rw [if_pos c1]
    have tl : t < N := Nat.lt_of_not_le fun z => by rw [hC t z] at c1; exact absurd c1 (by decide)
    have := mono_sum (V := V) hC 8 (t + 1) lv (by omega)
    refine ⟨?_, this.2.1, fun z => ?_⟩ <;> simp only [] <;> omega
  · rw [if_neg c1]
    by_cases c2 : C t = 2
    · rw [if_pos c2]
      have tl : t < N := Nat.lt_of_not_le fun z => by rw [hC t z] at c2; exact absurd c2 (by decide)
      exact ⟨Nat.le_succ _, tl, fun _ => Nat.lt_succ_self _⟩
    · rw [if_neg c2]; exact ⟨Nat.le_refl _, ht, fun z => by cases z⟩
theorem tail_mono (hC : ∀ k, N ≤ k → C k = 0) {t lv : Nat} (ht : t ≤ N) : t ≤ (pTail C V t lv).2.1 ∧ (pTail C V t lv).2.1 ≤ N := by
  unfold pTail
  by_cases c1 : C t = 3
  · rw [if_pos c1]
    have tl : t < N := Nat.lt_of_not_le fun z => by rw [hC t z] at c1; exact absurd c1 (by decide)
    have := mono_test (V := V) hC 8 (t + 1) lv (by omega)
    exact ⟨by omega, this.2.1⟩
  · rw [if_neg c1]; exact ⟨Nat.le_refl _, ht⟩
theorem mono_clause (hC : ∀ k, N ≤ k → C k = 0) : mono N (pClause C V) := by
  intro t lv ht
  have h1 := head_mono (V := V) (lv := lv) hC ht
  unfold pClause
  by_cases ok : (pHead C V t lv).1 = true
  · rw [if_pos ok]
    have h2 := tail_mono (V := V) (lv := (pHead C V t lv).2.2.1) hC h1.2.1
    refine ⟨?_, h2.2, fun _ => ?_⟩
    · exact Nat.le_trans h1.1 h2.1
    · exact Nat.lt_of_lt_of_le (h1.2.2 ok) h2.1
  · rw [if_neg ok]; exact ⟨h1.1, h1.2.1, fun z => by cases z⟩
theorem more_CLs (hC : ∀ k, N ≤ k → C k = 0) : ∀ n t lv cs0, t ≤ N → (pMore C V n t lv cs0).1 = true → N ≤ (pMore C V n t lv cs0).2.1 → ∃ r, (pMore C V n t lv cs0).2.2.2 = cs0 ++ r ∧ r.length ≤ n ∧ CLs C V N r (t + 1) := by
  intro n
  induction n with
  | zero =>
    intro t lv cs0 ht ok hN
    rw [pMore] at ok hN ⊢
    by_cases c : C t = 159
    · rw [if_pos c] at ok; cases ok
    · rw [if_neg c] at ok hN ⊢
      exact ⟨[], by simp, Nat.le_refl _, by show t + 1 = N + 1; have : N ≤ t := hN; omega⟩
  | succ n ih =>
    intro t lv cs0 ht ok hN
    rw [pMore] at ok hN ⊢
    by_cases c : C t = 159
    · rw [if_pos c] at ok hN ⊢
      by_cases ok1 : (pClause C V (t + 1) lv).1 = true
      · rw [if_pos ok1] at ok hN ⊢
        have tl : t < N := Nat.lt_of_not_le fun z => by rw [hC t z] at c; exact absurd c (by decide)
        have mo := mono_clause (V := V) hC (t + 1) lv (by omega)
        obtain ⟨r, e1, e2, e3⟩ := ih _ _ _ mo.2.1 ok hN
        refine ⟨(pClause C V (t + 1) lv).2.2.2 :: r, by rw [e1, List.append_assoc]; rfl, by simp; omega, ?_⟩
        exact ⟨by omega, lv, ok1, rfl, e3⟩
      · rw [if_neg ok1] at ok; cases ok
    · rw [if_neg c] at ok hN ⊢
      exact ⟨[], by simp, Nat.zero_le _, by show t + 1 = N + 1; have : N ≤ t := hN; omega⟩
theorem law_CLs (hC : ∀ k, N ≤ k → C k = 0) (ok : (pLaw C V N).1 = true) : CLs C V N (pLaw C V N).2.2 0 ∧ 0 < (pLaw C V N).2.2.length ∧ (pLaw C V N).2.2.length ≤ 12 := by
  unfold pLaw at ok ⊢
  by_cases ok1 : (pClause C V 0 0).1 = true
  · rw [if_pos ok1] at ok ⊢
    by_cases ok2 : (pMore C V 11 (pClause C V 0 0).2.1 (pClause C V 0 0).2.2.1 [(pClause C V 0 0).2.2.2]).1 = true
    · rw [if_pos ok2] at ok ⊢
      have mo := mono_clause (V := V) hC 0 0 (Nat.zero_le _)
      obtain ⟨r, e1, e2, e3⟩ := more_CLs hC _ _ _ _ mo.2.1 ok2 (of_decide_eq_true ok)
      simp only [e1]
      exact ⟨⟨Nat.zero_le _, 0, ok1, rfl, e3⟩, by simp, by simp; omega⟩
    · rw [if_neg ok2] at ok; cases ok
  · rw [if_neg ok1] at ok; cases ok
theorem wI_commO {o o' k k' : Nat} {v w : Int32} (n : o ≠ o') : wI (wI h o k v) o' k' w = wI (wI h o' k' w) o k v := by
  unfold wI; congr 1; funext p q; unfold up2
  by_cases h1 : p = o
  · have h2 : ¬ p = o' := fun z => n (h1.symm.trans z)
    simp [h1, h2, n]
  · simp [h1]
theorem ev_wO {o q k : Nat} {b : Bool} {v : Int32} (n : o ≠ 104) : wI (ev h k b) o q v = ev (wI h o q v) k b := by
  unfold ev; rw [wI_commO (Ne.symm n), wI_commO (Ne.symm n)]
def aH (h : Hp) (i : Nat) (nd bd : Int32) : Hp := wI (wI h o_m_needs i nd) o_m_bound i bd
theorem aH_bd {i : Nat} {nd bd v : Int32} : wI (aH h i nd bd) o_m_bound i v = aH h i nd v := by unfold aH; rw [wI_wI]
theorem aH_nd {i : Nat} {nd bd v : Int32} : wI (aH h i nd bd) o_m_needs i v = aH h i v bd := by unfold aH; rw [wI_commO (by decide), wI_wI]
theorem aH_o {o i q : Nat} {nd bd : Int32} (n1 : o ≠ 116) (n2 : o ≠ 117) : hI (aH h i nd bd) o q = hI h o q := by unfold aH; rw [rd_o n2, rd_o n1]
theorem tok_aH {i : Nat} {nd bd : Int32} (q : tokE h base N C V e) : tokE (aH h i nd bd) base N C V e := by
  refine ⟨by rw [aH_o (by decide) (by decide)]; exact q.1, q.2.1, q.2.2.1, fun k hk => ?_, q.2.2.2.2.1, fun k hk => ?_⟩
  · show hI (aH h i nd bd) o_m_kept _ = _ ∧ hI (aH h i nd bd) o_m_kept _ = _
    rw [aH_o (by decide) (by decide), aH_o (by decide) (by decide)]; exact q.2.2.2.1 k hk
  · rw [aH_o (by decide) (by decide)]; exact q.2.2.2.2.2 k hk
/-- what is told of one clause more -/
def nd1 (e : Env) (c : CS) (nd : Int32) : Int32 := match csHolds c e, c.1, c.2.1 e with | true, false, some v => clampN v | _, _, _ => nd
def asQ (h : Hp) (i : Nat) (nd bd : Int32) : Option Value → Hp → Prop := fun r g => r = none ∧ ∃ k b, g = ev (aH h i nd bd) k b
theorem e_asksLoop (q : tokE h base N C V e) {i : Nat} (hd : 60 ≤ d) (hi : i < 22) : ∀ (cs : List CS) (t : Nat) (nd : Int32) (bd b : Bool) (l2 l3 l4 l5 l6 : Option Value), CLs C V N cs t →
    E cx jX12_asksOf d 0 111 [some (.ref o_m), some (.int (nI i)), l2, l3, l4, l5, l6] [] (ev (aH h i nd (bI bd)) (base + t) b) (asQ h i (needS e cs nd) (bI (bd || bndA e cs))) := by
  have hN := q.2.1
  have hb := q.2.2.1
  have hC := q.2.2.2.2.1
  have e20 : ∀ nd bd k b, hI (ev (aH h i nd bd) k b) o_m 20 = nI (base + N) := fun nd bd k b => by rw [ev_k (by decide) (by decide), aH_o (by decide) (by decide)]; exact q.1
  intro cs
  induction cs with
  | nil =>
    intro t nd bd b l2 l3 l4 l5 l6 ct
    have ct : t = N + 1 := ct
    subst ct
    refine eX12_asksOf (And.intro (fun _ => eX12_asksOf ⟨rfl, base + (N + 1), b, ?_⟩) (fun z => absurd ?_ z))
    · show _ = ev (aH h i nd (bI (bd || false))) _ _
      rw [Bool.or_false]
    · show hI (ev (aH h i nd (bI bd)) (base + (N + 1)) b) o_m 20 ≤ hI (ev (aH h i nd (bI bd)) (base + (N + 1)) b) o_m 19
      rw [e20, ev_go]; exact nI_le (by omega) (by omega)
  | cons c cs ih =>
    intro t nd bd b l2 l3 l4 l5 l6 ct
    obtain ⟨htN, lv, ok, ec, ct⟩ := ct
    have hm1 := head_mono (V := V) (lv := lv) hC htN
    have okH : (pHead C V t lv).1 = true := Classical.byContradiction fun n => by
      unfold pClause at ok; rw [if_neg n] at ok; cases ok
    unfold pClause at ok ec ct
    rw [if_pos okH] at ok ec ct
    have hm2 := tail_mono (V := V) (lv := (pHead C V t lv).2.2.1) hC hm1.2.1
    have tl : t < N := Nat.lt_of_lt_of_le (hm1.2.2 okH) hm1.2.1
    -- the tail from 201 on
    have e279 : ∀ (nd' : Int32) (bd' b2 : Bool) (m2 m5 m6 : Option Value) (sm : Int64), nd' = nd1 e c nd → bd' = (bd || (c.1 && csHolds c e)) → E cx jX12_asksOf d 0 279 [some (.ref o_m), some (.int (nI i)), m2, some (.long sm), none, m5, m6] [] (ev (aH h i nd' (bI bd')) (base + (pTail C V (pHead C V t lv).2.1 (pHead C V t lv).2.2.1).2.1) b2) (asQ h i (needS e (c :: cs) nd) (bI (bd || bndA e (c :: cs)))) := fun nd' bd' b2 m2 m5 m6 sm en eb => by
      have e1 : needS e (c :: cs) nd = needS e cs nd' := by rw [en]; rfl
      have e2 : (bd || bndA e (c :: cs)) = (bd' || bndA e cs) := by rw [eb]; show (bd || ((c.1 && csHolds c e) || bndA e cs)) = _; rw [Bool.or_assoc]
      rw [e1, e2]
      exact eX12_asksOf (e_eq (ih _ nd' bd' b2 m2 (some (.long sm)) none m5 m6 ct) rfl rfl ev_inc)
    have vi : vp_in (nI i) 22 := vp_in_nI hi (by decide)
    have ci : (nI i).toNatClampNeg = i := nI_clamp (by omega)
    have e201 : ∀ (iv b2 bn sb : Bool) (sm : Int64) (l6 : Option Value), bn = c.1 → (bn = true → sb = false) → (bn = false → sb = false → c.2.1 e = some sm) → (bn = false → sb = true → c.2.1 e = none) → ((iv = true ∧ b2 = false) ↔ csHolds c e = true) →
        E cx jX12_asksOf d 0 201 [some (.ref o_m), some (.int (nI i)), some (.int (bI bn)), some (.long sm), none, some (.int (bI sb)), l6] [.int (bI iv)] (ev (aH h i nd (bI bd)) (base + (pTail C V (pHead C V t lv).2.1 (pHead C V t lv).2.2.1).2.1) b2) (asQ h i (needS e (c :: cs) nd) (bI (bd || bndA e (c :: cs)))) := by
      intro iv b2 bn sb sm l6 ebn h1 h2 h3 hh
      have no : ¬ csHolds c e = true → nd = nd1 e c nd ∧ bd = (bd || (c.1 && csHolds c e)) := fun z => by
        have z : csHolds c e = false := by simpa using z
        constructor
        · unfold nd1; rw [z]
        · rw [z, Bool.and_false, Bool.or_false]
      refine eX12_asksOf (And.intro (fun q1 => ?_) (fun q1 => And.intro (fun q2 => ?_) (fun q2 => And.intro (fun q3 => ?_) (fun q3 => And.intro vi ?_))))
      · have n := no fun z => absurd (hh.mpr z).1 (by rw [bI_0.mp q1]; decide)
        exact e279 _ _ _ _ _ _ _ n.1 n.2
      · have : b2 = true := bI_n.mp fun z => q2 (ev_br.trans z)
        have n := no fun z => absurd (hh.mpr z).2 (by rw [this]; decide)
        exact e279 _ _ _ _ _ _ _ n.1 n.2
      · have sbt : sb = true := bI_n.mp q3
        have bnf : bn = false := by
          cases bn with
          | false => rfl
          | true => rw [h1 rfl] at sbt; cases sbt
        have c1 : c.1 = false := ebn.symm.trans bnf
        refine e279 _ _ _ _ _ _ _ ?_ ?_
        · unfold nd1; rw [h3 bnf sbt, c1]; cases csHolds c e <;> rfl
        · rw [c1, Bool.false_and, Bool.or_false]
      · have sbf : sb = false := bI_0.mp q3
        have b2f : b2 = false := bI_0.mp (ev_br.symm.trans q2)
        have hol : csHolds c e = true := hh.mp ⟨bI_n.mp q1, b2f⟩
        have ebd : hI (ev (aH h i nd (bI bd)) (base + (pTail C V (pHead C V t lv).2.1 (pHead C V t lv).2.2.1).2.1) b2) o_m_bound (nI i).toNatClampNeg = bI bd := by
          rw [ci, ev_o (by decide)]; exact rd_same
        have e278 : ∀ w, bn = false → w = clampN sm → E cx jX12_asksOf d 0 278 [some (.ref o_m), some (.int (nI i)), some (.int (bI bn)), some (.long sm), none, some (.int (bI sb)), some (.int (bI iv))] [.int w, .int (nI i), .ref o_m_needs] (ev (aH h i nd (bI (bd || bn))) (base + (pTail C V (pHead C V t lv).2.1 (pHead C V t lv).2.2.1).2.1) b2) (asQ h i (needS e (c :: cs) nd) (bI (bd || bndA e (c :: cs)))) := fun w bnf ew => by
          refine eX12_asksOf (And.intro vi ?_)
          refine e_eq (e279 w (bd || bn) b2 _ _ _ _ ?_ ?_) rfl rfl ?_
          · have c1 : c.1 = false := ebn.symm.trans bnf
            rw [ew]; unfold nd1; rw [hol, c1, h2 bnf sbf]
          · rw [hol, Bool.and_true, ebn]
          · rw [ci]; exact (ev_wO (by decide)).trans (by rw [aH_nd])
        have e243 : ∀ v' : Bool, v' = (bd || bn) → E cx jX12_asksOf d 0 243 [some (.ref o_m), some (.int (nI i)), some (.int (bI bn)), some (.long sm), none, some (.int (bI sb)), some (.int (bI iv))] [.int (bI v'), .int (nI i), .ref o_m_bound] (ev (aH h i nd (bI bd)) (base + (pTail C V (pHead C V t lv).2.1 (pHead C V t lv).2.2.1).2.1) b2) (asQ h i (needS e (c :: cs) nd) (bI (bd || bndA e (c :: cs)))) := fun v' ev' => by
          have hw : wI (ev (aH h i nd (bI bd)) (base + (pTail C V (pHead C V t lv).2.1 (pHead C V t lv).2.2.1).2.1) b2) o_m_bound (nI i).toNatClampNeg (vp_nar .boolean (bI v')) = ev (aH h i nd (bI (bd || bn))) (base + (pTail C V (pHead C V t lv).2.1 (pHead C V t lv).2.2.1).2.1) b2 := by
            have : vp_nar .boolean (bI v') = bI v' := by cases v' <;> rfl
            rw [this, ci, ev_wO (by decide), aH_bd, ev']
          have e263 : bn = false → ¬ sm < 0 → E cx jX12_asksOf d 0 263 [some (.ref o_m), some (.int (nI i)), some (.int (bI bn)), some (.long sm), none, some (.int (bI sb)), some (.int (bI iv))] [.int (nI i), .ref o_m_needs] (ev (aH h i nd (bI (bd || bn))) (base + (pTail C V (pHead C V t lv).2.1 (pHead C V t lv).2.2.1).2.1) b2) (asQ h i (needS e (c :: cs) nd) (bI (bd || bndA e (c :: cs)))) := fun bnf n0 => by
            refine eX12_asksOf (And.intro (fun q6 => eX12_asksOf (e278 _ bnf ?_)) (fun q6 => e278 _ bnf ?_))
            · have n12 : ¬ 12 < sm := fun z => absurd ((lg_cmp_gt sm 12).mpr z) (Int32.not_lt.mpr q6)
              unfold clampN; rw [if_neg n0, if_neg n12]
            · have n12 : 12 < sm := (lg_cmp_gt sm 12).mp (Int32.not_le.mp q6)
              unfold clampN; rw [if_neg n0, if_pos n12]
          refine eX12_asksOf (And.intro vi (And.intro (fun q4 => e_eq (e279 nd (bd || bn) b2 _ _ _ _ ?_ ?_) rfl rfl hw) (fun q4 => And.intro (fun q5 => e_eq (e263 (bI_0.mp q4) ?_) rfl rfl hw) (fun q5 => e_eq (e278 0 (bI_0.mp q4) ?_) rfl rfl hw))))
          · have c1 : c.1 = true := ebn.symm.trans (bI_n.mp q4)
            unfold nd1; rw [hol, c1]
          · rw [hol, Bool.and_true, ebn]
          · exact Int64.not_lt.mpr ((lg_cmp_ge _ _).mp q5)
          · have n0 : sm < 0 := Int64.not_le.mp fun z => q5 ((lg_cmp_ge _ _).mpr z)
            unfold clampN; rw [if_pos n0]
        refine And.intro (fun q4 => eX12_asksOf (e243 true ?_)) (fun q4 => And.intro (fun q5 => eX12_asksOf (e243 false ?_)) (fun q5 => eX12_asksOf (e243 true ?_)))
        · rw [bI_n.mp fun z => q4 (ebd.trans z)]; rfl
        · rw [bI_0.mp (ebd.symm.trans q4), bI_0.mp q5]; rfl
        · rw [bI_n.mp q5, Bool.or_true]
    -- the test, from 168 on
    have e168 : ∀ (bn sb : Bool) (sm : Int64) (l3 l4 l5 l6 : Option Value), bn = c.1 → (bn = true → sb = false) → (bn = false → sb = false → c.2.1 e = some sm) → (bn = false → sb = true → c.2.1 e = none) →
        E cx jX12_asksOf d 0 168 [some (.ref o_m), some (.int (nI i)), some (.int (bI bn)), l3, l4, l5, l6] [.long sm] (ev (aH h i nd (bI bd)) (base + (pHead C V t lv).2.1) sb) (asQ h i (needS e (c :: cs) nd) (bI (bd || bndA e (c :: cs)))) := by
      intro bn sb sm l3 l4 l5 l6 h0 h1 h2 h3
      have qa := tok_aH (i := i) (nd := nd) (bd := bI bd) q
      have hw : wI (ev (aH h i nd (bI bd)) (base + (pHead C V t lv).2.1) sb) o_m 21 0 = ev (aH h i nd (bI bd)) (base + (pHead C V t lv).2.1) false := ev_w21 rfl
      by_cases c3 : C (pHead C V t lv).2.1 = 3
      · have okT : (testP C V 8 ((pHead C V t lv).2.1 + 1) (pHead C V t lv).2.2.1).1 = true := by
          have : (pTail C V (pHead C V t lv).2.1 (pHead C V t lv).2.2.1).1 = true := ok
          unfold pTail at this; rw [if_pos c3] at this; exact this
        have et : pTail C V (pHead C V t lv).2.1 (pHead C V t lv).2.2.1 = testP C V 8 ((pHead C V t lv).2.1 + 1) (pHead C V t lv).2.2.1 := by unfold pTail; rw [if_pos c3]
        have tl2 : (pHead C V t lv).2.1 < N := tok_lt q (by rw [c3]; decide)
        have p1 := n_passT (cx := cx) (d := d - 1) (a := 0) (b := false) (t := (pHead C V t lv).2.1) (c := 3) (by omega) qa (by omega) c3
        rw [← hw] at p1
        have p2 := ev_testP (cx := cx) qa 8 (d - 1) ((pHead C V t lv).2.1 + 1) (pHead C V t lv).2.2.1 true false (by omega) (by omega) okT
        have ch : csHolds c e = decide ((testP C V 8 ((pHead C V t lv).2.1 + 1) (pHead C V t lv).2.2.1).2.2.2 e = some true) := by rw [← ec, et]; rfl
        refine eX12_asksOf (And.intro (Or.inl rfl) (wcV p1 (And.intro (fun z => absurd z (by decide)) (fun _ => wcQ p2 (fun v g z => ?_) bQ_N))))
        obtain ⟨v, b2, rfl, rfl, rb⟩ := z
        have rb := rb.1 ⟨rfl, rfl⟩
        have key : ((v = true ∧ b2 = false) ↔ csHolds c e = true) := by
          rw [ch]
          cases hs : (testP C V 8 ((pHead C V t lv).2.1 + 1) (pHead C V t lv).2.2.1).2.2.2 e with
          | none => rw [hs] at rb; simp [show b2 = true from rb]
          | some x => rw [hs] at rb; simp [rb.1, rb.2]
        have e201' := fun (iv : Bool) (k : (iv = true ∧ b2 = false) ↔ csHolds c e = true) => e201 iv b2 bn sb sm l6 h0 h1 h2 h3 k
        rw [et] at e201'
        have ebr : hI (ev (aH h i nd (bI bd)) (base + (pHead C V t lv).2.1) sb) o_m 21 = bI sb := ev_br
        rw [← ebr] at e201'
        refine And.intro (fun q1 => eX12_asksOf (e201' false ?_)) (fun q1 => eX12_asksOf (e201' true ?_))
        · have ev := bI_0.mp q1; subst ev; exact key
        · have ev := bI_n.mp q1; subst ev; exact key
      · have et : pTail C V (pHead C V t lv).2.1 (pHead C V t lv).2.2.1 = (true, (pHead C V t lv).2.1, (pHead C V t lv).2.2.1, tS) := by unfold pTail; rw [if_neg c3]
        have p1 := n_passF (cx := cx) (d := d - 1) (a := 0) (b := false) (t := (pHead C V t lv).2.1) (c := 3) (by omega) qa (by omega) c3
        rw [← hw] at p1
        have e201' := e201 true false bn sb sm l6 h0 h1 h2 h3 (by rw [← ec, et]; simp [csHolds, tS])
        rw [et] at e201'
        have ebr : hI (ev (aH h i nd (bI bd)) (base + (pHead C V t lv).2.1) sb) o_m 21 = bI sb := ev_br
        rw [← ebr] at e201'
        exact eX12_asksOf (And.intro (Or.inl rfl) (wcV p1 (And.intro (fun _ => eX12_asksOf (e_eq e201' rfl rfl hw)) (fun z => absurd rfl z))))
    have qa := tok_aH (i := i) (nd := nd) (bd := bI bd) q
    have hw2 : wI (wI (ev (aH h i nd (bI bd)) (base + t) b) o_m 21 0) o_m 19 (hI (wI (ev (aH h i nd (bI bd)) (base + t) b) o_m 21 0) o_m 19 + 1) = ev (aH h i nd (bI bd)) (base + (t + 1)) false := by
      rw [show wI (ev (aH h i nd (bI bd)) (base + t) b) o_m 21 0 = ev (aH h i nd (bI bd)) (base + t) false from ev_w21 rfl]; exact ev_inc
    refine eX12_asksOf (And.intro (fun z => absurd z ?_) (fun _ => wcV (n_codeAt qa ev_go (by omega)) (And.intro (fun q1 => eX12_asksOf (eX12_asksOf (And.intro (Or.inl rfl) (And.intro (fun _ => ?_) (fun z => absurd rfl z))))) (fun q1 => eX12_asksOf (And.intro (Or.inl rfl) (And.intro (fun z => absurd z (by decide)) (fun _ => ?_)))))))
    · show ¬ hI (ev (aH h i nd (bI bd)) (base + t) b) o_m 20 ≤ hI (ev (aH h i nd (bI bd)) (base + t) b) o_m 19
      rw [e20, ev_go]; exact nI_ge (by omega) (by omega)
    · have c1 : C t = 1 := Classical.byContradiction fun n => by
        unfold pHead at okH; rw [if_neg n, if_neg q1] at okH; cases okH
      have eh : pHead C V t lv = ((sumP C V 8 (t + 1) lv).1, (sumP C V 8 (t + 1) lv).2.1, (sumP C V 8 (t + 1) lv).2.2.1, false, (sumP C V 8 (t + 1) lv).2.2.2) := by unfold pHead; rw [if_pos c1]
      have okS : (sumP C V 8 (t + 1) lv).1 = true := by rw [eh] at okH; exact okH
      have p2 := ev_sumP (cx := cx) qa 8 (d - 1) (t + 1) lv true false (by omega) (by omega) okS
      have k : E cx jX12_asksOf d 0 163 [some (.ref o_m), some (.int (nI i)), some (.int (bI false)), l3, l4, l5, l6] [] (ev (aH h i nd (bI bd)) (base + (t + 1)) false) (asQ h i (needS e (c :: cs) nd) (bI (bd || bndA e (c :: cs)))) := by
        refine eX12_asksOf (wcQ p2 (fun v g z => ?_) nQ_N)
        obtain ⟨sm, sb, rfl, rfl, rn⟩ := z
        have rn := rn.1 ⟨rfl, rfl⟩
        have c0 : c.1 = false := by rw [← ec, eh]
        have cs : c.2.1 e = (sumP C V 8 (t + 1) lv).2.2.2 e := by rw [← ec, eh]
        have := e168 false sb sm l3 l4 l5 l6 c0.symm (fun z => by cases z) ?_ ?_
        · rw [eh] at this; exact this
        · intro _ hsb
          rw [cs]
          cases hs : (sumP C V 8 (t + 1) lv).2.2.2 e with
          | none => rw [hs] at rn; rw [show sb = true from rn] at hsb; cases hsb
          | some x => rw [hs] at rn; rw [rn.2]
        · intro _ hsb
          rw [cs]
          cases hs : (sumP C V 8 (t + 1) lv).2.2.2 e with
          | none => rfl
          | some x => rw [hs] at rn; rw [rn.1] at hsb; cases hsb
      exact e_eq k rfl rfl hw2
    · have eh : pHead C V t lv = (true, t + 1, lv, true, zN) := by unfold pHead; rw [if_neg (by rw [q1]; decide), if_pos q1]
      have := e168 true false 0 l3 l4 l5 l6 (by rw [← ec, eh]) (fun _ => rfl) (fun z => by cases z) (fun z => by cases z)
      refine e_eq ?_ rfl rfl hw2
      rw [eh] at this
      exact this
/-- an item's facts as they are asked for -/
def envW (w : Wd) (i : Nat) : Env := fun k => if k = 0 then nI i else w (7 * i + (k - 1))
end T55
