/-! the class's reader: comparisons, plain tests, all levels -/
section T99996
variable {cx : Cx} {d a : Nat} {h G : Hp} {b : Nat → Int32} {n N t lv m : Nat}
theorem rk_cmp (q : rB h b n N) {D dp : Nat} {S : Nat → Nat → PR SN} (hD : 5 ≤ D) (hmo : mono N S) (hlv : lvb S) (hS : rkC cx jX5_readSum D h b n N cmpN dp S) : rkC cx jX5_readCompared (D + 1) h b n N cmpB dp (pCmp (tC b n) S) := by
  intro d t lv m G hd ht hl hm s
  have h400 : N ≤ 400 := Nat.le_trans q.2.2.2.2.1 q.1
  have hM := hS (d - 1) t lv m G (by omega) ht hl hm s
  have mo := hmo t lv ht
  have lb := hlv t lv hl
  refine sX5_readCompared rfl (wcQ hM (fun v g z => ?_) (cQ_N s))
  obtain ⟨rfl, m2, s2, p1, p2, p3, p4⟩ := z
  unfold pCmp
  refine And.intro (fun z => eX5_readCompared ?_) (fun z => And.intro (Or.inl rfl) ?_)
  · have ok := bI_n.mp z
    obtain ⟨l1, l2⟩ := p4 ok
    rw [if_pos ok]
    have fin : ∀ (c : Int32) (kk : Nat), tC b n (S t lv).2.1 = c → isCmp c = true → ((kk = 6 ∧ c = 160) ∨ (kk = 7 ∧ c = 162) ∨ (kk = 8 ∧ c = 161)) → E cx jX5_readCompared d 0 53 [some (.ref o_reader), some (.int (nI dp)), none, none] [.int (nI kk)] g (cQ h b n cmpB t lv m G (if isCmp (tC b n (S t lv).2.1) = true then ((S ((S t lv).2.1 + 1) (S t lv).2.2.1).1, (S ((S t lv).2.1 + 1) (S t lv).2.2.1).2.1, (S ((S t lv).2.1 + 1) (S t lv).2.2.1).2.2.1, cmpS (tC b n (S t lv).2.1) (S t lv).2.2.2 (S ((S t lv).2.1 + 1) (S t lv).2.2.1).2.2.2) else (false, (S t lv).2.1, (S t lv).2.2.1, zB))) := fun c kk ec ic hk => by
      rw [if_pos (by rw [ec]; exact ic)]
      have tl : (S t lv).2.1 < N := tkn_lt q (by rw [ec]; rintro rfl; exact absurd ic (by decide))
      have s3 := adv_S s2
      have hM2 := hS (d - 1) ((S t lv).2.1 + 1) (S t lv).2.2.1 m2 _ (by omega) (by omega) lb (by omega) s3
      have mo2 := hmo ((S t lv).2.1 + 1) (S t lv).2.2.1 (by omega)
      refine eX5_readCompared (And.intro (fun _ => eX5_readCompared (wcV0 (r_adv q s2 (by omega)) (wcQ hM2 (fun v g2 z => ?_) (cQ_N s3)))) (fun z => absurd z (nI_m1 (by omega))))
      obtain ⟨rfl, m3, s4, r1, r2, r3, r4⟩ := z
      have s5 := add_S (o := nI kk) (x := 0) s4
      have old : ∀ i, i < m3 → hI (stepH g2 m3 (nI kk) 0) o_reader_steps i = hI g2 o_reader_steps i := fun i hi => add_82 (by omega)
      have old2 : ∀ i, i < m2 → hI (stepH g2 m3 (nI kk) 0) o_reader_steps i = hI g o_reader_steps i := fun i hi => (old i (by omega)).trans ((r3 i hi).trans adv_82)
      refine wcV (r_add q s4 (by omega) (by omega)) (And.intro bI_B ⟨rfl, m3 + 1, s5, by omega, ?_, fun i hi => (old2 i (by omega)).trans (p3 i hi), fun w => ?_⟩)
      · show m3 + 1 + t ≤ m + (S ((S t lv).2.1 + 1) (S t lv).2.2.1).2.1
        omega
      · obtain ⟨l3, l4⟩ := r4 w
        refine ⟨by show lv < (S ((S t lv).2.1 + 1) (S t lv).2.2.1).2.2.1; omega, ?_⟩
        show cmpB _ m (m3 + 1) ((S ((S t lv).2.1 + 1) (S t lv).2.2.1).2.2.1 - lv) (cmpS (tC b n (S t lv).2.1) (S t lv).2.2.2 (S ((S t lv).2.1 + 1) (S t lv).2.2.1).2.2.2)
        rw [show (S ((S t lv).2.1 + 1) (S t lv).2.2.1).2.2.1 - lv = ((S t lv).2.2.1 - lv) + ((S ((S t lv).2.1 + 1) (S t lv).2.2.1).2.2.1 - (S t lv).2.2.1) by omega, ec]
        exact cmpB_cmp hk (cmpN_cg l2 (fun i _ hi => old2 i hi)) (cmpN_cg l4 (fun i _ hi => old i hi)) (by rw [add_new]; rfl)
    refine wcV (r_is q s2 (by omega) (k := 7) (by decide)) (And.intro (fun z1 => eX5_readCompared ?_) (fun z1 => fin 160 6 (b2i_n z1) (by decide) (by decide)))
    refine wcV (r_is q s2 (by omega) (k := 8) (by decide)) (And.intro (fun z2 => eX5_readCompared ?_) (fun z2 => fin 162 7 (b2i_n z2) (by decide) (by decide)))
    refine wcV (r_is q s2 (by omega) (k := 9) (by decide)) (And.intro (fun z3 => eX5_readCompared ?_) (fun z3 => fin 161 8 (b2i_n z3) (by decide) (by decide)))
    have n1 : ¬ tC b n (S t lv).2.1 = 160 := b2i_0.mp z1
    have n2 : ¬ tC b n (S t lv).2.1 = 162 := b2i_0.mp z2
    have n3 : ¬ tC b n (S t lv).2.1 = 161 := b2i_0.mp z3
    rw [if_neg (by unfold isCmp; simp [n1, n2, n3])]
    exact eX5_readCompared (And.intro (fun z => absurd rfl z) (fun _ => And.intro (Or.inl rfl) ⟨rfl, m2, s2, p1, p2, p3, fun w => by cases w⟩))
  · have no := bI_0.mp z
    rw [if_neg (by rw [no]; exact Bool.noConfusion)]
    exact ⟨rfl, m2, s2, p1, p2, p3, fun w => by cases w⟩
theorem nots_lt {C : Nat → Int32} : ∀ f t k, (pNots C f t k).2 = !k → t < (pNots C f t k).1 := by
  intro f
  induction f with
  | zero => intro t k z; rw [pNots] at z; cases k <;> cases z
  | succ f ih =>
    intro t k z
    rw [pNots] at z ⊢
    by_cases c : C t = 6
    · rw [if_pos c] at z ⊢
      have le : ∀ f t k, t ≤ (pNots C f t k).1 := by
        intro f
        induction f with
        | zero => intro t k; exact Nat.le_refl _
        | succ f ih =>
          intro t k
          rw [pNots]
          split
          · exact Nat.le_trans (Nat.le_succ _) (ih _ _)
          · exact Nat.le_refl _
      exact le f (t + 1) (!k)
    · rw [if_neg c] at z; cases k <;> cases z
theorem rk_plain (q : rB h b n N) {D dp : Nat} {nx : Option (Nat → Nat → PR SB)} {S : Nat → Nat → PR SN} (hD : 5 ≤ D) (hS : rkC cx jX5_readSum D h b n N cmpN dp S) (hmo : mono N S) (hlv : lvb S) (hn : nx = none → dp = 8) (hs : ∀ S, nx = some S → dp < 8 ∧ rkC cx jX5_readTest D h b n N cmpB (dp + 1) S ∧ mono N S) : rkC cx jX5_readPlain (D + 2) h b n N cmpB dp (pPlain (tC b n) nx S) := by
  intro d t0 lv m G hd ht0 hl hm s0
  have h400 : N ≤ 400 := Nat.le_trans q.2.2.2.2.1 q.1
  have hC : ∀ k, N ≤ k → tC b n k = 0 := fun k hk => tkn_0 q hk
  have mp := mono_pos hC hmo (fun S z => (hs S z).2.2)
  -- behind the test itself
  have j65 : ∀ t g (k : Bool) l3 (R : PR SB), (k = true → t0 < t) → t0 ≤ t → (R.2.1 ≤ N) → (∀ i, hI g o_reader_steps i = hI G o_reader_steps i) → ∀ v g2, cQ h b n cmpB t lv m g R v g2 → E cx jX5_readPlain d 0 65 [some (.ref o_reader), some (.int (nI dp)), some (.int (bI k)), l3] v.toList g2 (cQ h b n cmpB t0 lv m G (R.1, R.2.1, R.2.2.1, notS k R.2.2.2)) := fun t g k l3 R hk ht hR same v g2 z => by
    obtain ⟨rfl, m2, s2, p1, p2, p3, p4⟩ := z
    cases k with
    | false =>
      refine eX5_readPlain (And.intro (fun _ => eX5_readPlain (And.intro bI_B ⟨rfl, m2, s2, p1, by show m2 + t0 ≤ m + R.2.1; omega, fun i hi => (p3 i hi).trans (same i), fun w => ?_⟩)) (fun z => absurd rfl z))
      obtain ⟨l1, l2⟩ := p4 w
      refine ⟨l1, ?_⟩
      show cmpB _ m m2 (R.2.2.1 - lv) (notS false R.2.2.2)
      rw [notS_f]; exact l2
    | true =>
      have lt := hk rfl
      have s3 := add_S (o := 9) (x := 0) s2
      have old : ∀ i, i < m2 → hI (stepH g2 m2 9 0) o_reader_steps i = hI g2 o_reader_steps i := fun i hi => add_82 (by omega)
      refine eX5_readPlain (And.intro (fun z => absurd z (by decide)) (fun _ => wcV (r_add q s2 (by omega) (by omega)) (eX5_readPlain (And.intro bI_B ⟨rfl, m2 + 1, s3, by omega, by show m2 + 1 + t0 ≤ m + R.2.1; omega, fun i hi => (old i (by omega)).trans ((p3 i hi).trans (same i)), fun w => ?_⟩))))
      obtain ⟨l1, l2⟩ := p4 w
      refine ⟨l1, ?_⟩
      show cmpB _ m (m2 + 1) (R.2.2.1 - lv) (notS true R.2.2.2)
      exact cmpB_not (cmpB_cg l2 (fun i _ hi => old i hi)) (by rw [add_new]; rfl)
  have j40 : ∀ t g (k : Bool) l3, (k = true → t0 < t) → t0 ≤ t → t ≤ N → rdT h b n t lv m g → (∀ i, hI g o_reader_steps i = hI G o_reader_steps i) → E cx jX5_readPlain d 0 40 [some (.ref o_reader), some (.int (nI dp)), some (.int (bI k)), l3] [] g (cQ h b n cmpB t0 lv m G ((pPos (tC b n) nx S t lv).1, (pPos (tC b n) nx S t lv).2.1, (pPos (tC b n) nx S t lv).2.2.1, notS k (pPos (tC b n) nx S t lv).2.2.2)) := fun t g k l3 hk h0 ht s same => by
    have mo := mp t lv ht
    have jj := j65 t g k l3 (pPos (tC b n) nx S t lv) hk h0 mo.2.1 same
    generalize hR : pPos (tC b n) nx S t lv = R at jj mo
    unfold pPos at hR
    by_cases c : tC b n t = 140
    · have tl := tkn_lt q (by rw [c]; decide)
      rw [if_pos c] at hR
      have hM := rk_brkB q (kc := 6) (cl := 141) (by decide) rfl hn hs (by omega) (d - 1) t lv m g (by omega) tl hl (by omega) s
      rw [hR] at hM
      exact eX5_readPlain (wcV (r_isT q s (by omega) (k := 5) (by decide) c) (And.intro (fun z => absurd z (by decide)) (fun _ => wcQ hM (fun v g2 z => by have := jj v g2 z; rw [z.1] at this ⊢; exact this) (cQ_N s))))
    · rw [if_neg c] at hR
      have hM := rk_cmp q hD hmo hlv hS (d - 1) t lv m g (by omega) ht hl (by omega) s
      rw [hR] at hM
      exact eX5_readPlain (wcV (r_isF q s (by omega) (k := 5) (by decide) c) (And.intro (fun _ => eX5_readPlain (wcQ hM (fun v g2 z => by have := jj v g2 z; rw [z.1] at this ⊢; exact this) (cQ_N s))) (fun z => absurd rfl z)))
  have loop : ∀ f t g (k : Bool) i, 400 < f + t → t ≤ N → i ≤ t → t0 ≤ t → (k = true → t0 < t) → rdT h b n t lv m g → (∀ i, hI g o_reader_steps i = hI G o_reader_steps i) → E cx jX5_readPlain d 0 4 [some (.ref o_reader), some (.int (nI dp)), some (.int (bI k)), some (.int (nI i))] [] g (cQ h b n cmpB t0 lv m G ((pPos (tC b n) nx S (pNots (tC b n) f t k).1 lv).1, (pPos (tC b n) nx S (pNots (tC b n) f t k).1 lv).2.1, (pPos (tC b n) nx S (pNots (tC b n) f t k).1 lv).2.2.1, notS (pNots (tC b n) f t k).2 (pPos (tC b n) nx S (pNots (tC b n) f t k).1 lv).2.2.2)) := by
    intro f
    induction f with
    | zero => intro t g k i hf ht; omega
    | succ f ih =>
      intro t g k i hf ht hi h0 hk s same
      rw [pNots]
      by_cases c6 : tC b n t = 6
      · rw [if_pos c6]
        have tl := tkn_lt q (by rw [c6]; decide)
        have i2 := ih (t + 1) (advH b n t g) (!k) (i + 1) (by omega) (by omega) (by omega) (by omega) (fun _ => by omega) (adv_S s) (fun j => adv_82.trans (same j))
        rw [nI_succ] at i2
        have e29 : E cx jX5_readPlain d 0 29 [some (.ref o_reader), some (.int (nI dp)), some (.int (bI k)), some (.int (nI i))] [.int (bI (!k))] g _ := eX5_readPlain (wcV0 (r_adv q s (by omega)) i2)
        refine eX5_readPlain (And.intro (fun z => absurd z (nI_ge (b := 400) (by omega) (by decide))) (fun _ => wcV (r_isT q s (by omega) (k := 4) (by decide) c6) (And.intro (fun z => absurd z (by decide)) (fun _ => And.intro (fun z => eX5_readPlain ?_) (fun z => ?_)))))
        · have : k = true := bI_n.mp z
          subst this; exact e29
        · have : k = false := bI_0.mp z
          subst this; exact e29
      · rw [if_neg c6]
        have fin := j40 t g k (some (.int (nI i))) hk h0 ht s same
        exact eX5_readPlain (And.intro (fun _ => fin) (fun _ => wcV (r_isF q s (by omega) (k := 4) (by decide) c6) (And.intro (fun _ => fin) (fun z => absurd rfl z))))
  exact sX5_readPlain rfl (loop 401 t0 G false 0 (by omega) ht0 (by omega) (Nat.le_refl _) (fun z => by cases z) s0 (fun _ => rfl))
/-! all levels -/
theorem rk_sumP (q : rB h b n N) : ∀ r dp, dp + r = 8 → rkC cx jX5_readSum (4 * r + 8) h b n N cmpN dp (sumP (tC b n) (tV b n) r) := by
  have hC : ∀ k, N ≤ k → tC b n k = 0 := fun k hk => tkn_0 q hk
  intro r
  induction r with
  | zero =>
    intro dp hdp
    have hp : rkC cx jX5_readPart 6 h b n N cmpN dp (prtP (tC b n) (tV b n) 0) := rk_part (D := 4) q (fun _ => by omega) (fun S z => by cases z) (by omega)
    have ht : rkC cx jX5_readTerm 7 h b n N cmpN dp (trmP (tC b n) (tV b n) 0) := rk_readTerm q (by omega) (mono_prt hC 0) (lvb_prt 0) hp
    rw [sumP_eq]
    exact rk_readSum q (by omega) (mono_trm hC 0) (lvb_chain (lvb_prt 0)) ht
  | succ r ih =>
    intro dp hdp
    have hp : rkC cx jX5_readPart (4 * r + 8 + 2) h b n N cmpN dp (prtP (tC b n) (tV b n) (r + 1)) := rk_part q (fun z => by cases z) (fun S z => by cases z; exact ⟨by omega, ih (dp + 1) (by omega), mono_sum hC r⟩) (by omega)
    have ht : rkC cx jX5_readTerm (4 * r + 8 + 3) h b n N cmpN dp (trmP (tC b n) (tV b n) (r + 1)) := rk_readTerm q (by omega) (mono_prt hC (r + 1)) (lvb_prt (r + 1)) hp
    rw [sumP_eq]
    exact rk_readSum q (by omega) (mono_trm hC (r + 1)) (lvb_chain (lvb_prt (r + 1))) ht
theorem rk_testP (q : rB h b n N) : ∀ r dp, dp + r = 8 → rkC cx jX5_readTest (4 * r + 12) h b n N cmpB dp (testP (tC b n) (tV b n) r) := by
  have hC : ∀ k, N ≤ k → tC b n k = 0 := fun k hk => tkn_0 q hk
  intro r
  induction r with
  | zero =>
    intro dp hdp
    have hp : rkC cx jX5_readPlain 10 h b n N cmpB dp (plnP (tC b n) (tV b n) 0) := rk_plain (D := 8) q (by omega) (rk_sumP q 0 dp hdp) (mono_sum hC 0) (lvb_sum 0) (fun _ => by omega) (fun S z => by cases z)
    have hb : rkC cx jX5_readBoth 11 h b n N cmpB dp (bthP (tC b n) (tV b n) 0) := rk_readBoth q (by omega) (mono_pln hC 0) (lvb_plain (lvb_sum 0) (fun S z => by cases z)) hp
    rw [testP_eq]
    exact rk_readTest q (by omega) (mono_bth hC 0) (lvb_chain (lvb_plain (lvb_sum 0) (fun S z => by cases z))) hb
  | succ r ih =>
    intro dp hdp
    have lb : lvb (plnP (tC b n) (tV b n) (r + 1)) := lvb_plain (lvb_sum (r + 1)) (fun S z => by cases z; exact lvb_test r)
    have hp : rkC cx jX5_readPlain (4 * (r + 1) + 10) h b n N cmpB dp (plnP (tC b n) (tV b n) (r + 1)) := rk_plain (D := 4 * (r + 1) + 8) q (by omega) (rk_sumP q (r + 1) dp hdp) (mono_sum hC (r + 1)) (lvb_sum (r + 1)) (fun z => by cases z) (fun S z => by cases z; exact ⟨by omega, ih (dp + 1) (by omega), mono_test hC r⟩)
    have hb : rkC cx jX5_readBoth (4 * (r + 1) + 11) h b n N cmpB dp (bthP (tC b n) (tV b n) (r + 1)) := rk_readBoth q (by omega) (mono_pln hC (r + 1)) lb hp
    rw [testP_eq]
    exact rk_readTest q (by omega) (mono_bth hC (r + 1)) (lvb_chain lb) hb
end T99996
