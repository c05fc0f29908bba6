/-! the class's reader: sums and tests -/
section T99995
variable {cx : Cx} {d a : Nat} {h G : Hp} {b : Nat → Int32} {n N t lv m : Nat}
theorem rk_readTerm (q : rB h b n N) {D dp : Nat} {P : Nat → Nat → PR SN} (hD : 5 ≤ D) (hmo : mono N P) (hlv : lvb P) (hP : rkC cx jX5_readPart D h b n N cmpN dp P) : rkC cx jX5_readTerm (D + 1) h b n N cmpN dp (pChain opTerm opN P (tC b n)) := by
  intro d t0 lv0 m G hd ht0 hl0 hm s0
  have h400 : N ≤ 400 := Nat.le_trans q.2.2.2.2.1 q.1
  have j77 : ∀ (R : PR SN) (l3 l4 : Option Value) g, cQ h b n cmpN t0 lv0 m G R (some (.int (bI R.1))) g → E cx jX5_readTerm d 0 77 [some (.ref o_reader), some (.int (nI dp)), some (.int (bI R.1)), l3, l4] [] g (cQ h b n cmpN t0 lv0 m G R) := fun R l3 l4 g k => eX5_readTerm (And.intro bI_B k)
  have stop : ∀ (R : PR SN) (i : Int32) (l4 : Option Value) g, R.1 = false → cQ h b n cmpN t0 lv0 m G R (some (.int (bI R.1))) g → E cx jX5_readTerm d 0 8 [some (.ref o_reader), some (.int (nI dp)), some (.int (bI R.1)), some (.int i), l4] [] g (cQ h b n cmpN t0 lv0 m G R) := fun R i l4 g z k => eX5_readTerm (And.intro (fun _ => j77 R _ _ g k) (fun _ => And.intro (fun _ => j77 R _ _ g k) (fun y => absurd (bI_0.mpr z) y)))
  have loop : ∀ f t lv m' g (s : SN) i l4, 400 < f + t → t ≤ N → lv ≤ 50 → i ≤ t → rdT h b n t lv m' g → m ≤ m' → m' + t0 ≤ m + t → (∀ i, i < m → hI g o_reader_steps i = hI G o_reader_steps i) → lv0 < lv → cmpN (hI g o_reader_steps) m m' (lv - lv0) s → E cx jX5_readTerm d 0 8 [some (.ref o_reader), some (.int (nI dp)), some (.int 1), some (.int (nI i)), l4] [] g (cQ h b n cmpN t0 lv0 m G (pLoop opTerm opN P (tC b n) f t lv s)) := by
    intro f
    induction f with
    | zero => intro t lv m' g s i l4 hf ht; omega
    | succ f ih =>
      intro t lv m' g s i l4 hf ht hl hi st k1 k2 k3 l0 cs
      have op : ∀ (c : Int32) (kk : Nat), tC b n t = c → opTerm c = true → ((kk = 2 ∧ c = 143) ∨ (kk = 3 ∧ c = 145) ∨ (kk = 4 ∧ c = 142) ∨ (kk = 5 ∧ c = 147)) → ∀ l4, E cx jX5_readTerm d 0 51 [some (.ref o_reader), some (.int (nI dp)), some (.int 1), some (.int (nI i)), l4] [.int (nI kk)] g (cQ h b n cmpN t0 lv0 m G (pLoop opTerm opN P (tC b n) (f + 1) t lv s)) := fun c kk ec oc hk l4 => by
        have tl : t < N := tkn_lt q (by rw [ec]; rintro rfl; exact absurd oc (by decide))
        have s1 := adv_S st
        have mo := hmo (t + 1) lv (by omega)
        have hM := hP (d - 1) (t + 1) lv m' _ (by omega) (by omega) hl (by omega) s1
        have lb := hlv (t + 1) lv hl
        rw [pLoop, if_pos (by rw [ec]; exact oc)]
        refine eX5_readTerm (wcV0 (r_adv q st (by omega)) (wcQ hM (fun v g2 z => ?_) (cQ_N s1)))
        obtain ⟨rfl, m2, s2, p1, p2, p3, p4⟩ := z
        have s3 := add_S (o := nI kk) (x := 0) s2
        have old : ∀ i, i < m2 → hI (stepH g2 m2 (nI kk) 0) o_reader_steps i = hI g2 o_reader_steps i := fun i hi => add_82 (by omega)
        have old2 : ∀ i, i < m' → hI (stepH g2 m2 (nI kk) 0) o_reader_steps i = hI g o_reader_steps i := fun i hi => (old i (by omega)).trans ((p3 i hi).trans adv_82)
        refine wcV (r_add q s2 (by omega) (by omega)) ?_
        by_cases ok : (P (t + 1) lv).1 = true
        · rw [if_pos ok]
          obtain ⟨l1, l2⟩ := p4 ok
          have i2 := ih (P (t + 1) lv).2.1 (P (t + 1) lv).2.2.1 (m2 + 1) (stepH g2 m2 (nI kk) 0) (opN (tC b n t) s (P (t + 1) lv).2.2.2) (i + 1) (some (.int (nI kk))) (by omega) mo.2.1 lb (by omega) s3 (by omega) (by omega) (fun i hi => (old2 i (by omega)).trans (k3 i hi)) (by omega) ?_
          · rw [nI_succ] at i2
            rw [ok]
            exact i2
          · rw [show (P (t + 1) lv).2.2.1 - lv0 = (lv - lv0) + ((P (t + 1) lv).2.2.1 - lv) by omega, ec]
            exact cmpN_op hk (cmpN_cg cs (fun i _ hi => old2 i hi)) (cmpN_cg l2 (fun i _ hi => old i hi)) (by rw [add_new]; rfl)
        · rw [if_neg ok]
          exact stop _ _ _ _ (ts_nt ok) ⟨rfl, m2 + 1, s3, by omega, by omega, fun i hi => (old2 i (by omega)).trans (k3 i hi), fun w => absurd w ok⟩
      have e37 : ∀ l4, (tC b n t = 142 ∨ tC b n t = 147) → E cx jX5_readTerm d 0 37 [some (.ref o_reader), some (.int (nI dp)), some (.int 1), some (.int (nI i)), l4] [] g (cQ h b n cmpN t0 lv0 m G (pLoop opTerm opN P (tC b n) (f + 1) t lv s)) := fun l4 y => by
        by_cases z1 : tC b n t = 142
        · exact eX5_readTerm (wcV (r_isT q st (by omega) (k := 20) (by decide) z1) (And.intro (fun z => absurd z (by decide)) (fun _ => op 142 4 z1 (by decide) (by decide) l4)))
        · have z2 := y.resolve_left z1
          exact eX5_readTerm (wcV (r_isF q st (by omega) (k := 20) (by decide) z1) (And.intro (fun _ => eX5_readTerm (op 147 5 z2 (by decide) (by decide) l4)) (fun z => absurd rfl z)))
      have out : ∀ l4, ¬ tC b n t = 142 → ¬ tC b n t = 147 → E cx jX5_readTerm d 0 77 [some (.ref o_reader), some (.int (nI dp)), some (.int 1), some (.int (nI i)), l4] [] g (cQ h b n cmpN t0 lv0 m G (pLoop opTerm opN P (tC b n) (f + 1) t lv s)) := fun l4 y1 y2 => by
        have oc : ¬ opTerm (tC b n t) = true := by unfold opTerm; simp [y1, y2]
        rw [pLoop, if_neg oc]
        exact j77 (true, t, lv, s) _ _ g ⟨rfl, m', st, k1, k2, k3, fun _ => ⟨l0, cs⟩⟩
      by_cases z1 : tC b n t = 142
      · have tl : t < N := tkn_lt q (by rw [z1]; decide)
        exact eX5_readTerm (And.intro (fun z => absurd z (nI_ge (b := 400) (by omega) (by decide))) (fun _ => And.intro (fun z => absurd z (by decide)) (fun _ => wcV (r_isT q st (by omega) (k := 20) (by decide) z1) (And.intro (fun _ => e37 l4 (Or.inl z1)) (fun z => absurd z (by decide))))))
      · by_cases z2 : tC b n t = 147
        · have tl : t < N := tkn_lt q (by rw [z2]; decide)
          exact eX5_readTerm (And.intro (fun z => absurd z (nI_ge (b := 400) (by omega) (by decide))) (fun _ => And.intro (fun z => absurd z (by decide)) (fun _ => wcV (r_isF q st (by omega) (k := 20) (by decide) z1) (And.intro (fun z => absurd rfl z) (fun _ => wcV (r_isT q st (by omega) (k := 21) (by decide) z2) (And.intro (fun z => absurd z (by decide)) (fun _ => e37 l4 (Or.inr z2))))))))
        · exact eX5_readTerm (And.intro (fun _ => out l4 z1 z2) (fun _ => And.intro (fun z => absurd z (by decide)) (fun _ => wcV (r_isF q st (by omega) (k := 20) (by decide) z1) (And.intro (fun z => absurd rfl z) (fun _ => wcV (r_isF q st (by omega) (k := 21) (by decide) z2) (And.intro (fun _ => out l4 z1 z2) (fun z => absurd rfl z)))))))
  have hM := hP (d - 1) t0 lv0 m G (by omega) ht0 hl0 hm s0
  have mo := hmo t0 lv0 ht0
  refine sX5_readTerm rfl (wcQ hM (fun v g z => ?_) (cQ_N s0))
  obtain ⟨rfl, m2, s2, p1, p2, p3, p4⟩ := z
  unfold pChain
  by_cases ok : (P t0 lv0).1 = true
  · rw [if_pos ok, ok]
    obtain ⟨l1, l2⟩ := p4 ok
    exact loop 401 _ _ m2 g _ 0 none (by omega) mo.2.1 (hlv t0 lv0 hl0) (by omega) s2 p1 p2 p3 l1 l2
  · rw [if_neg ok]
    exact stop _ _ _ _ (ts_nt ok) ⟨rfl, m2, s2, p1, p2, p3, p4⟩

theorem rk_readSum (q : rB h b n N) {D dp : Nat} {P : Nat → Nat → PR SN} (hD : 5 ≤ D) (hmo : mono N P) (hlv : lvb P) (hP : rkC cx jX5_readTerm D h b n N cmpN dp P) : rkC cx jX5_readSum (D + 1) h b n N cmpN dp (pChain opSum opN P (tC b n)) := by
  intro d t0 lv0 m G hd ht0 hl0 hm s0
  have h400 : N ≤ 400 := Nat.le_trans q.2.2.2.2.1 q.1
  have j77 : ∀ (R : PR SN) (l3 l4 : Option Value) g, cQ h b n cmpN t0 lv0 m G R (some (.int (bI R.1))) g → E cx jX5_readSum d 0 77 [some (.ref o_reader), some (.int (nI dp)), some (.int (bI R.1)), l3, l4] [] g (cQ h b n cmpN t0 lv0 m G R) := fun R l3 l4 g k => eX5_readSum (And.intro bI_B k)
  have stop : ∀ (R : PR SN) (i : Int32) (l4 : Option Value) g, R.1 = false → cQ h b n cmpN t0 lv0 m G R (some (.int (bI R.1))) g → E cx jX5_readSum d 0 8 [some (.ref o_reader), some (.int (nI dp)), some (.int (bI R.1)), some (.int i), l4] [] g (cQ h b n cmpN t0 lv0 m G R) := fun R i l4 g z k => eX5_readSum (And.intro (fun _ => j77 R _ _ g k) (fun _ => And.intro (fun _ => j77 R _ _ g k) (fun y => absurd (bI_0.mpr z) y)))
  have loop : ∀ f t lv m' g (s : SN) i l4, 400 < f + t → t ≤ N → lv ≤ 50 → i ≤ t → rdT h b n t lv m' g → m ≤ m' → m' + t0 ≤ m + t → (∀ i, i < m → hI g o_reader_steps i = hI G o_reader_steps i) → lv0 < lv → cmpN (hI g o_reader_steps) m m' (lv - lv0) s → E cx jX5_readSum d 0 8 [some (.ref o_reader), some (.int (nI dp)), some (.int 1), some (.int (nI i)), l4] [] g (cQ h b n cmpN t0 lv0 m G (pLoop opSum opN P (tC b n) f t lv s)) := by
    intro f
    induction f with
    | zero => intro t lv m' g s i l4 hf ht; omega
    | succ f ih =>
      intro t lv m' g s i l4 hf ht hl hi st k1 k2 k3 l0 cs
      have op : ∀ (c : Int32) (kk : Nat), tC b n t = c → opSum c = true → ((kk = 2 ∧ c = 143) ∨ (kk = 3 ∧ c = 145) ∨ (kk = 4 ∧ c = 142) ∨ (kk = 5 ∧ c = 147)) → ∀ l4, E cx jX5_readSum d 0 51 [some (.ref o_reader), some (.int (nI dp)), some (.int 1), some (.int (nI i)), l4] [.int (nI kk)] g (cQ h b n cmpN t0 lv0 m G (pLoop opSum opN P (tC b n) (f + 1) t lv s)) := fun c kk ec oc hk l4 => by
        have tl : t < N := tkn_lt q (by rw [ec]; rintro rfl; exact absurd oc (by decide))
        have s1 := adv_S st
        have mo := hmo (t + 1) lv (by omega)
        have hM := hP (d - 1) (t + 1) lv m' _ (by omega) (by omega) hl (by omega) s1
        have lb := hlv (t + 1) lv hl
        rw [pLoop, if_pos (by rw [ec]; exact oc)]
        refine eX5_readSum (wcV0 (r_adv q st (by omega)) (wcQ hM (fun v g2 z => ?_) (cQ_N s1)))
        obtain ⟨rfl, m2, s2, p1, p2, p3, p4⟩ := z
        have s3 := add_S (o := nI kk) (x := 0) s2
        have old : ∀ i, i < m2 → hI (stepH g2 m2 (nI kk) 0) o_reader_steps i = hI g2 o_reader_steps i := fun i hi => add_82 (by omega)
        have old2 : ∀ i, i < m' → hI (stepH g2 m2 (nI kk) 0) o_reader_steps i = hI g o_reader_steps i := fun i hi => (old i (by omega)).trans ((p3 i hi).trans adv_82)
        refine wcV (r_add q s2 (by omega) (by omega)) ?_
        by_cases ok : (P (t + 1) lv).1 = true
        · rw [if_pos ok]
          obtain ⟨l1, l2⟩ := p4 ok
          have i2 := ih (P (t + 1) lv).2.1 (P (t + 1) lv).2.2.1 (m2 + 1) (stepH g2 m2 (nI kk) 0) (opN (tC b n t) s (P (t + 1) lv).2.2.2) (i + 1) (some (.int (nI kk))) (by omega) mo.2.1 lb (by omega) s3 (by omega) (by omega) (fun i hi => (old2 i (by omega)).trans (k3 i hi)) (by omega) ?_
          · rw [nI_succ] at i2
            rw [ok]
            exact i2
          · rw [show (P (t + 1) lv).2.2.1 - lv0 = (lv - lv0) + ((P (t + 1) lv).2.2.1 - lv) by omega, ec]
            exact cmpN_op hk (cmpN_cg cs (fun i _ hi => old2 i hi)) (cmpN_cg l2 (fun i _ hi => old i hi)) (by rw [add_new]; rfl)
        · rw [if_neg ok]
          exact stop _ _ _ _ (ts_nt ok) ⟨rfl, m2 + 1, s3, by omega, by omega, fun i hi => (old2 i (by omega)).trans (k3 i hi), fun w => absurd w ok⟩
      have e37 : ∀ l4, (tC b n t = 143 ∨ tC b n t = 145) → E cx jX5_readSum d 0 37 [some (.ref o_reader), some (.int (nI dp)), some (.int 1), some (.int (nI i)), l4] [] g (cQ h b n cmpN t0 lv0 m G (pLoop opSum opN P (tC b n) (f + 1) t lv s)) := fun l4 y => by
        by_cases z1 : tC b n t = 143
        · exact eX5_readSum (wcV (r_isT q st (by omega) (k := 22) (by decide) z1) (And.intro (fun z => absurd z (by decide)) (fun _ => op 143 2 z1 (by decide) (by decide) l4)))
        · have z2 := y.resolve_left z1
          exact eX5_readSum (wcV (r_isF q st (by omega) (k := 22) (by decide) z1) (And.intro (fun _ => eX5_readSum (op 145 3 z2 (by decide) (by decide) l4)) (fun z => absurd rfl z)))
      have out : ∀ l4, ¬ tC b n t = 143 → ¬ tC b n t = 145 → E cx jX5_readSum d 0 77 [some (.ref o_reader), some (.int (nI dp)), some (.int 1), some (.int (nI i)), l4] [] g (cQ h b n cmpN t0 lv0 m G (pLoop opSum opN P (tC b n) (f + 1) t lv s)) := fun l4 y1 y2 => by
        have oc : ¬ opSum (tC b n t) = true := by unfold opSum; simp [y1, y2]
        rw [pLoop, if_neg oc]
        exact j77 (true, t, lv, s) _ _ g ⟨rfl, m', st, k1, k2, k3, fun _ => ⟨l0, cs⟩⟩
      by_cases z1 : tC b n t = 143
      · have tl : t < N := tkn_lt q (by rw [z1]; decide)
        exact eX5_readSum (And.intro (fun z => absurd z (nI_ge (b := 400) (by omega) (by decide))) (fun _ => And.intro (fun z => absurd z (by decide)) (fun _ => wcV (r_isT q st (by omega) (k := 22) (by decide) z1) (And.intro (fun _ => e37 l4 (Or.inl z1)) (fun z => absurd z (by decide))))))
      · by_cases z2 : tC b n t = 145
        · have tl : t < N := tkn_lt q (by rw [z2]; decide)
          exact eX5_readSum (And.intro (fun z => absurd z (nI_ge (b := 400) (by omega) (by decide))) (fun _ => And.intro (fun z => absurd z (by decide)) (fun _ => wcV (r_isF q st (by omega) (k := 22) (by decide) z1) (And.intro (fun z => absurd rfl z) (fun _ => wcV (r_isT q st (by omega) (k := 23) (by decide) z2) (And.intro (fun z => absurd z (by decide)) (fun _ => e37 l4 (Or.inr z2))))))))
        · exact eX5_readSum (And.intro (fun _ => out l4 z1 z2) (fun _ => And.intro (fun z => absurd z (by decide)) (fun _ => wcV (r_isF q st (by omega) (k := 22) (by decide) z1) (And.intro (fun z => absurd rfl z) (fun _ => wcV (r_isF q st (by omega) (k := 23) (by decide) z2) (And.intro (fun _ => out l4 z1 z2) (fun z => absurd rfl z)))))))
  have hM := hP (d - 1) t0 lv0 m G (by omega) ht0 hl0 hm s0
  have mo := hmo t0 lv0 ht0
  refine sX5_readSum rfl (wcQ hM (fun v g z => ?_) (cQ_N s0))
  obtain ⟨rfl, m2, s2, p1, p2, p3, p4⟩ := z
  unfold pChain
  by_cases ok : (P t0 lv0).1 = true
  · rw [if_pos ok, ok]
    obtain ⟨l1, l2⟩ := p4 ok
    exact loop 401 _ _ m2 g _ 0 none (by omega) mo.2.1 (hlv t0 lv0 hl0) (by omega) s2 p1 p2 p3 l1 l2
  · rw [if_neg ok]
    exact stop _ _ _ _ (ts_nt ok) ⟨rfl, m2, s2, p1, p2, p3, p4⟩

theorem rk_readBoth (q : rB h b n N) {D dp : Nat} {P : Nat → Nat → PR SB} (hD : 5 ≤ D) (hmo : mono N P) (hlv : lvb P) (hP : rkC cx jX5_readPlain D h b n N cmpB dp P) : rkC cx jX5_readBoth (D + 1) h b n N cmpB dp (pChain opAnd opB P (tC b n)) := by
  intro d t0 lv0 m G hd ht0 hl0 hm s0
  have h400 : N ≤ 400 := Nat.le_trans q.2.2.2.2.1 q.1
  have j59 : ∀ (R : PR SB) (l3 l4 : Option Value) g, cQ h b n cmpB t0 lv0 m G R (some (.int (bI R.1))) g → E cx jX5_readBoth d 0 59 [some (.ref o_reader), some (.int (nI dp)), some (.int (bI R.1)), l3, l4] [] g (cQ h b n cmpB t0 lv0 m G R) := fun R l3 l4 g k => eX5_readBoth (And.intro bI_B k)
  have stop : ∀ (R : PR SB) (i : Int32) (l4 : Option Value) g, R.1 = false → cQ h b n cmpB t0 lv0 m G R (some (.int (bI R.1))) g → E cx jX5_readBoth d 0 8 [some (.ref o_reader), some (.int (nI dp)), some (.int (bI R.1)), some (.int i), l4] [] g (cQ h b n cmpB t0 lv0 m G R) := fun R i l4 g z k => eX5_readBoth (And.intro (fun _ => j59 R _ _ g k) (fun _ => And.intro (fun _ => j59 R _ _ g k) (fun y => absurd (bI_0.mpr z) y)))
  have loop : ∀ f t lv m' g (s : SB) i l4, 400 < f + t → t ≤ N → lv ≤ 50 → i ≤ t → rdT h b n t lv m' g → m ≤ m' → m' + t0 ≤ m + t → (∀ i, i < m → hI g o_reader_steps i = hI G o_reader_steps i) → lv0 < lv → cmpB (hI g o_reader_steps) m m' (lv - lv0) s → E cx jX5_readBoth d 0 8 [some (.ref o_reader), some (.int (nI dp)), some (.int 1), some (.int (nI i)), l4] [] g (cQ h b n cmpB t0 lv0 m G (pLoop opAnd opB P (tC b n) f t lv s)) := by
    intro f
    induction f with
    | zero => intro t lv m' g s i l4 hf ht; omega
    | succ f ih =>
      intro t lv m' g s i l4 hf ht hl hi st k1 k2 k3 l0 cs
      by_cases z1 : tC b n t = 5
      · have tl : t < N := tkn_lt q (by rw [z1]; decide)
        have sa := add_S (o := nI 10) (x := 0) st
        have s1 := adv_S sa
        have mo := hmo (t + 1) lv (by omega)
        have hM := hP (d - 1) (t + 1) lv (m' + 1) _ (by omega) (by omega) hl (by omega) s1
        have lb := hlv (t + 1) lv hl
        rw [pLoop, if_pos (by rw [z1]; decide)]
        refine eX5_readBoth (And.intro (fun z => absurd z (nI_ge (b := 400) (by omega) (by decide))) (fun _ => And.intro (fun z => absurd z (by decide)) (fun _ => wcV (r_isT q st (by omega) (k := 10) (by decide) z1) (And.intro (fun z => absurd z (by decide)) (fun _ => wcV (r_add (o := nI 10) (x := 0) q st (by omega) (by omega)) (wcV0 (r_adv q sa (by omega)) (wcQ hM (fun v g2 z => ?_) (cQ_N s1))))))))
        obtain ⟨rfl, m2, s2, p1, p2, p3, p4⟩ := z
        have s3 := aim_S (k := m') s2
        have old : ∀ i, i ≠ m' → hI (aimH g2 m' m2) o_reader_steps i = hI g2 o_reader_steps i := fun i hi => aim_82 hi
        have old2 : ∀ i, i < m' → hI (aimH g2 m' m2) o_reader_steps i = hI g o_reader_steps i := fun i hi => (old i (by omega)).trans ((p3 i (by omega)).trans (adv_82.trans (add_82 (by omega))))
        have new : hI (aimH g2 m' m2) o_reader_steps m' = stW (nI 10) (nI m2) := aim_new ((p3 m' (by omega)).trans (adv_82.trans add_new))
        refine wcV0 (m_aimHere s2.2.2.2.1 (by omega) (by omega)) ?_
        by_cases ok : (P (t + 1) lv).1 = true
        · rw [if_pos ok]
          obtain ⟨l1, l2⟩ := p4 ok
          have i2 := ih (P (t + 1) lv).2.1 (P (t + 1) lv).2.2.1 m2 (aimH g2 m' m2) (opB (tC b n t) s (P (t + 1) lv).2.2.2) (i + 1) (some (.int (nI m'))) (by omega) mo.2.1 lb (by omega) s3 (by omega) (by omega) (fun i hi => (old2 i (by omega)).trans (k3 i hi)) (by omega) ?_
          · rw [nI_succ] at i2
            rw [ok]
            exact i2
          · rw [show (P (t + 1) lv).2.2.1 - lv0 = (lv - lv0) + ((P (t + 1) lv).2.2.1 - lv) by omega, z1]
            exact cmpB_jmp (q := 10) (by decide) (by omega) (cmpB_cg cs (fun i _ hi => old2 i hi)) new (cmpB_cg l2 (fun i hi _ => old i (by omega)))
        · rw [if_neg ok]
          exact stop _ _ _ _ (ts_nt ok) ⟨rfl, m2, s3, by omega, by omega, fun i hi => (old2 i (by omega)).trans (k3 i hi), fun w => absurd w ok⟩
      · have oc : ¬ opAnd (tC b n t) = true := by unfold opAnd; simp [z1]
        have out : E cx jX5_readBoth d 0 59 [some (.ref o_reader), some (.int (nI dp)), some (.int 1), some (.int (nI i)), l4] [] g (cQ h b n cmpB t0 lv0 m G (pLoop opAnd opB P (tC b n) (f + 1) t lv s)) := by
          rw [pLoop, if_neg oc]
          exact j59 (true, t, lv, s) _ _ g ⟨rfl, m', st, k1, k2, k3, fun _ => ⟨l0, cs⟩⟩
        exact eX5_readBoth (And.intro (fun _ => out) (fun _ => And.intro (fun z => absurd z (by decide)) (fun _ => wcV (r_isF q st (by omega) (k := 10) (by decide) z1) (And.intro (fun _ => out) (fun z => absurd rfl z)))))
  have hM := hP (d - 1) t0 lv0 m G (by omega) ht0 hl0 hm s0
  have mo := hmo t0 lv0 ht0
  refine sX5_readBoth rfl (wcQ hM (fun v g z => ?_) (cQ_N s0))
  obtain ⟨rfl, m2, s2, p1, p2, p3, p4⟩ := z
  unfold pChain
  by_cases ok : (P t0 lv0).1 = true
  · rw [if_pos ok, ok]
    obtain ⟨l1, l2⟩ := p4 ok
    exact loop 401 _ _ m2 g _ 0 none (by omega) mo.2.1 (hlv t0 lv0 hl0) (by omega) s2 p1 p2 p3 l1 l2
  · rw [if_neg ok]
    exact stop _ _ _ _ (ts_nt ok) ⟨rfl, m2, s2, p1, p2, p3, p4⟩

theorem rk_readTest (q : rB h b n N) {D dp : Nat} {P : Nat → Nat → PR SB} (hD : 5 ≤ D) (hmo : mono N P) (hlv : lvb P) (hP : rkC cx jX5_readBoth D h b n N cmpB dp P) : rkC cx jX5_readTest (D + 1) h b n N cmpB dp (pChain opOr opB P (tC b n)) := by
  intro d t0 lv0 m G hd ht0 hl0 hm s0
  have h400 : N ≤ 400 := Nat.le_trans q.2.2.2.2.1 q.1
  have j59 : ∀ (R : PR SB) (l3 l4 : Option Value) g, cQ h b n cmpB t0 lv0 m G R (some (.int (bI R.1))) g → E cx jX5_readTest d 0 59 [some (.ref o_reader), some (.int (nI dp)), some (.int (bI R.1)), l3, l4] [] g (cQ h b n cmpB t0 lv0 m G R) := fun R l3 l4 g k => eX5_readTest (And.intro bI_B k)
  have stop : ∀ (R : PR SB) (i : Int32) (l4 : Option Value) g, R.1 = false → cQ h b n cmpB t0 lv0 m G R (some (.int (bI R.1))) g → E cx jX5_readTest d 0 8 [some (.ref o_reader), some (.int (nI dp)), some (.int (bI R.1)), some (.int i), l4] [] g (cQ h b n cmpB t0 lv0 m G R) := fun R i l4 g z k => eX5_readTest (And.intro (fun _ => j59 R _ _ g k) (fun _ => And.intro (fun _ => j59 R _ _ g k) (fun y => absurd (bI_0.mpr z) y)))
  have loop : ∀ f t lv m' g (s : SB) i l4, 400 < f + t → t ≤ N → lv ≤ 50 → i ≤ t → rdT h b n t lv m' g → m ≤ m' → m' + t0 ≤ m + t → (∀ i, i < m → hI g o_reader_steps i = hI G o_reader_steps i) → lv0 < lv → cmpB (hI g o_reader_steps) m m' (lv - lv0) s → E cx jX5_readTest d 0 8 [some (.ref o_reader), some (.int (nI dp)), some (.int 1), some (.int (nI i)), l4] [] g (cQ h b n cmpB t0 lv0 m G (pLoop opOr opB P (tC b n) f t lv s)) := by
    intro f
    induction f with
    | zero => intro t lv m' g s i l4 hf ht; omega
    | succ f ih =>
      intro t lv m' g s i l4 hf ht hl hi st k1 k2 k3 l0 cs
      by_cases z1 : tC b n t = 4
      · have tl : t < N := tkn_lt q (by rw [z1]; decide)
        have sa := add_S (o := nI 11) (x := 0) st
        have s1 := adv_S sa
        have mo := hmo (t + 1) lv (by omega)
        have hM := hP (d - 1) (t + 1) lv (m' + 1) _ (by omega) (by omega) hl (by omega) s1
        have lb := hlv (t + 1) lv hl
        rw [pLoop, if_pos (by rw [z1]; decide)]
        refine eX5_readTest (And.intro (fun z => absurd z (nI_ge (b := 400) (by omega) (by decide))) (fun _ => And.intro (fun z => absurd z (by decide)) (fun _ => wcV (r_isT q st (by omega) (k := 11) (by decide) z1) (And.intro (fun z => absurd z (by decide)) (fun _ => wcV (r_add (o := nI 11) (x := 0) q st (by omega) (by omega)) (wcV0 (r_adv q sa (by omega)) (wcQ hM (fun v g2 z => ?_) (cQ_N s1))))))))
        obtain ⟨rfl, m2, s2, p1, p2, p3, p4⟩ := z
        have s3 := aim_S (k := m') s2
        have old : ∀ i, i ≠ m' → hI (aimH g2 m' m2) o_reader_steps i = hI g2 o_reader_steps i := fun i hi => aim_82 hi
        have old2 : ∀ i, i < m' → hI (aimH g2 m' m2) o_reader_steps i = hI g o_reader_steps i := fun i hi => (old i (by omega)).trans ((p3 i (by omega)).trans (adv_82.trans (add_82 (by omega))))
        have new : hI (aimH g2 m' m2) o_reader_steps m' = stW (nI 11) (nI m2) := aim_new ((p3 m' (by omega)).trans (adv_82.trans add_new))
        refine wcV0 (m_aimHere s2.2.2.2.1 (by omega) (by omega)) ?_
        by_cases ok : (P (t + 1) lv).1 = true
        · rw [if_pos ok]
          obtain ⟨l1, l2⟩ := p4 ok
          have i2 := ih (P (t + 1) lv).2.1 (P (t + 1) lv).2.2.1 m2 (aimH g2 m' m2) (opB (tC b n t) s (P (t + 1) lv).2.2.2) (i + 1) (some (.int (nI m'))) (by omega) mo.2.1 lb (by omega) s3 (by omega) (by omega) (fun i hi => (old2 i (by omega)).trans (k3 i hi)) (by omega) ?_
          · rw [nI_succ] at i2
            rw [ok]
            exact i2
          · rw [show (P (t + 1) lv).2.2.1 - lv0 = (lv - lv0) + ((P (t + 1) lv).2.2.1 - lv) by omega, z1]
            exact cmpB_jmp (q := 11) (by decide) (by omega) (cmpB_cg cs (fun i _ hi => old2 i hi)) new (cmpB_cg l2 (fun i hi _ => old i (by omega)))
        · rw [if_neg ok]
          exact stop _ _ _ _ (ts_nt ok) ⟨rfl, m2, s3, by omega, by omega, fun i hi => (old2 i (by omega)).trans (k3 i hi), fun w => absurd w ok⟩
      · have oc : ¬ opOr (tC b n t) = true := by unfold opOr; simp [z1]
        have out : E cx jX5_readTest d 0 59 [some (.ref o_reader), some (.int (nI dp)), some (.int 1), some (.int (nI i)), l4] [] g (cQ h b n cmpB t0 lv0 m G (pLoop opOr opB P (tC b n) (f + 1) t lv s)) := by
          rw [pLoop, if_neg oc]
          exact j59 (true, t, lv, s) _ _ g ⟨rfl, m', st, k1, k2, k3, fun _ => ⟨l0, cs⟩⟩
        exact eX5_readTest (And.intro (fun _ => out) (fun _ => And.intro (fun z => absurd z (by decide)) (fun _ => wcV (r_isF q st (by omega) (k := 11) (by decide) z1) (And.intro (fun _ => out) (fun z => absurd rfl z)))))
  have hM := hP (d - 1) t0 lv0 m G (by omega) ht0 hl0 hm s0
  have mo := hmo t0 lv0 ht0
  refine sX5_readTest rfl (wcQ hM (fun v g z => ?_) (cQ_N s0))
  obtain ⟨rfl, m2, s2, p1, p2, p3, p4⟩ := z
  unfold pChain
  by_cases ok : (P t0 lv0).1 = true
  · rw [if_pos ok, ok]
    obtain ⟨l1, l2⟩ := p4 ok
    exact loop 401 _ _ m2 g _ 0 none (by omega) mo.2.1 (hlv t0 lv0 hl0) (by omega) s2 p1 p2 p3 l1 l2
  · rw [if_neg ok]
    exact stop _ _ _ _ (ts_nt ok) ⟨rfl, m2, s2, p1, p2, p3, p4⟩
end T99995
