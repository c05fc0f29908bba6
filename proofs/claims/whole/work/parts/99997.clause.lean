/-! the class's reader: clauses -/
def clG (T : Nat → Int32) (m m1 m2 : Nat) (c : CS) : Prop := (c.1 = true → m1 = m) ∧ (c.1 = false → ∃ k, k ≤ 50 ∧ cmpN T m m1 k c.2.1) ∧ ((m2 = m1 ∧ c.2.2 = tS) ∨ ∃ k, k ≤ 50 ∧ cmpB T m1 m2 k c.2.2)
def clQ (h : Hp) (b : Nat → Int32) (n k t m : Nat) (G : Hp) (R : PR CS) : Option Value → Hp → Prop := fun v g => v = some (.int (bI R.1)) ∧ ∃ m1 m2, rdT (markH (markH h k m) (k + 1) m1) b n R.2.1 R.2.2.1 m2 g ∧ m ≤ m1 ∧ m1 ≤ m2 ∧ m2 + t ≤ m + R.2.1 ∧ (∀ i, i < m → hI g o_reader_steps i = hI G o_reader_steps i) ∧ (R.1 = true → clG (hI g o_reader_steps) m m1 m2 R.2.2.2)
section T99997
variable {cx : Cx} {d a : Nat} {h G : Hp} {b : Nat → Int32} {n N t lv m : Nat}
theorem mark_S {k m0 : Nat} (s : rdT h b n t lv m G) : rdT (markH h k m0) b n t lv m (markH G k m0) := by
  unfold markH
  refine ⟨⟨s.1.1, fun o j n1 n2 => ?_⟩, ?_, ?_, ?_, ?_⟩
  · have e1 : ∀ F : Hp, hI (wI (wI F o_reader_starts k (nI m0)) o_reader 7 (nI (k + 1))) o j = if o = 81 ∧ j = 7 then nI (k + 1) else if o = 83 ∧ j = k then nI m0 else hI F o j := fun F => by rw [rd_any, rd_any]
    rw [e1, e1, s.1.2 _ _ n1 n2]
  · rw [rd_k (by decide), rd_o (by decide)]; exact s.2.1
  · rw [rd_k (by decide), rd_o (by decide)]; exact s.2.2.1
  · rw [rd_k (by decide), rd_o (by decide)]; exact s.2.2.2.1
  · rw [rd_k (by decide), rd_o (by decide)]; exact s.2.2.2.2
theorem mark_B {k m0 : Nat} (q : rB h b n N) : rB (markH h k m0) b n N := by
  refine ⟨q.1, ?_, fun j hj => ?_, q.2.2.2⟩
  · unfold markH; rw [rd_k (by decide), rd_o (by decide)]; exact q.2.1
  · unfold markH; rw [rd_o (by decide), rd_o (by decide)]; exact q.2.2.1 j hj
theorem mark_82 {k m0 i : Nat} : hI (markH G k m0) o_reader_steps i = hI G o_reader_steps i := by
  unfold markH; rw [rd_o (by decide), rd_o (by decide)]
theorem rk_clause (q : rB h b n N) {k : Nat} (hk : k + 1 < 24) (e7 : hI h o_reader 7 = nI k) (hd : 45 ≤ d) (ht : t ≤ N) (hl : lv ≤ 50) (hm : m ≤ t) (s : rdT h b n t lv m G) : M cx jX5_readClause d 0 [.ref o_reader] G (clQ h b n k t m G (pClause (tC b n) (tV b n) t lv)) := by
  have hC : ∀ k, N ≤ k → tC b n k = 0 := fun k hk => tkn_0 q hk
  have al : ly_al o_reader_starts = 24 := by decide
  have ek : hI G o_reader 7 = nI k := (s.1.2 81 7 (by decide) (fun z => by rcases z.2 with y | y | y | y <;> exact absurd y (by decide))).trans e7
  have mk1 : M cx jX5_mark (d - 1) 0 [.ref o_reader] G (RV (markH G k m)) := m_mark s.2.2.2.1 ek (by omega) (by omega)
  have s1 : rdT (markH h k m) b n t lv m (markH G k m) := mark_S s
  have q1 : rB (markH h k m) b n N := mark_B q
  generalize hC' : tC b n = C at *
  generalize hV' : tV b n = V at *
  have tail : ∀ t1 lv1 m1 g (good hb : Bool) (sn : SN), rdT (markH h k m) b n t1 lv1 m1 g → t1 ≤ N → lv1 ≤ 50 → m ≤ m1 → m1 + t ≤ m + t1 → (∀ i, i < m → hI g o_reader_steps i = hI G o_reader_steps i) → (good = true → (hb = true → m1 = m) ∧ (hb = false → ∃ k, k ≤ 50 ∧ cmpN (hI g o_reader_steps) m m1 k sn)) → E cx jX5_readClause d 0 41 [some (.ref o_reader), some (.int (bI good))] [] g (clQ h b n k t m G (if good = true then ((pTail C V t1 lv1).1, (pTail C V t1 lv1).2.1, (pTail C V t1 lv1).2.2.1, hb, sn, (pTail C V t1 lv1).2.2.2) else (false, t1, lv1, hb, sn, zB))) := fun t1 lv1 m1 g good hb sn sg h1 h2 h3 h4 h5 h6 => by
    have ek2 : hI g o_reader 7 = nI (k + 1) := by
      rw [sg.1.2 81 7 (by decide) (fun z => by rcases z.2 with y | y | y | y <;> exact absurd y (by decide))]; unfold markH; exact rd_same
    have mk2 : M cx jX5_mark (d - 1) 0 [.ref o_reader] g (RV (markH g (k + 1) m1)) := m_mark sg.2.2.2.1 ek2 (by omega) (by omega)
    have s2 : rdT (markH (markH h k m) (k + 1) m1) b n t1 lv1 m1 (markH g (k + 1) m1) := mark_S sg
    have q2 : rB (markH (markH h k m) (k + 1) m1) b n N := mark_B q1
    cases good with
    | false =>
      rw [if_neg (by decide)]
      exact eX5_readClause (wcV0 mk2 (And.intro (fun _ => eX5_readClause (And.intro bI_B ⟨rfl, m1, m1, s2, h3, Nat.le_refl _, h4, fun i hi => mark_82.trans (h5 i hi), fun w => by cases w⟩)) (fun z => absurd rfl z)))
    | true =>
      rw [if_pos rfl]
      obtain ⟨h7, h8⟩ := h6 rfl
      have hd1 : hb = false → ∃ k0, k0 ≤ 50 ∧ cmpN (hI (markH g (k + 1) m1) o_reader_steps) m m1 k0 sn := fun z => by
        obtain ⟨k0, a1, a2⟩ := h8 z
        exact ⟨k0, a1, cmpN_cg a2 (fun i _ _ => mark_82)⟩
      unfold pTail
      by_cases c3 : C t1 = 3
      · rw [if_pos c3]
        have tl : t1 < N := tkn_lt q (by rw [hC', c3]; decide)
        have s3 := adv_S s2
        have hM := rk_testP (cx := cx) q2 8 0 rfl (d - 1) (t1 + 1) lv1 m1 _ (by omega) (by omega) h2 (by omega) s3
        have lb := lvb_test (C := C) (V := V) 8 (t1 + 1) lv1 h2
        rw [hC', hV'] at hM
        generalize testP C V 8 (t1 + 1) lv1 = R at hM lb
        refine eX5_readClause (wcV0 mk2 (And.intro (fun z => absurd z (by decide)) (fun _ => wcV (r_isT q2 s2 (by omega) (k := 24) (by decide) (by rw [hC']; exact c3)) (And.intro (fun z => absurd z (by decide)) (fun _ => wcV0 (r_adv q2 s2 (by omega)) (wcQ hM (fun v g2 z => ?_) (cQ_N s3)))))))
        obtain ⟨rfl, m2, s4, p1, p2, p3, p4⟩ := z
        have old : ∀ i, i < m1 → hI g2 o_reader_steps i = hI g o_reader_steps i := fun i hi => (p3 i hi).trans (adv_82.trans mark_82)
        refine And.intro bI_B ⟨rfl, m1, m2, s4, h3, p1, by show m2 + t ≤ m + R.2.1; omega, fun i hi => (old i (by omega)).trans (h5 i hi), fun w => ?_⟩
        obtain ⟨l1, l2⟩ := p4 w
        refine ⟨h7, fun z => ?_, Or.inr ⟨R.2.2.1 - lv1, by omega, l2⟩⟩
        obtain ⟨k0, a1, a2⟩ := h8 z
        exact ⟨k0, a1, cmpN_cg a2 (fun i _ hi => old i hi)⟩
      · rw [if_neg c3]
        exact eX5_readClause (wcV0 mk2 (And.intro (fun z => absurd z (by decide)) (fun _ => wcV (r_isF q2 s2 (by omega) (k := 24) (by decide) (by rw [hC']; exact c3)) (And.intro (fun _ => eX5_readClause (And.intro bI_B ⟨rfl, m1, m1, s2, h3, Nat.le_refl _, h4, fun i hi => mark_82.trans (h5 i hi), fun _ => ⟨h7, hd1, Or.inl ⟨rfl, rfl⟩⟩⟩)) (fun z => absurd rfl z)))))
  unfold pClause
  by_cases c2 : C t = 2
  · have tl : t < N := tkn_lt q (by rw [hC', c2]; decide)
    have eh : pHead C V t lv = (true, t + 1, lv, true, zN) := by unfold pHead; rw [if_neg (by rw [c2]; decide), if_pos c2]
    rw [eh]
    have tl2 := tail (t + 1) lv m (advH b n t (markH G k m)) true true zN (adv_S s1) (by omega) hl (Nat.le_refl _) (by omega) (fun i hi => adv_82.trans mark_82) (fun _ => ⟨fun _ => rfl, fun z => by cases z⟩)
    exact sX5_readClause rfl (wcV0 mk1 (wcV (r_isT q1 s1 (by omega) (k := 0) (by decide) (by rw [hC']; exact c2)) (And.intro (fun z => absurd z (by decide)) (fun _ => wcV0 (r_adv q1 s1 (by omega)) tl2))))
  · refine sX5_readClause rfl (wcV0 mk1 (wcV (r_isF q1 s1 (by omega) (k := 0) (by decide) (by rw [hC']; exact c2)) (And.intro (fun _ => eX5_readClause ?_) (fun z => absurd rfl z))))
    by_cases c1 : C t = 1
    · have tl : t < N := tkn_lt q (by rw [hC', c1]; decide)
      have s3 := adv_S s1
      have hM := rk_sumP (cx := cx) q1 8 0 rfl (d - 1) (t + 1) lv m _ (by omega) (by omega) hl (by omega) s3
      have lb := lvb_sum (C := C) (V := V) 8 (t + 1) lv hl
      have mo := mono_sum (V := V) hC 8 (t + 1) lv (by omega)
      have eh : pHead C V t lv = ((sumP C V 8 (t + 1) lv).1, (sumP C V 8 (t + 1) lv).2.1, (sumP C V 8 (t + 1) lv).2.2.1, false, (sumP C V 8 (t + 1) lv).2.2.2) := by unfold pHead; rw [if_pos c1]
      rw [eh]
      rw [hC', hV'] at hM
      generalize sumP C V 8 (t + 1) lv = R at hM lb mo
      refine wcV (r_isT q1 s1 (by omega) (k := 1) (by decide) (by rw [hC']; exact c1)) (And.intro (fun z => absurd z (by decide)) (fun _ => wcV0 (r_adv q1 s1 (by omega)) (wcQ hM (fun v g2 z => ?_) (cQ_N s3))))
      obtain ⟨rfl, m2, s4, p1, p2, p3, p4⟩ := z
      exact tail R.2.1 R.2.2.1 m2 g2 R.1 false R.2.2.2 s4 mo.2.1 lb p1 (by omega) (fun i hi => (p3 i hi).trans (adv_82.trans mark_82)) (fun w => ⟨fun z => (by cases z), fun _ => ⟨R.2.2.1 - lv, by omega, (p4 w).2⟩⟩)
    · have eh : pHead C V t lv = (false, t, lv, false, zN) := by unfold pHead; rw [if_neg c1, if_neg c2]
      rw [eh]
      have tl2 := tail t lv m (markH G k m) false false zN s1 ht hl (Nat.le_refl _) (Nat.le_refl _) (fun i hi => mark_82) (fun z => by cases z)
      exact wcV (r_isF q1 s1 (by omega) (k := 1) (by decide) (by rw [hC']; exact c1)) (And.intro (fun _ => tl2) (fun z => absurd rfl z))
end T99997
