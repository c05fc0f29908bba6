/-! the class's reader: brackets and parts -/
def cQ {α : Type} (h : Hp) (b : Nat → Int32) (n : Nat) (cp : (Nat → Int32) → Nat → Nat → Nat → α → Prop) (t lv m : Nat) (G : Hp) (R : PR α) : Option Value → Hp → Prop := fun v g => v = some (.int (bI R.1)) ∧ ∃ m', rdT h b n R.2.1 R.2.2.1 m' g ∧ m ≤ m' ∧ m' + t ≤ m + R.2.1 ∧ (∀ i, i < m → hI g o_reader_steps i = hI G o_reader_steps i) ∧ (R.1 = true → lv < R.2.2.1 ∧ cp (hI g o_reader_steps) m m' (R.2.2.1 - lv) R.2.2.2)
def rkC {α : Type} (cx : Cx) (j D : Nat) (h : Hp) (b : Nat → Int32) (n N : Nat) (cp : (Nat → Int32) → Nat → Nat → Nat → α → Prop) (dp : Nat) (P : Nat → Nat → PR α) : Prop := ∀ d t lv m G, D ≤ d → t ≤ N → lv ≤ 50 → m ≤ t → rdT h b n t lv m G → M cx j d 0 [.ref o_reader, .int (nI dp)] G (cQ h b n cp t lv m G (P t lv))
def nfV (c : Int32) : Int32 := if c = 7 then 7 else if c = 8 then 0 else if c = 9 then 1 else if c = 10 then 2 else if c = 11 then 3 else if c = 12 then 4 else if c = 13 then 5 else if c = 14 then 6 else -1
section T99994
variable {cx : Cx} {d a : Nat} {h G : Hp} {b : Nat → Int32} {n N t lv m : Nat}
theorem cQ_N {α : Type} {cp : (Nat → Int32) → Nat → Nat → Nat → α → Prop} {R : PR α} {t' lv' m' t2 lv2 m2 : Nat} {G' : Hp} (s : rdT h b n t' lv' m' G') : ∀ v g, cQ h b n cp t2 lv2 m2 G R v g → hN g = hN G' := fun v g z => by
  obtain ⟨-, _, s2, -⟩ := z
  rw [rdT_N s2, rdT_N s]
theorem r_named (q : rB h b n N) (s : rdT h b n t lv m G) (hd : 5 ≤ d) : M cx jX5_namedFact d a [.ref o_reader] G (RQ (.int (nfV (tC b n t))) G) := by
  have is := fun k (hk : k < 26) => r_is (cx := cx) (d := d - 1) (a := 0) q s (by omega) hk
  generalize tC b n t = c at is
  have e93 : ∀ v, v = nfV c → E cx jX5_namedFact d a 93 [some (.ref o_reader)] [.int v] G (RQ (.int (nfV c)) G) := fun v ev => eX5_namedFact (RQ_eq ev)
  refine sX5_namedFact rfl (wcV (is 12 (by decide)) (And.intro (fun z0 => eX5_namedFact ?_) (fun z => RQ_eq ?_)))
  case refine_2 => have : c = 7 := b2i_n z; subst this; rfl
  have n0 : ¬ c = 7 := b2i_0.mp z0
  refine wcV (is 13 (by decide)) (And.intro (fun z0 => eX5_namedFact ?_) (fun z => RQ_eq ?_))
  case refine_2 => have : c = 8 := b2i_n z; subst this; rfl
  have n1 : ¬ c = 8 := b2i_0.mp z0
  refine wcV (is 14 (by decide)) (And.intro (fun z0 => eX5_namedFact ?_) (fun z => RQ_eq ?_))
  case refine_2 => have : c = 9 := b2i_n z; subst this; rfl
  have n2 : ¬ c = 9 := b2i_0.mp z0
  refine wcV (is 15 (by decide)) (And.intro (fun z0 => eX5_namedFact ?_) (fun z => RQ_eq ?_))
  case refine_2 => have : c = 10 := b2i_n z; subst this; rfl
  have n3 : ¬ c = 10 := b2i_0.mp z0
  refine wcV (is 16 (by decide)) (And.intro (fun z0 => eX5_namedFact ?_) (fun z => RQ_eq ?_))
  case refine_2 => have : c = 11 := b2i_n z; subst this; rfl
  have n4 : ¬ c = 11 := b2i_0.mp z0
  refine wcV (is 17 (by decide)) (And.intro (fun z0 => eX5_namedFact ?_) (fun z => RQ_eq ?_))
  case refine_2 => have : c = 12 := b2i_n z; subst this; rfl
  have n5 : ¬ c = 12 := b2i_0.mp z0
  refine wcV (is 18 (by decide)) (And.intro (fun z0 => eX5_namedFact ?_) (fun z => RQ_eq ?_))
  case refine_2 => have : c = 13 := b2i_n z; subst this; rfl
  have n6 : ¬ c = 13 := b2i_0.mp z0
  refine wcV (is 19 (by decide)) (And.intro (fun z0 => eX5_namedFact (e93 _ ?_)) (fun z => e93 _ ?_))
  · have n7 : ¬ c = 14 := b2i_0.mp z0
    unfold nfV
    rw [if_neg n0, if_neg n1, if_neg n2, if_neg n3, if_neg n4, if_neg n5, if_neg n6, if_neg n7]
  · have : c = 14 := b2i_n z; subst this; rfl
theorem nf_some {c : Int32} (z : ¬ nfV c = -1) : ∃ f, f ≤ 7 ∧ nfV c = nI f ∧ c = nI (if f = 7 then 7 else f + 8) := by
  unfold nfV at z ⊢
  by_cases c0 : c = 7
  · rw [if_pos c0]; exact ⟨7, by decide, rfl, c0⟩
  rw [if_neg c0] at z ⊢
  by_cases c1 : c = 8
  · rw [if_pos c1]; exact ⟨0, by decide, rfl, c1⟩
  rw [if_neg c1] at z ⊢
  by_cases c2 : c = 9
  · rw [if_pos c2]; exact ⟨1, by decide, rfl, c2⟩
  rw [if_neg c2] at z ⊢
  by_cases c3 : c = 10
  · rw [if_pos c3]; exact ⟨2, by decide, rfl, c3⟩
  rw [if_neg c3] at z ⊢
  by_cases c4 : c = 11
  · rw [if_pos c4]; exact ⟨3, by decide, rfl, c4⟩
  rw [if_neg c4] at z ⊢
  by_cases c5 : c = 12
  · rw [if_pos c5]; exact ⟨4, by decide, rfl, c5⟩
  rw [if_neg c5] at z ⊢
  by_cases c6 : c = 13
  · rw [if_pos c6]; exact ⟨5, by decide, rfl, c6⟩
  rw [if_neg c6] at z ⊢
  by_cases c7 : c = 14
  · rw [if_pos c7]; exact ⟨6, by decide, rfl, c7⟩
  rw [if_neg c7] at z
  exact absurd rfl z
theorem nf_tab : ∀ k, 7 ≤ k → k < 15 → ¬ nfV (nI k) = -1 := by
  intro k h1 h2
  have : k = 7 ∨ k = 8 ∨ k = 9 ∨ k = 10 ∨ k = 11 ∨ k = 12 ∨ k = 13 ∨ k = 14 := by omega
  rcases this with rfl | rfl | rfl | rfl | rfl | rfl | rfl | rfl <;> decide
theorem nf_none {c : Int32} (z : nfV c = -1) : ¬ (7 ≤ c ∧ c ≤ 14) := fun ⟨h1, h2⟩ => by
  have n0 : ¬ c < 0 := fun y => by
    have a1 := Int32.lt_iff_toInt_lt.mp y
    have a2 := Int32.le_iff_toInt_le.mp h1
    have e0 : (0 : Int32).toInt = 0 := rfl
    have e7 : (7 : Int32).toInt = 7 := rfl
    omega
  obtain ⟨k, hk, rfl⟩ := nI_of n0
  have a1 := (nI_leI (a := 7) (by decide) hk).mp h1
  have a2 := (nI_leI (b := 14) hk (by decide)).mp h2
  exact nf_tab k a1 (by omega) z
theorem r_number (q : rB h b n N) (s : rdT h b n t lv m G) (hd : 1 ≤ d) : M cx jX5_numberTold d a [.ref o_reader] G (RQ (.int (nuT b n (tkS b n t) (tkE b n (tkS b n t)))) G) := by
  have e1 := tkE_le (b := b) (tkS_le (b := b) (n := n) t)
  exact m_numberTold hd (by rw [s.1.2 _ _ (by decide) (fun z => by rcases z.2 with y | y | y | y <;> exact absurd y (by decide))]; exact q.2.1) q.1 s.2.1 s.2.2.1 e1.1 e1.2 (fun j hj => by rw [s.1.2 _ _ (by decide) (fun z => absurd z.1 (by decide))]; exact q.2.2.1 j hj)
theorem num_tok (q : rB h b n N) : (∃ v, v ≤ 1000 ∧ nuT b n (tkS b n t) (tkE b n (tkS b n t)) = nI v ∧ tC b n t = 50 ∧ tV b n t = nI v) ∨ (nuT b n (tkS b n t) (tkE b n (tkS b n t)) = -1 ∧ ¬ (tC b n t = 50 ∧ tV b n t ≤ 1000)) := by
  have hb := q.2.2.2.1
  unfold nuT tC tV
  by_cases sn : tkS b n t < n
  · rw [if_pos sn, if_pos sn]
    have te := tend_le (b := b) sn
    have ee : tkE b n (tkS b n t) = tend b n (tkS b n t) := if_pos sn
    rw [ee]
    generalize hS : tkS b n t = s at te sn
    by_cases dg : dig (b s)
    · rw [if_pos ⟨sn, dg⟩]
      have nl := dig_ltr dg
      have ed : tend b n s = run dig b n 401 (s + 1) := by unfold tend; rw [if_neg nl, if_pos dg]
      have alld : ∀ i, i < tend b n s - s → dig (b (s + i)) := fun i hi => by
        by_cases i0 : i = 0
        · rw [i0]; exact dg
        · exact run_all 401 (s + 1) (s + i) (by omega) (by rw [← ed]; omega)
      obtain ⟨n1, n2, n3⟩ := nu_vl alld (tend b n s - s) (Nat.le_refl _)
      unfold cdT vlT
      rw [if_neg nl, if_pos dg, if_pos dg]
      generalize tend b n s - s = L at n1 n2 n3
      have le1 : ∀ x : Int32, x ≤ 1000 ↔ x.toInt ≤ 1000 := fun x => by rw [Int32.le_iff_toInt_le]; rfl
      by_cases z : nuF b s L ≤ 1000
      · left
        have e := n2 ((le1 _).mp z)
        rw [e] at n1
        rw [if_pos z, e]
        have n0 : ¬ nuF b s L < 0 := fun y => by
          have := Int32.lt_iff_toInt_lt.mp y
          have e0 : (0 : Int32).toInt = 0 := rfl
          omega
        obtain ⟨v, hv, ev⟩ := nI_of n0
        rw [ev] at z ⊢
        exact ⟨v, (nI_leI (b := 1000) hv (by decide)).mp z, rfl, rfl, rfl⟩
      · right
        rw [if_neg z]
        exact ⟨rfl, fun y => n3 (fun w => z ((le1 _).mpr w)) ((le1 _).mp y.2)⟩
    · right
      rw [if_neg (fun z => dg z.2)]
      refine ⟨rfl, fun y => ?_⟩
      have y := y.1
      unfold cdT at y
      by_cases l : ltr (b s)
      · rw [if_pos l] at y
        by_cases z : fst (wMt b s (tend b n s)) 14 0 = -1
        · rw [z] at y; exact absurd y (by decide)
        · obtain ⟨j, _, hj, e1, e2, _⟩ := fst_some 14 0 z
          rw [e1, ← nI_succ] at y
          have := (nI_eq (b := 50) (by omega) (by decide)).mp y
          omega
      · rw [if_neg l, if_neg dg] at y
        obtain ⟨v, hv, ev⟩ := hb s
        rw [ev, show (100 : Int32) = nI 100 from rfl, nI_add] at y
        have := (nI_eq (b := 50) (by omega) (by decide)).mp y
        omega
  · right
    rw [if_neg sn, if_neg (fun z => sn z.1)]
    exact ⟨rfl, fun y => absurd y.1 (by decide)⟩

theorem rk_brkN (q : rB h b n N) {D dp kc : Nat} {nx : Option (Nat → Nat → PR SN)} {cl : Int32} (hkc : kc < 26) (hcl : cdW.getD kc 0 = cl) (hn : nx = none → dp = 8) (hs : ∀ S, nx = some S → dp < 8 ∧ rkC cx jX5_readSum D h b n N cmpN (dp + 1) S ∧ mono N S) (h4 : 4 ≤ D) : ∀ d t lv m G, D + 1 ≤ d → t < N → lv ≤ 50 → m ≤ t → rdT h b n t lv m G → M cx jX5_readBracketed d 0 [.ref o_reader, .int (nI dp), .int 0, .ref (1 + kc)] G (cQ h b n cmpN t lv m G (pBrk (tC b n) cl nx zN t lv)) := by
  intro d t lv m G hd ht hl hm s
  match nx, hn, hs with
  | none, hn, _ =>
    obtain rfl := hn rfl
    exact sX5_readBracketed rfl (And.intro (fun q1 => absurd q1 (by decide)) (fun q1 => And.intro (Or.inl rfl) ⟨rfl, m, s, Nat.le_refl _, Nat.le_refl _, fun _ _ => rfl, fun z => by cases z⟩))
  | some S, _, hs =>
    obtain ⟨h8, hS, hmo⟩ := hs S rfl
    have s1 := adv_S s
    have mo := hmo (t + 1) lv (by omega)
    have hM := hS (d - 1) (t + 1) lv m _ (by omega) (by omega) hl (by omega) s1
    rw [nI_succ] at hM
    refine sX5_readBracketed rfl (And.intro (fun _ => eX5_readBracketed (wcV0 (r_adv q s (by omega)) (And.intro (fun _ => eX5_readBracketed (wcQ hM (fun v g z => ?_) (cQ_N s1))) (fun z => absurd rfl z)))) (fun z => absurd (nI_lt h8 (by decide)) z))
    obtain ⟨rfl, m', s2, k1, k2, k3, k4⟩ := z
    refine eX5_readBracketed (And.intro (fun z => eX5_readBracketed (And.intro (Or.inl rfl) ?_)) (fun z => wcV (r_is q s2 (by omega) hkc) (And.intro (fun y => eX5_readBracketed (wcV0 (r_adv q s2 (by omega)) (And.intro (Or.inr rfl) ?_))) (fun y => eX5_readBracketed (And.intro (Or.inl rfl) ?_)))))
    · rw [brk_no (bI_0.mp z)]
      exact ⟨rfl, m', s2, k1, by show m' + t ≤ m + (S (t + 1) lv).2.1; omega, fun i hi => (k3 i hi).trans adv_82, fun w => by cases w⟩
    · rw [brk_ok (bI_n.mp z) ((b2i_n y).trans hcl)]
      obtain ⟨l1, l2⟩ := k4 (bI_n.mp z)
      exact ⟨rfl, m', adv_S s2, k1, by show m' + t ≤ m + ((S (t + 1) lv).2.1 + 1); omega, fun i hi => adv_82.trans ((k3 i hi).trans adv_82), fun _ => ⟨l1, cmpN_cg l2 (fun i _ _ => adv_82)⟩⟩
    · rw [brk_cl (bI_n.mp z) (fun w => (b2i_0.mp y) (w.trans hcl.symm))]
      exact ⟨rfl, m', s2, k1, by show m' + t ≤ m + (S (t + 1) lv).2.1; omega, fun i hi => (k3 i hi).trans adv_82, fun w => by cases w⟩

theorem rk_brkB (q : rB h b n N) {D dp kc : Nat} {nx : Option (Nat → Nat → PR SB)} {cl : Int32} (hkc : kc < 26) (hcl : cdW.getD kc 0 = cl) (hn : nx = none → dp = 8) (hs : ∀ S, nx = some S → dp < 8 ∧ rkC cx jX5_readTest D h b n N cmpB (dp + 1) S ∧ mono N S) (h4 : 4 ≤ D) : ∀ d t lv m G, D + 1 ≤ d → t < N → lv ≤ 50 → m ≤ t → rdT h b n t lv m G → M cx jX5_readBracketed d 0 [.ref o_reader, .int (nI dp), .int 1, .ref (1 + kc)] G (cQ h b n cmpB t lv m G (pBrk (tC b n) cl nx zB t lv)) := by
  intro d t lv m G hd ht hl hm s
  match nx, hn, hs with
  | none, hn, _ =>
    obtain rfl := hn rfl
    exact sX5_readBracketed rfl (And.intro (fun q1 => absurd q1 (by decide)) (fun q1 => And.intro (Or.inl rfl) ⟨rfl, m, s, Nat.le_refl _, Nat.le_refl _, fun _ _ => rfl, fun z => by cases z⟩))
  | some S, _, hs =>
    obtain ⟨h8, hS, hmo⟩ := hs S rfl
    have s1 := adv_S s
    have mo := hmo (t + 1) lv (by omega)
    have hM := hS (d - 1) (t + 1) lv m _ (by omega) (by omega) hl (by omega) s1
    rw [nI_succ] at hM
    refine sX5_readBracketed rfl (And.intro (fun _ => eX5_readBracketed (wcV0 (r_adv q s (by omega)) (And.intro (fun z => absurd z (by decide)) (fun _ => wcQ hM (fun v g z => ?_) (cQ_N s1))))) (fun z => absurd (nI_lt h8 (by decide)) z))
    obtain ⟨rfl, m', s2, k1, k2, k3, k4⟩ := z
    refine eX5_readBracketed (And.intro (fun z => eX5_readBracketed (And.intro (Or.inl rfl) ?_)) (fun z => wcV (r_is q s2 (by omega) hkc) (And.intro (fun y => eX5_readBracketed (wcV0 (r_adv q s2 (by omega)) (And.intro (Or.inr rfl) ?_))) (fun y => eX5_readBracketed (And.intro (Or.inl rfl) ?_)))))
    · rw [brk_no (bI_0.mp z)]
      exact ⟨rfl, m', s2, k1, by show m' + t ≤ m + (S (t + 1) lv).2.1; omega, fun i hi => (k3 i hi).trans adv_82, fun w => by cases w⟩
    · rw [brk_ok (bI_n.mp z) ((b2i_n y).trans hcl)]
      obtain ⟨l1, l2⟩ := k4 (bI_n.mp z)
      exact ⟨rfl, m', adv_S s2, k1, by show m' + t ≤ m + ((S (t + 1) lv).2.1 + 1); omega, fun i hi => adv_82.trans ((k3 i hi).trans adv_82), fun _ => ⟨l1, cmpB_cg l2 (fun i _ _ => adv_82)⟩⟩
    · rw [brk_cl (bI_n.mp z) (fun w => (b2i_0.mp y) (w.trans hcl.symm))]
      exact ⟨rfl, m', s2, k1, by show m' + t ≤ m + (S (t + 1) lv).2.1; omega, fun i hi => (k3 i hi).trans adv_82, fun w => by cases w⟩

theorem part_S (s : rdT h b n t lv m G) : rdT h b n t (lv + 1) m (wI G o_reader 8 (nI (lv + 1))) := by
  refine ⟨⟨s.1.1, fun o k n1 n2 => ?_⟩, ?_, ?_, ?_, rd_same⟩
  · by_cases ho : o = 81
    · subst ho
      rw [rd_k (by omega)]; exact s.1.2 _ _ n1 n2
    · rw [rd_o ho]; exact s.1.2 _ _ n1 n2
  · rw [rd_k (by decide)]; exact s.2.1
  · rw [rd_k (by decide)]; exact s.2.2.1
  · rw [rd_k (by decide)]; exact s.2.2.2.1
theorem rk_part (q : rB h b n N) {D dp : Nat} {nx : Option (Nat → Nat → PR SN)} (hn : nx = none → dp = 8) (hs : ∀ S, nx = some S → dp < 8 ∧ rkC cx jX5_readSum D h b n N cmpN (dp + 1) S ∧ mono N S) (h4 : 4 ≤ D) : rkC cx jX5_readPart (D + 2) h b n N cmpN dp (pPart (tC b n) (tV b n) nx) := by
  intro d t lv m G hd ht hl hm s
  have h400 : N ≤ 400 := Nat.le_trans q.2.2.2.2.1 q.1
  by_cases c1 : tC b n t = 191
  · have tl := tkn_lt q (by rw [c1]; decide)
    unfold pPart
    rw [if_pos c1]
    have hM := rk_brkN q (kc := 3) (cl := 193) (by decide) rfl hn hs h4 (d - 1) t lv m G (by omega) tl hl hm s
    refine sX5_readPart rfl (wcV (r_isT q s (by omega) (k := 2) (by decide) c1) (And.intro (fun z => absurd z (by decide)) (fun _ => wcQ hM (fun v g z => ?_) (cQ_N s))))
    obtain ⟨rfl, z⟩ := z
    exact And.intro bI_B ⟨rfl, z⟩
  · unfold pPart
    rw [if_neg c1]
    have nt := num_tok (t := t) q
    generalize eu : nuT b n (tkS b n t) (tkE b n (tkS b n t)) = u at nt
    generalize ef : nfV (tC b n t) = f
    have j47 : ¬ (isLeaf (tC b n t) (tV b n t) ∧ lv < 50) → E cx jX5_readPart d 0 47 [some (.ref o_reader), some (.int (nI dp)), some (.int f), some (.int u)] [] G (cQ h b n cmpN t lv m G (@ite _ (isLeaf (tC b n t) (tV b n t) ∧ lv < 50) (Classical.propDecidable _) (true, t + 1, lv + 1, leafS (tC b n t) (tV b n t)) (false, t, lv, zN))) := fun z => by
      rw [if_neg z]
      exact eX5_readPart (And.intro (Or.inl rfl) ⟨rfl, m, s, Nat.le_refl _, Nat.le_refl _, fun _ _ => rfl, fun w => by cases w⟩)
    have j49 : isLeaf (tC b n t) (tV b n t) → lv < 50 → E cx jX5_readPart d 0 49 [some (.ref o_reader), some (.int (nI dp)), some (.int f), some (.int u)] [] G (cQ h b n cmpN t lv m G (@ite _ (isLeaf (tC b n t) (tV b n t) ∧ lv < 50) (Classical.propDecidable _) (true, t + 1, lv + 1, leafS (tC b n t) (tV b n t)) (false, t, lv, zN))) := fun il l50 => by
      rw [if_pos ⟨il, l50⟩]
      have tl := tkn_lt q (leaf_ne0 il)
      have s1 := part_S s
      have eh : wI G o_reader 8 (hI G o_reader 8 + 1) = wI G o_reader 8 (nI (lv + 1)) := by rw [s.2.2.2.2, nI_succ]
      have g82 : ∀ i, hI (wI G o_reader 8 (nI (lv + 1))) o_reader_steps i = hI G o_reader_steps i := fun i => rd_o (by decide)
      have j81 : ∀ o x : Int32, cmpN (hI (stepH (wI G o_reader 8 (nI (lv + 1))) m o x) o_reader_steps) m (m + 1) 1 (leafS (tC b n t) (tV b n t)) → E cx jX5_readPart d 0 81 [some (.ref o_reader), some (.int (nI dp)), some (.int f), some (.int u)] [] (stepH (wI G o_reader 8 (nI (lv + 1))) m o x) (cQ h b n cmpN t lv m G (true, t + 1, lv + 1, leafS (tC b n t) (tV b n t))) := fun o x hc => by
        have s2 := add_S (o := o) (x := x) s1
        refine eX5_readPart (wcV0 (r_adv q s2 (by omega)) (And.intro (Or.inr rfl) ⟨rfl, m + 1, adv_S s2, by omega, by show m + 1 + t ≤ m + (t + 1); omega, fun i hi => adv_82.trans ((add_82 (by omega)).trans (g82 i)), fun _ => ⟨by show lv < lv + 1; omega, ?_⟩⟩))
        show cmpN _ m (m + 1) (lv + 1 - lv) _
        rw [show lv + 1 - lv = 1 by omega]
        exact cmpN_cg hc (fun i _ _ => adv_82)
      refine eX5_readPart (wp_hp (h := wI G o_reader 8 (hI G o_reader 8 + 1)) eh (And.intro (fun z => eX5_readPart (wcV (r_add q s1 (by omega) (by omega)) (j81 1 f ?_))) (fun z => wcV (r_add q s1 (by omega) (by omega)) (j81 0 u ?_))))
      · have z : ¬ f = -1 := z
        rw [← ef] at z
        obtain ⟨w, hw, e1, e2⟩ := nf_some z
        refine cmpN_fact hw ?_ e2
        rw [add_new, ← ef, e1]; rfl
      · have z : f = -1 := z
        rcases nt with ⟨v, hv, e1, e2, e3⟩ | ⟨e1, e2⟩
        · refine cmpN_num (v := v) (by omega) ?_ e2 e3
          rw [add_new, e1]; rfl
        · exfalso
          rcases il with y | y
          · exact e2 y
          · exact nf_none (ef.trans z) y
    have en : M cx jX5_namedFact (d - 1) 0 [.ref o_reader] G (RQ (.int f) G) := by have := r_named (cx := cx) (d := d - 1) (a := 0) q s (by omega); rw [ef] at this; exact this
    have eu2 : M cx jX5_numberTold (d - 1) 0 [.ref o_reader] G (RQ (.int u) G) := by have := r_number (cx := cx) (d := d - 1) (a := 0) q s (by omega); rw [eu] at this; exact this
    refine sX5_readPart rfl (wcV (r_isF q s (by omega) (k := 2) (by decide) c1) (And.intro (fun _ => eX5_readPart (wcV en (wcV eu2 (And.intro (fun z => j47 fun y => ?_) (fun z => And.intro (fun y => j49 ?_ ?_) (fun y => And.intro (fun x => j49 ?_ ?_) (fun x => j47 fun w => ?_))))))) (fun z => absurd rfl z)))
    · rw [s.2.2.2.2] at z; exact nI_ge (b := 50) y.2 (by decide) z
    · have y : ¬ f = -1 := y
      rw [← ef] at y
      obtain ⟨w, hw, e1, e2⟩ := nf_some y
      refine Or.inr ?_
      rw [e2]
      by_cases w7 : w = 7
      · rw [if_pos w7]; exact ⟨by decide, by decide⟩
      · rw [if_neg w7]; exact ⟨nI_le (a := 7) (by omega) (by omega), nI_le (b := 14) (by omega) (by decide)⟩
    · rw [s.2.2.2.2] at z; exact Nat.lt_of_not_le fun w => z (nI_le (a := 50) w (by omega))
    · have x : ¬ u = -1 := x
      rcases nt with ⟨v, hv, e1, e2, e3⟩ | ⟨e1, e2⟩
      · refine Or.inl ⟨e2, ?_⟩
        rw [e3]; exact nI_le (b := 1000) hv (by decide)
      · exact absurd e1 x
    · rw [s.2.2.2.2] at z; exact Nat.lt_of_not_le fun w => z (nI_le (a := 50) w (by omega))
    · have x : u = -1 := x
      have y : f = -1 := y
      rcases w.1 with p | p
      · rcases nt with ⟨v, hv, e1, e2, e3⟩ | ⟨e1, e2⟩
        · rw [e1] at x; exact nI_m1 (by omega) x
        · exact e2 p
      · exact nf_none (ef.trans y) p
end T99994
