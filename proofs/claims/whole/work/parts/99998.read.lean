/-! the class's reader: a whole text, up to the new law -/
def clsI (T ST : Nat → Int32) (m : Nat) (cs : List CS) : Prop := ∃ f : Nat → Nat, f (2 * cs.length) = m ∧ (∀ i, i < 2 * cs.length → ST i = nI (f i)) ∧ (∀ i, i < 2 * cs.length → f i ≤ f (i + 1)) ∧ ∀ c (hc : c < cs.length), clG T (f (2 * c)) (f (2 * c + 1)) (f (2 * c + 2)) cs[c]
def rdL (h hb : Hp) : Prop := hb.2 = h.2 ∧ ∀ o k, o ≠ 83 → ¬ (o = 81 ∧ k = 7) → hI hb o k = hI h o k
def keepG (h g : Hp) : Prop := g.2 = h.2 ∧ ∀ o k, o ≠ 81 → o ≠ 82 → o ≠ 83 → hI g o k = hI h o k
section T99998
variable {cx : Cx} {d a : Nat} {h G : Hp} {b : Nat → Int32} {n N t lv m : Nat}
theorem clG_cg {T T' : Nat → Int32} {m m1 m2 : Nat} {c : CS} (q : clG T m m1 m2 c) (h2 : m1 ≤ m2) (h1 : m ≤ m1) (e : ∀ i, i < m2 → T' i = T i) : clG T' m m1 m2 c := by
  obtain ⟨a1, a2, a3⟩ := q
  refine ⟨a1, fun z => ?_, a3.imp id fun z => ?_⟩
  · obtain ⟨k, b1, b2⟩ := a2 z
    exact ⟨k, b1, cmpN_cg b2 (fun i _ hi => e i (by omega))⟩
  · obtain ⟨k, b1, b2⟩ := z
    exact ⟨k, b1, cmpB_cg b2 (fun i _ hi => e i (by omega))⟩
theorem up_le {f : Nat → Nat} {L : Nat} (q : ∀ i, i < L → f i ≤ f (i + 1)) : ∀ r i, i + r ≤ L → f i ≤ f (i + r) := by
  intro r
  induction r with
  | zero => intro i _; exact Nat.le_refl _
  | succ r ih => intro i hi; exact Nat.le_trans (ih i (by omega)) (q (i + r) (by omega))
theorem clsI_app {T T' ST ST' : Nat → Int32} {m m1 m2 : Nat} {cs : List CS} {c : CS} (q : clsI T ST m cs) (e1 : ∀ i, i < m → T' i = T i) (e2 : ∀ i, i < 2 * cs.length → ST' i = ST i) (e3 : ST' (2 * cs.length) = nI m) (e4 : ST' (2 * cs.length + 1) = nI m1) (h1 : m ≤ m1) (h2 : m1 ≤ m2) (g : clG T' m m1 m2 c) : clsI T' ST' m2 (cs ++ [c]) := by
  obtain ⟨f, f1, f2, f3, f4⟩ := q
  have len : (cs ++ [c]).length = cs.length + 1 := by simp
  refine ⟨fun i => if i ≤ 2 * cs.length then f i else if i = 2 * cs.length + 1 then m1 else m2, ?_, fun i hi => ?_, fun i hi => ?_, fun k hk => ?_⟩
  · rw [len]; simp only []; rw [if_neg (by omega), if_neg (by omega)]
  · rw [len] at hi
    simp only []
    by_cases c1 : i ≤ 2 * cs.length
    · rw [if_pos c1]
      by_cases c2 : i = 2 * cs.length
      · rw [c2, e3, f1]
      · rw [e2 i (by omega)]; exact f2 i (by omega)
    · rw [if_neg c1, if_pos (by omega), show i = 2 * cs.length + 1 by omega, e4]
  · rw [len] at hi
    simp only []
    by_cases c1 : i + 1 ≤ 2 * cs.length
    · rw [if_pos (by omega), if_pos c1]; exact f3 i (by omega)
    · by_cases c2 : i = 2 * cs.length
      · rw [if_pos (by omega), if_neg (by omega), if_pos (by omega), c2, f1]; exact h1
      · rw [if_neg (by omega), if_pos (by omega), if_neg (by omega), if_neg (by omega)]; exact h2
  · simp only []
    by_cases c1 : k < cs.length
    · rw [if_pos (by omega), if_pos (by omega), if_pos (by omega), List.getElem_append_left c1]
      have u1 := f3 (2 * k) (by omega)
      have u2 := f3 (2 * k + 1) (by omega)
      have u3 := up_le f3 (2 * cs.length - (2 * k + 2)) (2 * k + 2) (by omega)
      rw [show 2 * k + 2 + (2 * cs.length - (2 * k + 2)) = 2 * cs.length by omega, f1] at u3
      exact clG_cg (f4 k c1) u2 u1 (fun i hi => e1 i (by omega))
    · rw [len] at hk
      have ek : k = cs.length := by omega
      subst ek
      rw [if_pos (by omega), if_neg (by omega), if_pos rfl, if_neg (by omega), if_neg (by omega), f1, List.getElem_append_right (by omega)]
      simpa using g
theorem rdL_B {h1 hb : Hp} (r : rdL h1 hb) (q : rB h1 b n N) : rB hb b n N := ⟨q.1, (r.2 81 3 (by decide) (fun z => absurd z.2 (by decide))).trans q.2.1, fun j hj => (r.2 80 j (by decide) (fun z => absurd z.1 (by decide))).trans (q.2.2.1 j hj), q.2.2.2⟩
theorem rdL_mark {h1 hb : Hp} {k m0 : Nat} (r : rdL h1 hb) : rdL h1 (markH hb k m0) := ⟨r.1, fun o j n1 n2 => by
  unfold markH
  by_cases ho : o = 81
  · subst ho
    rw [rd_k (fun z => n2 ⟨rfl, z⟩), rd_o n1]; exact r.2 _ _ n1 n2
  · rw [rd_o ho, rd_o n1]; exact r.2 _ _ n1 n2⟩
theorem keep_of {h0 h1 hb g : Hp} (k1 : keepG h0 h1) (r : rdL h1 hb) (s : rdT hb b n t lv m g) : keepG h0 g := ⟨s.1.1.trans (r.1.trans k1.1), fun o k n1 n2 n3 => (s.1.2 o k n2 (fun z => n1 z.1)).trans ((r.2 o k n3 (fun z => n1 z.1)).trans (k1.2 o k n1 n2 n3))⟩
theorem keep_w {h0 g : Hp} {k : Nat} {v : Int32} (q : keepG h0 g) : keepG h0 (wI g o_reader k v) := ⟨q.1, fun o j n1 n2 n3 => (rd_o n1).trans (q.2 o j n1 n2 n3)⟩
theorem rk_read {h0 : Hp} {Q : Option Value → Hp → Prop} (hd : 46 ≤ d) (hn : n ≤ 400) (hB : ∀ j, j < 400 → hI h0 o_tape_bytes j = b j) (hb : isBy b) (hN : N ≤ n) (tN : tkS b n N = n) (tl : ∀ t, t < N → tkS b n t < n)
    (hfail : ∀ g, keepG h0 g → hI g o_reader 9 = nI (tkS b n (pLaw (tC b n) (tV b n) N).2.1) → (pLaw (tC b n) (tV b n) N).1 = false → Q (some .null) g)
    (hgood : ∀ g m l4, keepG h0 g → hI g o_reader 6 = nI m → m ≤ N → hI g o_reader 9 = -1 → (pLaw (tC b n) (tV b n) N).1 = true → clsI (hI g o_reader_steps) (hI g o_reader_starts) m (pLaw (tC b n) (tV b n) N).2.2 → 1 ≤ (pLaw (tC b n) (tV b n) N).2.2.length → (pLaw (tC b n) (tV b n) N).2.2.length ≤ 12 → E cx 36 d a 121 [some (.ref o_reader), some (.int (nI n)), some (.int 1), some (.int (nI (pLaw (tC b n) (tV b n) N).2.2.length)), l4] [] g Q) :
    M cx jX5_read d a [.ref o_reader, .int (nI n)] h0 Q := by
  let h1 := wI (wI (wI (wI (wI h0 o_reader 3 (nI n)) o_reader 5 0) o_reader 6 0) o_reader 7 0) o_reader 8 0
  have kp1 : keepG h0 h1 := keep_w (keep_w (keep_w (keep_w (keep_w ⟨rfl, fun _ _ _ _ _ => rfl⟩))))
  have f3 : hI h1 o_reader 3 = nI n := by show hI (wI _ _ _ _) _ _ = _; rw [rd_k (by decide), rd_k (by decide), rd_k (by decide), rd_k (by decide), rd_same]
  have f5 : hI h1 o_reader 5 = nI 0 := by show hI (wI _ _ _ _) _ _ = _; rw [rd_k (by decide), rd_k (by decide), rd_k (by decide), rd_same]; rfl
  have f6 : hI h1 o_reader 6 = nI 0 := by show hI (wI _ _ _ _) _ _ = _; rw [rd_k (by decide), rd_k (by decide), rd_same]; rfl
  have f7 : hI h1 o_reader 7 = nI 0 := by show hI (wI _ _ _ _) _ _ = _; rw [rd_k (by decide), rd_same]; rfl
  have f8 : hI h1 o_reader 8 = nI 0 := by show hI (wI _ _ _ _) _ _ = _; rw [rd_same]; rfl
  have f80 : ∀ j, j < 400 → hI h1 o_tape_bytes j = b j := fun j hj => (kp1.2 80 j (by decide) (by decide) (by decide)).trans (hB j hj)
  have q1 : rB h1 b n N := ⟨hn, f3, f80, hb, hN, tN, tl⟩
  have adv0 : M cx jX5_advance (d - 1) 0 [.ref o_reader] h1 (RV (rdrH h1 (tkS b n 0) (tkE b n (tkS b n 0)))) := m_advance (by omega) f3 hn f5 (Nat.zero_le _) f80
  have s0 : rdT h1 b n 0 0 0 (rdrH h1 (tkS b n 0) (tkE b n (tkS b n 0))) := by
    refine ⟨⟨rfl, fun o k n1 n2 => ?_⟩, ?_, rd_same, ?_, ?_⟩
    · unfold rdrH
      by_cases ho : o = 81
      · subst ho; rw [rd_k (by omega), rd_k (by omega)]
      · rw [rd_o ho, rd_o ho]
    · unfold rdrH; rw [rd_k (by decide), rd_same]
    · unfold rdrH; rw [rd_k (by decide), rd_k (by decide)]; exact f6
    · unfold rdrH; rw [rd_k (by decide), rd_k (by decide)]; exact f8
  have c0 := rk_clause (cx := cx) (d := d - 1) q1 (k := 0) (by decide) f7 (by omega) (Nat.zero_le _) (by omega) (Nat.le_refl _) s0
  have mcl := fun t lv (ht : t ≤ N) => mono_clause (V := tV b n) (fun k hk => tkn_0 q1 hk) t lv ht
  have lcl := fun t lv (hl : lv ≤ 50) => lvb_clause (C := tC b n) (V := tV b n) t lv hl
  have clear : h1 = wI (wI (wI (wI (wI h0 o_reader 3 (nI n)) o_reader 5 0) o_reader 6 0) o_reader 7 0) o_reader 8 0 := rfl
  clear_value h1
  generalize hC : tC b n = C at *
  generalize hV : tV b n = V at *
  generalize hL : pLaw C V N = LW at *
  have e106 : ∀ g tf lv m l2 l3 l4 hb', rdL h1 hb' → rdT hb' b n tf lv m g → LW.1 = false → LW.2.1 = tf → E cx 36 d a 106 [some (.ref o_reader), some (.int (nI n)), l2, l3, l4] [] g Q := fun g tf lv m l2 l3 l4 hb' r s z1 z2 => by
    refine eX5_read (hfail _ (keep_w (keep_of kp1 r s)) ?_ z1)
    rw [rd_same, s.2.1, z2]
  have e91F : ∀ g tf lv m l3 l4 hb', rdL h1 hb' → rdT hb' b n tf lv m g → LW.1 = false → LW.2.1 = tf → E cx 36 d a 91 [some (.ref o_reader), some (.int (nI n)), some (.int 0), l3, l4] [] g Q := fun g tf lv m l3 l4 hb' r s z1 z2 => eX5_read (And.intro (fun _ => e106 g tf lv m _ _ _ hb' r s z1 z2) (fun z => absurd rfl z))
  have e39F : ∀ g tf lv m x y hb', rdL h1 hb' → rdT hb' b n tf lv m g → LW.1 = false → LW.2.1 = tf → E cx 36 d a 39 [some (.ref o_reader), some (.int (nI n)), some (.int 0), some (.int x), some (.int y)] [] g Q := fun g tf lv m x y hb' r s z1 z2 => eX5_read (And.intro (fun _ => e91F g tf lv m _ _ hb' r s z1 z2) (fun _ => And.intro (fun _ => e91F g tf lv m _ _ hb' r s z1 z2) (fun z => absurd rfl z)))
  have e80 : ∀ g tf lv m l2 x y hb', rdL h1 hb' → rdT hb' b n tf lv m g → LW.1 = false → LW.2.1 = tf → E cx 36 d a 80 [some (.ref o_reader), some (.int (nI n)), l2, some (.int x), some (.int y)] [] g Q := fun g tf lv m l2 x y hb' r s z1 z2 => eX5_read (eX5_read (e39F g tf lv m _ _ hb' r s z1 z2))
  have e91T : ∀ g t lv m cs l4 hb', rdL h1 hb' → rdT hb' b n t lv m g → t ≤ N → m ≤ t → clsI (hI g o_reader_steps) (hI hb' o_reader_starts) m cs → 1 ≤ cs.length → cs.length ≤ 12 → LW = (decide (N ≤ t), t, cs) → E cx 36 d a 91 [some (.ref o_reader), some (.int (nI n)), some (.int 1), some (.int (nI cs.length)), l4] [] g Q := fun g t lv m cs l4 hb' r s ht hm ci c1 c12 eL => by
    have g3 : hI g o_reader 3 = nI n := (s.1.2 81 3 (by decide) (fun z => by rcases z.2 with y | y | y | y <;> exact absurd y (by decide))).trans ((r.2 81 3 (by decide) (fun z => absurd z.2 (by decide))).trans f3)
    have tle := tkS_le (b := b) (n := n) t
    refine eX5_read (And.intro (fun z => absurd z (by decide)) (fun _ => And.intro (fun z => eX5_read ?_) (fun z => e106 g t lv m _ _ _ hb' r s ?_ ?_)))
    · rw [g3, s.2.1] at z
      have nt : N ≤ t := Nat.le_of_not_lt fun y => by have := tl t y; have := (nI_leI (by omega) (by omega)).mp z; omega
      have ok : LW.1 = true := by rw [eL]; exact decide_eq_true nt
      have ecs : LW.2.2 = cs := by rw [eL]
      have k83 : ∀ i, hI (wI g o_reader 9 (-1)) o_reader_starts i = hI hb' o_reader_starts i := fun i => (rd_o (by decide)).trans (s.1.2 83 i (by decide) (fun z => absurd z.1 (by decide)))
      have k82 : ∀ i, hI (wI g o_reader 9 (-1)) o_reader_steps i = hI g o_reader_steps i := fun i => rd_o (by decide)
      have := hgood (wI g o_reader 9 (-1)) m l4 (keep_w (keep_of kp1 r s)) (by rw [rd_k (by decide)]; exact s.2.2.2.1) (by omega) rd_same ok (by rw [ecs, show hI (wI g o_reader 9 (-1)) o_reader_steps = hI g o_reader_steps from funext k82, show hI (wI g o_reader 9 (-1)) o_reader_starts = hI hb' o_reader_starts from funext k83]; exact ci) (by rw [ecs]; exact c1) (by rw [ecs]; exact c12)
      rw [ecs] at this
      exact this
    · rw [g3, s.2.1] at z
      rw [eL]; exact decide_eq_false fun y => z (by
        have := tkS_end tN (t - N)
        rw [show N + (t - N) = t by omega] at this
        rw [this]; exact Int32.le_refl _)
    · rw [eL]
  have loop : ∀ f c t lv m g cs hb', f + (c + 1) = 12 → cs.length = c + 1 → rdL h1 hb' → rdT hb' b n t lv m g → hI hb' o_reader 7 = nI (2 * (c + 1)) → t ≤ N → lv ≤ 50 → m ≤ t → clsI (hI g o_reader_steps) (hI hb' o_reader_starts) m cs → (∀ R, pMore C V f t lv cs = R → LW = if R.1 = true then (decide (N ≤ R.2.1), R.2.1, R.2.2.2) else (false, R.2.1, [])) → E cx 36 d a 39 [some (.ref o_reader), some (.int (nI n)), some (.int 1), some (.int (nI (c + 1))), some (.int (nI c))] [] g Q := by
    intro f
    induction f with
    | zero =>
      intro c t lv m g cs hb' hf hc r s h7 ht hl hm ci eL
      have eL := eL _ rfl
      have qb := rdL_B r q1
      rw [pMore] at eL
      by_cases c59 : C t = 159
      · rw [if_pos c59, if_neg (fun z => by cases z)] at eL
        exact eX5_read (And.intro (fun z => absurd z (nI_ge (b := 12) (by omega) (by decide))) (fun _ => And.intro (fun z => absurd z (by decide)) (fun _ => wcV (r_isT qb s (by omega) (k := 25) (by decide) (by rw [hC]; exact c59)) (And.intro (fun z => absurd z (by decide)) (fun _ => wcV0 (r_adv qb s (by omega)) (And.intro (fun _ => e80 _ (t + 1) lv m _ _ _ hb' r (adv_S s) (by rw [eL]) (by rw [eL])) (fun z => absurd (nI_le (a := 12) (by omega) (by omega)) z)))))))
      · rw [if_neg c59, if_pos rfl] at eL
        have out := e91T g t lv m cs (some (.int (nI c))) hb' r s ht hm ci (by omega) (by omega) eL
        rw [hc] at out
        exact eX5_read (And.intro (fun _ => out) (fun _ => And.intro (fun z => absurd z (by decide)) (fun _ => wcV (r_isF qb s (by omega) (k := 25) (by decide) (by rw [hC]; exact c59)) (And.intro (fun _ => out) (fun z => absurd rfl z)))))
    | succ f ih =>
      intro c t lv m g cs hb' hf hc r s h7 ht hl hm ci eL
      have qb := rdL_B r q1
      by_cases c59 : C t = 159
      · have tl : t < N := tkn_lt qb (by rw [hC, c59]; decide)
        have s1 := adv_S s
        have mo := mcl (t + 1) lv (by omega)
        have lb := lcl (t + 1) lv hl
        have hM := rk_clause (cx := cx) (d := d - 1) qb (k := 2 * (c + 1)) (by omega) h7 (by omega) (show t + 1 ≤ N by omega) hl (show m ≤ t + 1 by omega) s1
        rw [hC, hV] at hM
        have eL2 := eL _ rfl
        rw [pMore, if_pos c59] at eL2
        refine eX5_read (And.intro (fun z => absurd z (nI_ge (b := 12) (by omega) (by decide))) (fun _ => And.intro (fun z => absurd z (by decide)) (fun _ => wcV (r_isT qb s (by omega) (k := 25) (by decide) (by rw [hC]; exact c59)) (And.intro (fun z => absurd z (by decide)) (fun _ => wcV0 (r_adv qb s (by omega)) (And.intro (fun z => absurd z (nI_ge (b := 12) (by omega) (by decide))) (fun _ => wcQ hM (fun v g2 z => ?_) (fun v g2 z => ?_))))))))
        · obtain ⟨rfl, m1, m2, s2, p1, p2, p3, p4, p5⟩ := z
          have r2 : rdL h1 (markH (markH hb' (2 * (c + 1)) m) (2 * (c + 1) + 1) m1) := rdL_mark (rdL_mark r)
          by_cases ok : (pClause C V (t + 1) lv).1 = true
          · rw [if_pos ok] at eL2
            have old : ∀ i, i < m → hI g2 o_reader_steps i = hI g o_reader_steps i := fun i hi => (p4 i hi).trans adv_82
            have e83 : ∀ i, hI (markH (markH hb' (2 * (c + 1)) m) (2 * (c + 1) + 1) m1) o_reader_starts i = if i = 2 * (c + 1) + 1 then nI m1 else if i = 2 * (c + 1) then nI m else hI hb' o_reader_starts i := fun i => by
              unfold markH
              rw [rd_o (by decide)]
              by_cases i1 : i = 2 * (c + 1) + 1
              · rw [i1, if_pos rfl, rd_same]
              · rw [if_neg i1, rd_k i1, rd_o (by decide)]
                by_cases i2 : i = 2 * (c + 1)
                · rw [i2, if_pos rfl, rd_same]
                · rw [if_neg i2, rd_k i2]
            have ci2 : clsI (hI g2 o_reader_steps) (hI (markH (markH hb' (2 * (c + 1)) m) (2 * (c + 1) + 1) m1) o_reader_starts) m2 (cs ++ [(pClause C V (t + 1) lv).2.2.2]) := by
              refine clsI_app ci old (fun i hi => ?_) ?_ ?_ p1 p2 (p5 ok)
              · rw [hc] at hi; rw [e83, if_neg (by omega), if_neg (by omega)]
              · rw [hc, e83, if_neg (by omega), if_pos rfl]
              · rw [hc, e83, if_pos rfl]
            have i2 := ih (c + 1) (pClause C V (t + 1) lv).2.1 (pClause C V (t + 1) lv).2.2.1 m2 g2 (cs ++ [(pClause C V (t + 1) lv).2.2.2]) _ (by omega) (by simp [hc]) r2 s2 (by unfold markH; rw [rd_same]; rfl) mo.2.1 lb (by omega) ci2 (fun R eR => by rw [eR] at eL2; exact eL2)
            refine And.intro (fun z => absurd z (by rw [ok]; decide)) (fun _ => eX5_read ?_)
            rw [nI_succ (c + 1), nI_succ c] at i2
            rw [nI_succ c]
            exact i2
          · rw [if_neg ok, if_neg (fun z => by cases z)] at eL2
            exact And.intro (fun _ => e80 g2 _ _ m2 _ _ _ _ r2 s2 (by rw [eL2]) (by rw [eL2])) (fun z => absurd (bI_n.mp z) ok)
        · obtain ⟨-, m1, m2, s2, -⟩ := z
          rw [rdT_N s2, rdT_N s1]; rfl
      · have eL2 := eL _ rfl
        rw [pMore, if_neg c59, if_pos rfl] at eL2
        have out := e91T g t lv m cs (some (.int (nI c))) hb' r s ht hm ci (by omega) (by omega) eL2
        rw [hc] at out
        exact eX5_read (And.intro (fun _ => out) (fun _ => And.intro (fun z => absurd z (by decide)) (fun _ => wcV (r_isF qb s (by omega) (k := 25) (by decide) (by rw [hC]; exact c59)) (And.intro (fun _ => out) (fun z => absurd rfl z)))))
  rw [clear] at adv0 c0
  refine sX5_read rfl (wcV0 adv0 (wcQ c0 (fun v g z => ?_) (fun v g z => ?_)))
  · rw [← clear] at z
    obtain ⟨rfl, m1, m2, s2, p1, p2, p3, p4, p5⟩ := z
    have r2 : rdL h1 (markH (markH h1 0 0) (0 + 1) m1) := rdL_mark (rdL_mark ⟨rfl, fun _ _ _ _ => rfl⟩)
    have mo := mcl 0 0 (Nat.zero_le _)
    have lb := lcl 0 0 (by decide)
    have eL := hL
    unfold pLaw at eL
    by_cases ok : (pClause C V 0 0).1 = true
    · rw [if_pos ok] at eL
      have e83 : ∀ i, hI (markH (markH h1 0 0) (0 + 1) m1) o_reader_starts i = if i = 1 then nI m1 else if i = 0 then nI 0 else hI h1 o_reader_starts i := fun i => by
        unfold markH
        rw [rd_o (by decide)]
        by_cases i1 : i = 1
        · rw [i1, if_pos rfl]; exact rd_same
        · rw [if_neg i1, rd_k i1, rd_o (by decide)]
          by_cases i2 : i = 0
          · rw [i2, if_pos rfl, rd_same]
          · rw [if_neg i2, rd_k i2]
      have ci0 : clsI (hI h1 o_reader_steps) (hI h1 o_reader_starts) 0 [] := ⟨fun _ => 0, rfl, fun i hi => absurd hi (Nat.not_lt_zero _), fun i hi => absurd hi (Nat.not_lt_zero _), fun c hc => absurd hc (Nat.not_lt_zero _)⟩
      have ci2 : clsI (hI g o_reader_steps) (hI (markH (markH h1 0 0) (0 + 1) m1) o_reader_starts) m2 ([] ++ [(pClause C V 0 0).2.2.2]) := clsI_app ci0 (fun i hi => absurd hi (Nat.not_lt_zero _)) (fun i hi => absurd hi (Nat.not_lt_zero _)) (by rw [e83]; rfl) (by rw [e83]; rfl) p1 p2 (p5 ok)
      have go := loop 11 0 (pClause C V 0 0).2.1 (pClause C V 0 0).2.2.1 m2 g [(pClause C V 0 0).2.2.2] _ rfl rfl r2 s2 (by unfold markH; first | (rw [rd_same]; done) | (rw [rd_same]; rfl)) mo.2.1 lb (by omega) ci2 (fun R eR => by rw [eR] at eL; exact eL.symm)
      rw [ok]
      exact go
    · rw [if_neg ok] at eL
      rw [show bI (pClause C V 0 0).1 = 0 from bI_0.mpr (ts_nt ok)]
      exact e39F g _ _ m2 _ _ _ r2 s2 (by rw [← eL]) (by rw [← eL])
  · obtain ⟨-, m1, m2, s2, -⟩ := z
    rw [rdT_N s2]; rfl
end T99998
