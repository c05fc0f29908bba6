/-! the model's tables over all sets -/
def keepS (h g : Hp) : Prop := g.2 = h.2 ∧ ∀ o k, ¬ (120 ≤ o ∧ o ≤ 123) → hI g o k = hI h o k
def winP (U : Int32 → Int32) (s : Int32) (k : Nat) : Prop := ∃ i, i < k ∧ bt s i = true ∧ lwf U (dif s (one i)) ∧ ¬ winA U (dif s (one i))
def comP (U : Int32 → Int32) (T s : Int32) (k : Nat) : Prop := (s = T ∧ lwf U s) ∨ (lwf U s ∧ ∃ i, i < k ∧ bt T i = true ∧ bt s i = false ∧ comA U T (s ||| one i))
section T69
variable {cx : Cx} {d a c : Nat} {h g f : Hp} {w : Wd}
theorem keepS_r : keepS h h := ⟨rfl, fun _ _ _ => rfl⟩
theorem keepS_t (p : keepS h g) (q : keepS g f) : keepS h f := ⟨q.1.trans p.1, fun o k n => (q.2 o k n).trans (p.2 o k n)⟩
theorem keepS_w {o k : Nat} {v : Int32} (ho : 120 ≤ o ∧ o ≤ 123) : keepS h (wI h o k v) := ⟨rfl, fun p q n => rd_o (fun e => n (by rw [e]; exact ho))⟩
theorem keepS_W (p : keepS h g) : kW g = kW h := funext fun k => p.2 _ k (by decide)
theorem keepS_M (p : keepS h g) : keepM h g := ⟨p.1, fun o k n1 n2 => p.2 o k (by omega)⟩
theorem keepS_lk {L : Option (List CS)} (p : keepS h g) (q : lkOk w L h) : lkOk w L g := lk_keep q fun o k h1 h2 => p.2 o k (by omega)
theorem one_nI {i : Nat} (hi : i < 31) : one i = nI (2 ^ i) := by
  have := pk_shlN (n := 1) (nI i &&& 31) i (s_l i (by omega)) (by rw [Nat.one_mul]; exact Nat.pow_lt_pow_right (by decide) (by omega))
  rw [Nat.one_mul] at this; exact this
theorem dif_nI {m : Nat} (x : Int32) : ∃ j, j ≤ m ∧ dif (nI m) x = nI j := by
  obtain ⟨y, hy, e⟩ := wb_of32 (x ^^^ -1)
  refine ⟨m &&& y, Nat.and_le_left, ?_⟩
  show nI m &&& (x ^^^ -1) = _
  rw [e, nx_and]
theorem rm_nI {m i : Nat} (hm : m < 2 ^ 14) (hi : i < 32) (q : bt (nI m) i = true) : ∃ j, j < m ∧ dif (nI m) (one i) = nI j := by
  obtain ⟨j, hj, e⟩ := dif_nI (m := m) (one i)
  refine ⟨j, Nat.lt_of_le_of_ne hj fun z => ?_, e⟩
  have : bt (dif (nI m) (one i)) i = bt (nI m) i := by rw [e, z]
  rw [bt_rm hi hi, q] at this; simp at this
theorem ad_nI {n m i : Nat} (hn : n ≤ 14) (hm : m < 2 ^ n) (hi : i < n) (q : bt (nI m) i = false) : ∃ j, m < j ∧ j < 2 ^ n ∧ nI m ||| one i = nI j := by
  have e : nI m ||| one i = nI (m ||| 2 ^ i) := by rw [one_nI (by omega), nx_or]
  have hl : m ||| 2 ^ i < 2 ^ n := Nat.or_lt_two_pow hm (Nat.pow_lt_pow_right (by decide) hi)
  refine ⟨m ||| 2 ^ i, Nat.lt_of_le_of_ne Nat.left_le_or fun z => ?_, hl, e⟩
  have : bt (nI m ||| one i) i = bt (nI m) i := by rw [e, ← z]
  rw [bt_ad (by omega) (by omega), q] at this; simp at this
theorem pow14 {n : Nat} (hn : n ≤ 14) : 2 ^ n ≤ 16384 := Nat.pow_le_pow_right (n := 2) (by decide) hn
theorem st_of {n : Nat} (en : w 157 = nI n) (e : kW g = w) : M cx jX12_stones (d - 1) 0 [.ref o_m] g (RQ (.int (nI n)) g) := by rw [← en, ← e]; exact n_stones
theorem nar_b2i {p : Prop} : vp_nar .boolean (b2i p) = b2i p := by
  rcases Classical.em p with hp | hp
  · rw [b2i_t hp]; rfl
  · rw [b2i_f hp]; rfl
theorem winP_s {U : Int32 → Int32} {s : Int32} {k : Nat} : winP U s (k + 1) ↔ winP U s k ∨ (bt s k = true ∧ lwf U (dif s (one k)) ∧ ¬ winA U (dif s (one k))) := by
  constructor
  · rintro ⟨i, hi, z⟩
    by_cases e : i = k
    · subst e; exact Or.inr z
    · exact Or.inl ⟨i, by omega, z⟩
  · rintro (⟨i, hi, z⟩ | z)
    · exact ⟨i, by omega, z⟩
    · exact ⟨k, by omega, z⟩
theorem winP_0 {U : Int32 → Int32} {s : Int32} : ¬ winP U s 0 := fun ⟨_, hi, _⟩ => absurd hi (Nat.not_lt_zero _)
theorem winP_n {U : Int32 → Int32} {s : Int32} {n : Nat} (hn : n ≤ 14) (l : low n s) : winP U s n ↔ winA U s := by
  rw [win_eq]
  constructor
  · rintro ⟨i, hi, z⟩; exact ⟨i, by omega, z⟩
  · rintro ⟨i, hi, z⟩; exact ⟨i, l i (by omega) z.1, z⟩
theorem comP_0 {U : Int32 → Int32} {T s : Int32} : comP U T s 0 ↔ s = T ∧ lwf U s := ⟨fun z => z.elim id fun ⟨_, _, hi, _⟩ => absurd hi (Nat.not_lt_zero _), Or.inl⟩
theorem comP_s {U : Int32 → Int32} {T s : Int32} {k : Nat} : comP U T s (k + 1) ↔ comP U T s k ∨ (lwf U s ∧ bt T k = true ∧ bt s k = false ∧ comA U T (s ||| one k)) := by
  constructor
  · rintro (z | ⟨l, i, hi, z⟩)
    · exact Or.inl (Or.inl z)
    · by_cases e : i = k
      · subst e; exact Or.inr ⟨l, z⟩
      · exact Or.inl (Or.inr ⟨l, i, by omega, z⟩)
  · rintro ((z | ⟨l, i, hi, z⟩) | ⟨l, z⟩)
    · exact Or.inl z
    · exact Or.inr ⟨l, i, by omega, z⟩
    · exact Or.inr ⟨l, k, by omega, z⟩
theorem comP_n {U : Int32 → Int32} {T s : Int32} {n : Nat} (hn : n ≤ 14) (l : low n T) : comP U T s n ↔ comA U T s := by
  rw [com_eq]
  constructor
  · rintro (z | ⟨lw, i, hi, z⟩)
    · exact Or.inl z
    · exact Or.inr ⟨lw, i, by omega, z⟩
  · rintro (z | ⟨lw, i, hi, z⟩)
    · exact Or.inl z
    · exact Or.inr ⟨lw, i, l i (by omega) z.1, z⟩
theorem e_setsWin {Q : Option Value → Hp → Prop} {n m : Nat} {U : Int32 → Int32} {G : Hp} {l1 l3 : Int32} (hd : 2 ≤ d) (en : w 157 = nI n) (hn : n ≤ 14) (hm : m < 2 ^ n) (eG : kW G = w)
    (hl : ∀ j, j < m → hI G o_m_lawful j = b2i (lwf U (nI j)) ∧ hI G o_m_wins j = b2i (winA U (nI j)))
    (K : E cx jX12_sets d a 173 [some (.ref o_m), some (.int l1), some (.int (nI m)), some (.int l3), some (.int (nI n))] [] (wI G o_m_wins m (b2i (winP U (nI m) n))) Q) :
    ∀ r k, r + k = n → E cx jX12_sets d a 97 [some (.ref o_m), some (.int l1), some (.int (nI m)), some (.int l3), some (.int (nI k))] [] (wI G o_m_wins m (b2i (winP U (nI m) k))) Q := by
  have h14 := pow14 hn
  have vm : vp_in (nI m) 16384 := vp_in_nI (by omega) (by decide)
  have cm : (nI m).toNatClampNeg = m := nI_clamp (by omega)
  intro r
  induction r with
  | zero =>
    intro k hk
    obtain rfl : k = n := by omega
    exact eX12_sets (wcV (st_of en (by rw [← eG]; exact funext fun i => rd_o (by decide))) (And.intro (fun _ => K) (fun q => absurd (Int32.le_refl _) q)))
  | succ r ih =>
    intro k hk
    have i := ih (k + 1) (by omega)
    have j166 : ∀ v, v = b2i (winP U (nI m) (k + 1)) → E cx jX12_sets d a 166 [some (.ref o_m), some (.int l1), some (.int (nI m)), some (.int l3), some (.int (nI k))] [.int v, .int (nI m), .ref o_m_wins] (wI G o_m_wins m (b2i (winP U (nI m) k))) Q := fun v ev => by
      rw [nI_succ] at i
      subst ev
      refine eX12_sets (And.intro vm (e_eq i rfl rfl ?_))
      rw [cm, nar_b2i, wI_wI]
    have j165 : ¬ winP U (nI m) (k + 1) → E cx jX12_sets d a 165 [some (.ref o_m), some (.int l1), some (.int (nI m)), some (.int l3), some (.int (nI k))] [.int (nI m), .ref o_m_wins] (wI G o_m_wins m (b2i (winP U (nI m) k))) Q := fun z => eX12_sets (j166 0 (b2i_f z).symm)
    have own : hI (wI G o_m_wins m (b2i (winP U (nI m) k))) o_m_wins (nI m).toNatClampNeg = b2i (winP U (nI m) k) := by rw [cm]; exact rd_same
    refine eX12_sets (wcV (st_of en (by rw [← eG]; exact funext fun i => rd_o (by decide))) (And.intro (fun q => absurd q (nI_ge (by omega) (by omega))) (fun _ => (And.intro vm (And.intro (fun q2 => (eX12_sets (j166 1 (b2i_t ?_).symm))) (fun q2 => (wcS n_isIn (And.intro (fun q3 => j165 ?_) (fun q3 => ?_)))))))))
    · have q2 : ¬ hI (wI G o_m_wins m (b2i (winP U (nI m) k))) o_m_wins (nI m).toNatClampNeg = 0 := q2
      rw [own] at q2
      exact winP_s.mpr (Or.inl (b2i_n q2))
    · have q2 : hI (wI G o_m_wins m (b2i (winP U (nI m) k))) o_m_wins (nI m).toNatClampNeg = 0 := q2
      rw [own] at q2
      rw [winP_s]
      rintro (z | z)
      · exact b2i_0.mp q2 z
      · exact b2i_0.mp q3 ((inB_bt (by omega)).mpr z.1)
    · have q2 : hI (wI G o_m_wins m (b2i (winP U (nI m) k))) o_m_wins (nI m).toNatClampNeg = 0 := q2
      rw [own] at q2
      have q3 := (inB_bt (s := nI m) (k := k) (by omega)).mp (b2i_n q3)
      obtain ⟨j, hj, ej⟩ := rm_nI (m := m) (i := k) (by omega) (by omega) q3
      have vj : vp_in (dif (nI m) (one k)) 16384 := by rw [ej]; exact vp_in_nI (by omega) (by decide)
      have cj : (dif (nI m) (one k)).toNatClampNeg = j := by rw [ej, nI_clamp (by omega)]
      obtain ⟨hl1, hl2⟩ := hl j hj
      rw [← ej] at hl1 hl2
      have r1 : hI (wI G o_m_wins m (b2i (winP U (nI m) k))) o_m_lawful (dif (nI m) (one k)).toNatClampNeg = b2i (lwf U (dif (nI m) (one k))) := by rw [cj, rd_o (by decide)]; exact hl1
      have r2 : hI (wI G o_m_wins m (b2i (winP U (nI m) k))) o_m_wins (dif (nI m) (one k)).toNatClampNeg = b2i (winA U (dif (nI m) (one k))) := by rw [cj, rd_k (by omega)]; exact hl2
      refine (And.intro vj (And.intro (fun q4 => j165 ?_) (fun q4 => (And.intro vj (And.intro (fun q5 => j165 ?_) (fun q5 => (eX12_sets (j166 1 (b2i_t ?_).symm))))))))
      · have q4 : hI (wI G o_m_wins m (b2i (winP U (nI m) k))) o_m_lawful (dif (nI m) (one k)).toNatClampNeg = 0 := q4
        rw [r1] at q4
        rw [winP_s]
        rintro (z | z)
        · exact b2i_0.mp q2 z
        · exact b2i_0.mp q4 z.2.1
      · have q5 : ¬ hI (wI G o_m_wins m (b2i (winP U (nI m) k))) o_m_wins (dif (nI m) (one k)).toNatClampNeg = 0 := q5
        rw [r2] at q5
        rw [winP_s]
        rintro (z | z)
        · exact b2i_0.mp q2 z
        · exact z.2.2 (b2i_n q5)
      · have q4 : ¬ hI (wI G o_m_wins m (b2i (winP U (nI m) k))) o_m_lawful (dif (nI m) (one k)).toNatClampNeg = 0 := q4
        have q5 : hI (wI G o_m_wins m (b2i (winP U (nI m) k))) o_m_wins (dif (nI m) (one k)).toNatClampNeg = 0 := q5
        rw [r1] at q4; rw [r2] at q5
        exact winP_s.mpr (Or.inr ⟨q3, b2i_n q4, b2i_0.mp q5⟩)
theorem e_setsCom {Q : Option Value → Hp → Prop} {n m : Nat} {U : Int32 → Int32} {G : Hp} {l1 : Int32} {l4 : Option Value} (hd : 2 ≤ d) (en : w 157 = nI n) (hn : n ≤ 14) (hm : m < 2 ^ n) (eG : kW G = w)
    (hl : hI G o_m_lawful m = b2i (lwf U (nI m))) (hc : ∀ j, m < j → j < 2 ^ n → hI G o_m_comes j = b2i (comA U (w 159) (nI j)))
    (K : E cx jX12_sets d a 300 [some (.ref o_m), some (.int l1), some (.int (nI m)), some (.int (nI n)), l4] [] (wI G o_m_comes m (b2i (comP U (w 159) (nI m) n))) Q) :
    ∀ r k, r + k = n → E cx jX12_sets d a 221 [some (.ref o_m), some (.int l1), some (.int (nI m)), some (.int (nI k)), l4] [] (wI G o_m_comes m (b2i (comP U (w 159) (nI m) k))) Q := by
  have h14 := pow14 hn
  have vm : vp_in (nI m) 16384 := vp_in_nI (by omega) (by decide)
  have cm : (nI m).toNatClampNeg = m := nI_clamp (by omega)
  intro r
  induction r with
  | zero =>
    intro k hk
    obtain rfl : k = n := by omega
    exact eX12_sets (wcV (st_of en (by rw [← eG]; exact funext fun i => rd_o (by decide))) (And.intro (fun _ => K) (fun q => absurd (Int32.le_refl _) q)))
  | succ r ih =>
    intro k hk
    have i := ih (k + 1) (by omega)
    have j293 : ∀ v, v = b2i (comP U (w 159) (nI m) (k + 1)) → E cx jX12_sets d a 293 [some (.ref o_m), some (.int l1), some (.int (nI m)), some (.int (nI k)), l4] [.int v, .int (nI m), .ref o_m_comes] (wI G o_m_comes m (b2i (comP U (w 159) (nI m) k))) Q := fun v ev => by
      rw [nI_succ] at i
      subst ev
      refine eX12_sets (And.intro vm (e_eq i rfl rfl ?_))
      rw [cm, nar_b2i, wI_wI]
    have j292 : ¬ comP U (w 159) (nI m) (k + 1) → E cx jX12_sets d a 292 [some (.ref o_m), some (.int l1), some (.int (nI m)), some (.int (nI k)), l4] [.int (nI m), .ref o_m_comes] (wI G o_m_comes m (b2i (comP U (w 159) (nI m) k))) Q := fun z => eX12_sets (j293 0 (b2i_f z).symm)
    have own : hI (wI G o_m_comes m (b2i (comP U (w 159) (nI m) k))) o_m_comes (nI m).toNatClampNeg = b2i (comP U (w 159) (nI m) k) := by rw [cm]; exact rd_same
    have law : hI (wI G o_m_comes m (b2i (comP U (w 159) (nI m) k))) o_m_lawful (nI m).toNatClampNeg = b2i (lwf U (nI m)) := by rw [cm, rd_o (by decide)]; exact hl
    have eT : hI (wI G o_m_comes m (b2i (comP U (w 159) (nI m) k))) (ly_rf o_m 3) (159 : Int32).toNatClampNeg = w 159 := by
      show hI (wI G o_m_comes m (b2i (comP U (w 159) (nI m) k))) o_m_kept 159 = _
      rw [rd_o (by decide), ← eG]
    refine eX12_sets (wcV (st_of en (by rw [← eG]; exact funext fun i => rd_o (by decide))) (And.intro (fun q => absurd q (nI_ge (by omega) (by omega))) (fun _ => (And.intro vm (And.intro (fun q2 => (eX12_sets (j293 1 (b2i_t ?_).symm))) (fun q2 => (And.intro vm (And.intro (fun q3 => j292 ?_) (fun q3 => (And.intro v159 (wcS n_isIn (And.intro (fun q4 => j292 ?_) (fun q4 => (wcS n_isIn (And.intro (fun q5 => j292 ?_) (fun q5 => ?_))))))))))))))))
    · have q2 : ¬ hI (wI G o_m_comes m (b2i (comP U (w 159) (nI m) k))) o_m_comes (nI m).toNatClampNeg = 0 := q2
      rw [own] at q2
      exact comP_s.mpr (Or.inl (b2i_n q2))
    all_goals
      have q2 : hI (wI G o_m_comes m (b2i (comP U (w 159) (nI m) k))) o_m_comes (nI m).toNatClampNeg = 0 := q2
      rw [own] at q2
    · have q3 : hI (wI G o_m_comes m (b2i (comP U (w 159) (nI m) k))) o_m_lawful (nI m).toNatClampNeg = 0 := q3
      rw [law] at q3
      rw [comP_s]
      rintro (z | z)
      · exact b2i_0.mp q2 z
      · exact b2i_0.mp q3 z.1
    · have q4 := b2i_0.mp q4
      rw [eT] at q4
      rw [comP_s]
      rintro (z | z)
      · exact b2i_0.mp q2 z
      · exact q4 ((inB_bt (by omega)).mpr z.2.1)
    · have q5 := (inB_bt (s := nI m) (k := k) (by omega)).mp (b2i_n q5)
      rw [comP_s]
      rintro (z | z)
      · exact b2i_0.mp q2 z
      · rw [q5] at z; cases z.2.2.1
    · have q3 : ¬ hI (wI G o_m_comes m (b2i (comP U (w 159) (nI m) k))) o_m_lawful (nI m).toNatClampNeg = 0 := q3
      rw [law] at q3
      have q4 := b2i_n q4
      rw [eT] at q4
      have q4 := (inB_bt (s := w 159) (k := k) (by omega)).mp q4
      have q5 : bt (nI m) k = false := ts_nt fun z => b2i_0.mp q5 ((inB_bt (by omega)).mpr z)
      obtain ⟨j, hj, hj2, ej⟩ := ad_nI (m := m) (i := k) hn hm (by omega) q5
      have vj : vp_in (nI m ||| one k) 16384 := by rw [ej]; exact vp_in_nI (by omega) (by decide)
      have cj : (nI m ||| one k).toNatClampNeg = j := by rw [ej, nI_clamp (by omega)]
      have hcj := hc j hj hj2
      rw [← ej] at hcj
      have r1 : hI (wI G o_m_comes m (b2i (comP U (w 159) (nI m) k))) o_m_comes (nI m ||| one k).toNatClampNeg = b2i (comA U (w 159) (nI m ||| one k)) := by rw [cj, rd_k (by omega)]; exact hcj
      refine (And.intro vj (And.intro (fun q6 => j292 ?_) (fun q6 => (eX12_sets (j293 1 (b2i_t ?_).symm)))))
      · have q6 : hI (wI G o_m_comes m (b2i (comP U (w 159) (nI m) k))) o_m_comes (nI m ||| one k).toNatClampNeg = 0 := q6
        rw [r1] at q6
        rw [comP_s]
        rintro (z | z)
        · exact b2i_0.mp q2 z
        · exact b2i_0.mp q6 z.2.2.2
      · have q6 : ¬ hI (wI G o_m_comes m (b2i (comP U (w 159) (nI m) k))) o_m_comes (nI m ||| one k).toNatClampNeg = 0 := q6
        rw [r1] at q6
        exact comP_s.mpr (Or.inr ⟨b2i_n q3, q4, q5, b2i_n q6⟩)
end T69
