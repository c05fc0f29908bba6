/-! the model: fell, game, night -/
noncomputable def cntD (P : Nat → Prop) : Nat → Nat → Nat
  | 0, _ => 0
  | m + 1, k => @ite _ (P k) (Classical.propDecidable _) (cntD P m (k + 1) + 1) (cntD P m (k + 1))
def flP (w : Wd) (U : Int32 → Int32) (k : Nat) : Prop := cPart w (nI k) ∧ fallA U (dif (w 159) (nI k)) = 0
noncomputable def felA (r : Int32 × Int32) (q : Int32) : Int32 := if q = 0 then onesR r.1 22 else if q = 1 then r.1 else r.2
/-- a stone that may be taken; one that wins -/
def mayT (U : Int32 → Int32) (T : Int32) (k : Nat) : Prop := bt T k = true ∧ lwf U (dif T (one k))
def mayW (U : Int32 → Int32) (T : Int32) (k : Nat) : Prop := mayT U T k ∧ ¬ winA U (dif T (one k))
noncomputable def gamA (U : Int32 → Int32) (T : Int32) (n : Nat) (q : Int32) : Int32 := if q = 0 then b2i (winA U T) else if q = 1 then fst (mayW U T) n 0 else nI (cnt (mayT U T) n)
def sgA (U : Int32 → Int32) (T s : Int32) (k : Nat) : Prop := bt T k = true ∧ fallA U (dif T (one k)) = s
def prA (U : Int32 → Int32) (T s : Int32) (i k : Nat) : Prop := i < k ∧ bt T i = true ∧ bt T k = true ∧ fallA U (dif T (prB i k)) = s
noncomputable def cP2 (U : Int32 → Int32) (T s : Int32) (n : Nat) : Nat → Nat
  | 0 => 0
  | i + 1 => cP2 U T s n i + cnt (prA U T s i) n
noncomputable def fB2 (U : Int32 → Int32) (T s : Int32) (i b : Nat) : Int32 := if fst (prA U T s i) b 0 = -1 then -1 else prB i (fst (prA U T s i) b 0).toNatClampNeg
noncomputable def fP2 (U : Int32 → Int32) (T s : Int32) (n : Nat) : Nat → Int32
  | 0 => -1
  | i + 1 => if fP2 U T s n i = -1 then fB2 U T s i n else fP2 U T s n i
noncomputable def nigA (U : Int32 → Int32) (T s : Int32) (n : Nat) (q : Int32) : Int32 := if q = 0 then nI (cnt (sgA U T s) n) else if q = 1 then fst (sgA U T s) n 0 else if q = 2 then nI (cP2 U T s n n) else fP2 U T s n n
section T72
variable {cx : Cx} {d a c : Nat} {h g f : Hp} {w : Wd}
theorem nI_m1 {k : Nat} (hk : k < 2 ^ 31) : ¬ nI k = -1 := fun z => by
  have := congrArg Int32.toInt z
  rw [nI_toInt hk] at this
  have e : (-1 : Int32).toInt = -1 := rfl
  omega
theorem cntD_t {P : Nat → Prop} {m k : Nat} (q : P k) : cntD P (m + 1) k = cntD P m (k + 1) + 1 := if_pos q
theorem cntD_f {P : Nat → Prop} {m k : Nat} (q : ¬ P k) : cntD P (m + 1) k = cntD P m (k + 1) := if_neg q
theorem cntD_app {P : Nat → Prop} : ∀ m k, cntD P (m + 1) k = cntD P m k + @ite _ (P (k + m)) (Classical.propDecidable _) 1 0 := by
  intro m
  induction m with
  | zero => intro k; by_cases p : P k
            · rw [cntD_t p]; simp [cntD, p]
            · rw [cntD_f p]; simp [cntD, p]
  | succ m ih =>
    intro k
    have e := ih (k + 1)
    rw [show k + 1 + m = k + (m + 1) by omega] at e
    by_cases p : P k
    · rw [cntD_t p, e, cntD_t p]; omega
    · rw [cntD_f p, e, cntD_f p]
theorem cntD_cnt {P : Nat → Prop} : ∀ n, cntD P n 0 = cnt P n := by
  intro n
  induction n with
  | zero => rfl
  | succ n ih =>
    rw [cntD_app, ih, Nat.zero_add]
    by_cases p : P n
    · rw [cnt_t p, if_pos p]
    · rw [cnt_f p, if_neg p]; rfl
theorem fst_none {P : Nat → Prop} : ∀ m k, k + m < 2 ^ 31 → fst P m k = -1 → ∀ j, k ≤ j → j < k + m → ¬ P j := by
  intro m
  induction m with
  | zero => intro k _ _ j h1 h2; omega
  | succ m ih =>
    intro k hk e j h1 h2 pj
    by_cases p : P k
    · rw [fst_t p] at e; exact nI_m1 (by omega) e
    · rw [fst_f p] at e
      by_cases ej : j = k
      · rw [ej] at pj; exact p pj
      · exact ih (k + 1) (by omega) e j (by omega) (by omega) pj
theorem fst_some {P : Nat → Prop} : ∀ m k, ¬ fst P m k = -1 → ∃ j, k ≤ j ∧ j < k + m ∧ fst P m k = nI j ∧ P j ∧ ∀ i, k ≤ i → i < j → ¬ P i := by
  intro m
  induction m with
  | zero => intro k e; exact absurd rfl e
  | succ m ih =>
    intro k e
    by_cases p : P k
    · exact ⟨k, Nat.le_refl _, by omega, fst_t p, p, fun i h1 h2 => by omega⟩
    · rw [fst_f p] at e ⊢
      obtain ⟨j, h1, h2, h3, h4, h5⟩ := ih (k + 1) e
      refine ⟨j, by omega, by omega, h3, h4, fun i g1 g2 => ?_⟩
      by_cases ei : i = k
      · rw [ei]; exact p
      · exact h5 i (by omega) g2
theorem fst_is {P : Nat → Prop} {j : Nat} : ∀ m k, k ≤ j → j < k + m → P j → (∀ i, k ≤ i → i < j → ¬ P i) → fst P m k = nI j := by
  intro m
  induction m with
  | zero => intro k h1 h2; omega
  | succ m ih =>
    intro k h1 h2 pj hn
    by_cases e : k = j
    · subst e; exact fst_t pj
    · rw [fst_f (hn k (Nat.le_refl _) (by omega))]
      exact ih (k + 1) (by omega) (by omega) pj (fun i g1 g2 => hn i (by omega) g2)
theorem fst_no {P : Nat → Prop} : ∀ m k, (∀ i, k ≤ i → i < k + m → ¬ P i) → fst P m k = -1 := by
  intro m
  induction m with
  | zero => intro k _; rfl
  | succ m ih => intro k hn; rw [fst_f (hn k (Nat.le_refl _) (by omega))]; exact ih (k + 1) (fun i g1 g2 => hn i (by omega) (by omega))
theorem fst_app {P : Nat → Prop} {m : Nat} (hm : m < 2 ^ 30) : fst P (m + 1) 0 = if fst P m 0 = -1 then @ite _ (P m) (Classical.propDecidable _) (nI m) (-1) else fst P m 0 := by
  by_cases e : fst P m 0 = -1
  · rw [if_pos e]
    have nn := fst_none m 0 (by omega) e
    by_cases p : P m
    · rw [if_pos p]; exact fst_is (m + 1) 0 (by omega) (by omega) p (fun i _ h => nn i (by omega) (by omega))
    · rw [if_neg p]; exact fst_no (m + 1) 0 (fun i _ h => by
        by_cases ei : i = m
        · rw [ei]; exact p
        · exact nn i (by omega) (by omega))
  · rw [if_neg e]
    obtain ⟨j, h1, h2, h3, h4, h5⟩ := fst_some m 0 e
    rw [h3]; exact fst_is (m + 1) 0 h1 (by omega) h4 h5
theorem fst_cut {P : Nat → Prop} {n N : Nat} (h : n ≤ N) (hN : N < 2 ^ 30) (q : ∀ k, P k → k < N → k < n) : fst P N 0 = fst P n 0 := by
  by_cases e : fst P n 0 = -1
  · rw [e]; exact fst_no N 0 fun i _ hi p => fst_none n 0 (by omega) e i (by omega) (by have := q i p (by omega); omega) p
  · obtain ⟨j, h1, h2, h3, h4, h5⟩ := fst_some n 0 e
    rw [h3]; exact fst_is N 0 h1 (by omega) h4 h5
theorem cnt_cut {P : Nat → Prop} {n : Nat} : ∀ m, (∀ k, P k → k < n + m → k < n) → cnt P (n + m) = cnt P n := by
  intro m
  induction m with
  | zero => intro _; rfl
  | succ m ih =>
    intro q
    have : ¬ P (n + m) := fun p => by have := q (n + m) p (by omega); omega
    rw [show n + (m + 1) = n + m + 1 from rfl, cnt_f this]
    exact ih fun k p hk => q k p (by omega)
/-! fell -/
theorem n_fell_no (hd : 1 ≤ d) {q : Int32} (no : ¬ (0 ≤ q ∧ q ≤ 2)) : M cx jX12_fell d a [.ref o_m, .int q] h (RQ (.int (-1)) h) :=
  sX12_fell rfl (wcS n_lies (And.intro (fun q1 => absurd (b2i_n q1) no) (fun q1 => ⟨rfl, rfl⟩)))
theorem n_fell_ok (hd : 63 ≤ d) {n : Nat} {q : Int32} (eW : kW h = w) (wf : wfW w) (cc : mC c w h) (en : w 157 = nI n) (hn : n ≤ 14) (lT : low n (w 159)) (hq : 0 ≤ q ∧ q ≤ 2) : M cx jX12_fell d a [.ref o_m, .int q] h (qM c w h (felA (fewF (flP w (aU w (lawOf w))) (2 ^ n)) q)) := by
  refine sX12_fell rfl (wcS n_lies (And.intro (fun q1 => (eX12_fell (wcQ (n_sets (by omega) eW wf cc en hn lT) (fun v G z => ?_) (fun v G z => keepM_N z.2.1)))) (fun q1 => absurd hq (b2i_0.mp q1))))
  obtain ⟨rfl, kM, cG, lk, st⟩ := z
  have eG : kW G = w := (keepM_W kM).trans eW
  have eT : hI G (ly_rf o_m 3) (159 : Int32).toNatClampNeg = w 159 := by show kW G 159 = _; rw [eG]
  have h14 := pow14 hn
  have p2 : (1 : Int32) <<< (nI n &&& 31) = nI (2 ^ n) := one_nI (by omega)
  generalize eF : fewF (flP w (aU w (lawOf w))) = F
  have fin : ∀ r, r = felA (F (2 ^ n)) q → qM c w h (felA (F (2 ^ n)) q) (some (.int r)) G := fun r e => ⟨by rw [e], kM, cG⟩
  have loop : ∀ r m, r + m = 2 ^ n → E cx jX12_fell d a 22 [some (.ref o_m), some (.int q), some (.int (F m).1), some (.int (F m).2), some (.int (nI m))] [] G (qM c w h (felA (F (2 ^ n)) q)) := by
    intro r
    induction r with
    | zero =>
      intro m hm
      obtain rfl : m = 2 ^ n := by omega
      refine eX12_fell (wcV (st_of en eG) (And.intro (fun q1 => (eX12_fell (And.intro (fun q2 => (eX12_fell (And.intro (fun q3 => (eX12_fell (eX12_fell (fin _ ?_)))) (fun q3 => (eX12_fell (fin _ ?_)))))) (fun q2 => (wcS n_ones (eX12_fell (fin _ ?_))))))) (fun q1 => absurd (by rw [p2]; exact Int32.le_refl _) q1)))
      · unfold felA; rw [if_neg q2, if_neg q3]
      · unfold felA; rw [if_neg q2, if_pos q3]
      · unfold felA; rw [if_pos q2]
    | succ r ih =>
      intro m hm
      have i := ih (m + 1) (by omega)
      rw [nI_succ] at i
      have skip : F (m + 1) = F m → E cx jX12_fell d a 108 [some (.ref o_m), some (.int q), some (.int (F m).1), some (.int (F m).2), some (.int (nI m))] [] G (qM c w h (felA (F (2 ^ n)) q)) := fun e => by
        rw [e] at i
        exact eX12_fell i
      have new : F (m + 1) = (nI m, 1) → E cx jX12_fell d a 100 [some (.ref o_m), some (.int q), some (.int (F m).1), some (.int (F m).2), some (.int (nI m))] [] G (qM c w h (felA (F (2 ^ n)) q)) := fun e => by
        rw [e] at i
        exact eX12_fell (eX12_fell (eX12_fell i))
      have more : F (m + 1) = ((F m).1, (F m).2 + 1) → E cx jX12_fell d a 105 [some (.ref o_m), some (.int q), some (.int (F m).1), some (.int (F m).2), some (.int (nI m))] [] G (qM c w h (felA (F (2 ^ n)) q)) := fun e => by
        rw [e] at i
        exact eX12_fell (eX12_fell i)
      have aT : M cx jX12_areThere (d - 1) 0 [.ref o_m, .int (nI m)] G (RQ (.int (b2i (cPart w (nI m)))) G) := by rw [← eG]; exact n_areThere (by omega)
      obtain ⟨j, hj, ej⟩ := low_nI (by omega) (low_sub (sub_dif (t := nI m)) lT)
      have ej2 : hI G (ly_rf o_m 3) (159 : Int32).toNatClampNeg &&& (nI m ^^^ -1) = nI j := by rw [eT]; exact ej
      have vj : vp_in (hI G (ly_rf o_m 3) (159 : Int32).toNatClampNeg &&& (nI m ^^^ -1)) 16384 := by rw [ej2]; exact vp_in_nI (by omega) (by decide)
      have tv : hI G (ly_rf o_m 29) (hI G (ly_rf o_m 3) (159 : Int32).toNatClampNeg &&& (nI m ^^^ -1)).toNatClampNeg = fallA (aU w (lawOf w)) (dif (w 159) (nI m)) := by
        rw [ej2, nI_clamp (by omega), ej]; exact (st n en hn j hj).2.1
      refine eX12_fell (wcV (st_of en eG) (And.intro (fun q1 => absurd q1 (by rw [p2]; exact nI_ge (by omega) (by omega))) (fun q1 => (wcV aT (And.intro (fun q2 => skip (by rw [← eF]; exact fewF_no fun z => b2i_0.mp q2 z.1)) (fun q2 => (And.intro v159 (And.intro vj (And.intro (fun q3 => skip (by rw [← eF]; exact fewF_no fun z => q3 (tv.trans z.2))) (fun q3 => ?_))))))))))
      have ey := fewF_yes (P := flP w (aU w (lawOf w))) (k := m) ⟨b2i_n q2, tv.symm.trans q3⟩
      rw [eF] at ey
      refine (And.intro (fun q4 => (eX12_fell (And.intro (fun q5 => new ?_) (fun q5 => absurd q4 q5)))) (fun q4 => (wcS n_ones (wcS n_ones (And.intro (fun q5 => (eX12_fell (And.intro (fun q6 => absurd q6 q4) (fun q6 => (wcS n_ones (wcS n_ones (And.intro (fun q7 => more ?_) (fun q7 => new ?_)))))))) (fun q5 => skip ?_))))))
      · rw [ey, if_pos q4]
      · rw [ey, if_neg q4, if_neg (Int32.not_lt.mpr q5), if_neg (Int32.not_lt.mpr q7)]
      · rw [ey, if_neg q4, if_neg (Int32.not_lt.mpr q5), if_pos (Int32.not_le.mp q7)]
      · rw [ey, if_neg q4, if_pos (Int32.not_le.mp q5)]
  refine e_eq (loop (2 ^ n) 0 rfl) (by rw [← eF]; rfl) rfl rfl
/-! game -/
theorem n_game_no (hd : 1 ≤ d) {q : Int32} (no : ¬ (0 ≤ q ∧ q ≤ 2)) : M cx jX12_game d a [.ref o_m, .int q] h (RQ (.int (-1)) h) :=
  sX12_game rfl (wcS n_lies (And.intro (fun q1 => absurd (b2i_n q1) no) (fun q1 => ⟨rfl, rfl⟩)))
theorem n_game_ok (hd : 63 ≤ d) {n : Nat} {q : Int32} (eW : kW h = w) (wf : wfW w) (cc : mC c w h) (en : w 157 = nI n) (hn : n ≤ 14) (lT : low n (w 159)) (hq : 0 ≤ q ∧ q ≤ 2) : M cx jX12_game d a [.ref o_m, .int q] h (qM c w h (gamA (aU w (lawOf w)) (w 159) n q)) := by
  refine sX12_game rfl (wcS n_lies (And.intro (fun q1 => (eX12_game (wcQ (n_sets (by omega) eW wf cc en hn lT) (fun v G z => ?_) (fun v G z => keepM_N z.2.1)))) (fun q1 => absurd hq (b2i_0.mp q1))))
  obtain ⟨rfl, kM, cG, lk, st⟩ := z
  have eG : kW G = w := (keepM_W kM).trans eW
  have eT : hI G (ly_rf o_m 3) (159 : Int32).toNatClampNeg = w 159 := by show kW G 159 = _; rw [eG]
  have h14 := pow14 hn
  obtain ⟨t, ht, et⟩ := low_nI (by omega) lT
  generalize eU : aU w (lawOf w) = U at st
  generalize eT2 : w 159 = T at et lT eT
  have st : ∀ m, m < 2 ^ n → hI G o_m_lawful m = b2i (lwf U (nI m)) ∧ hI G o_m_wins m = b2i (winA U (nI m)) := fun m hm => by
    obtain ⟨t1, t2, t3, t4⟩ := st n en hn m hm
    rw [eU] at t1 t3
    exact ⟨t1, t3⟩
  have fin : ∀ r, r = gamA U T n q → qM c w h (gamA U T n q) (some (.int r)) G := fun r e => ⟨by rw [e], kM, cG⟩
  have loop : ∀ k, k ≤ n → E cx jX12_game d a 37 [some (.ref o_m), some (.int q), some (.int T), some (.int (nI (cntD (mayT U T) (n - k) k))), some (.int (fst (mayW U T) (n - k) k)), some (.int (nI k + (-1)))] [] G (qM c w h (gamA U T n q)) := by
    intro k
    induction k with
    | zero =>
      intro _
      refine eX12_game (And.intro (fun q1 => ?_) (fun q1 => absurd (by decide) q1))
      have vT : vp_in T 16384 := by rw [et]; exact vp_in_nI (by omega) (by decide)
      have tv : hI G (ly_rf o_m 30) T.toNatClampNeg = b2i (winA U T) := by rw [et, nI_clamp (by omega)]; exact (st t ht).2
      rw [Nat.sub_zero, cntD_cnt]
      refine eX12_game (And.intro (fun q1 => (eX12_game (And.intro (fun q2 => (eX12_game (eX12_game (fin _ ?_)))) (fun q2 => (eX12_game (fin _ ?_)))))) (fun q1 => (And.intro vT (And.intro (fun q2 => (eX12_game (eX12_game (fin _ ?_)))) (fun q2 => (eX12_game (fin _ ?_)))))))
      · unfold gamA; rw [if_neg q1, if_neg q2]
      · unfold gamA; rw [if_neg q1, if_pos q2]
      · unfold gamA; rw [if_pos q1, ← tv]; exact q2.symm
      · unfold gamA; rw [if_pos q1]; exact (b2i_t (b2i_n (fun z => q2 (tv.trans z)))).symm
    | succ k ih =>
      intro hk
      have i := ih (by omega)
      have en2 : n - k = n - (k + 1) + 1 := by omega
      rw [en2] at i
      rw [pk_m1]
      have skip : ¬ mayT U T k → E cx jX12_game d a 98 [some (.ref o_m), some (.int q), some (.int T), some (.int (nI (cntD (mayT U T) (n - (k + 1)) (k + 1)))), some (.int (fst (mayW U T) (n - (k + 1)) (k + 1))), some (.int (nI k))] [] G (qM c w h (gamA U T n q)) := fun z => by
        rw [cntD_f z, fst_f (fun y => z y.1)] at i
        exact eX12_game i
      have j96 : ∀ v, mayT U T k → v = fst (mayW U T) (n - (k + 1) + 1) k → E cx jX12_game d a 96 [some (.ref o_m), some (.int q), some (.int T), some (.int (nI (cntD (mayT U T) (n - (k + 1)) (k + 1)) + 1)), some (.int (fst (mayW U T) (n - (k + 1)) (k + 1))), some (.int (nI k))] [.int v] G (qM c w h (gamA U T n q)) := fun v y e => by
        rw [cntD_t y, nI_succ, ← e] at i
        exact eX12_game (eX12_game i)
      refine eX12_game (And.intro (fun z => absurd z (nI_pos (by omega))) (fun q1 => (wcS n_isIn (And.intro (fun q2 => skip fun z => b2i_0.mp q2 ((inB_bt (by omega)).mpr z.1)) (fun q2 => ?_)))))
      have q2 := (inB_bt (s := T) (k := k) (by omega)).mp (b2i_n q2)
      obtain ⟨j, hj, ej⟩ := low_nI (by omega) (low_sub (sub_dif (t := one k)) lT)
      have vj : vp_in (dif T (one k)) 16384 := by rw [ej]; exact vp_in_nI (by omega) (by decide)
      have tl : hI G (ly_rf o_m 28) (dif T (one k)).toNatClampNeg = b2i (lwf U (dif T (one k))) := by rw [ej, nI_clamp (by omega)]; exact (st j hj).1
      have tw : hI G (ly_rf o_m 30) (dif T (one k)).toNatClampNeg = b2i (winA U (dif T (one k))) := by rw [ej, nI_clamp (by omega)]; exact (st j hj).2
      refine (And.intro vj (And.intro (fun q3 => ?_) (fun q3 => skip fun z => b2i_0.mp (tl.symm.trans q3) z.2)))
      have y : mayT U T k := ⟨q2, b2i_n (fun z => q3 (tl.trans z))⟩
      refine (eX12_game (And.intro vj (And.intro (fun q4 => (eX12_game (j96 _ y ?_))) (fun q4 => (j96 _ y ?_)))))
      · exact (fst_t (P := mayW U T) ⟨y, b2i_0.mp (tw.symm.trans q4)⟩).symm
      · exact (fst_f (P := mayW U T) (fun z => z.2 (b2i_n (fun x => q4 (tw.trans x))))).symm
  have i := loop n (Nat.le_refl _)
  rw [Nat.sub_self, ← Int32.sub_eq_add_neg] at i
  refine (And.intro v159 (wcV (st_of en eG) (e_eq i ?_ rfl rfl)))
  rw [eT]; rfl
end T72
