/-! winters on both sides -/
section T9991
variable {cx : Cx} {d a c : Nat} {h g f : Hp} {w w' : Wd} {A A' : Ab} {n s t : Nat}
theorem fr_eq {x seed : Int32} (qf : wFm w h) (hn : n ≤ 14) (lx : low n x) : frS h x seed 14 = frA (fun k => w (7 * k + 6)) x seed n := by
  have up : ∀ k, k ≤ 14 → frS h x seed k = frA (fun k => w (7 * k + 6)) x seed k := by
    intro k
    induction k with
    | zero => intro _; rfl
    | succ k ih =>
      intro hk
      have i := ih (by omega)
      have fa : fFact h (nI k) 6 = w (7 * k + 6) := fact_w qf (j := 6) (by omega) (by decide)
      by_cases b : bt x k = true
      · rw [frS, if_neg ((shr_bt (by omega)).mpr b), frA_yes b, i, fa]
      · rw [frS, if_pos (Classical.byContradiction fun z => b ((shr_bt (by omega)).mp z)), frA_no b, i]
  have dn : ∀ m, n + m ≤ 14 → frA (fun k => w (7 * k + 6)) x seed (n + m) = frA (fun k => w (7 * k + 6)) x seed n := by
    intro m
    induction m with
    | zero => intro _; rfl
    | succ m ih =>
      intro hm
      rw [show n + (m + 1) = n + m + 1 from rfl, frA_no fun z => by have := lx (n + m) (by omega) z; omega]
      exact ih (by omega)
  rw [up 14 (by omega)]
  have := dn (14 - n) (by omega)
  rwa [show n + (14 - n) = 14 by omega] at this
theorem bt_all {k : Nat} (hn : n ≤ 14) (hk : k < 32) : bt (one n - 1) k = decide (k < n) := by
  have p1 : 0 < 2 ^ n := Nat.two_pow_pos n
  rw [one_nI (by omega), show (1 : Int32) = nI 1 from rfl, pk_sub (by omega), bt_nI hk, Nat.testBit_two_pow_sub_one]
theorem tp_eq {x : Int32} (q : wX w n s t h) (hn : n ≤ 14) (lx : low n x) : (tpR h x ((one n - 1) &&& (x ^^^ -1)) 14).1 = bkO (bkA (aU w (lawOf w)) x n) := by
  generalize eU : aU w (lawOf w) = U
  have hU : Uok U := by rw [← eU]; exact Uok_aU
  have av : ∀ k, k < n → bt x k = false → one k &&& ((one n - 1) &&& (x ^^^ -1)) = one k := fun k hk b => rm_one (by omega) (by rw [b_and, bt_all hn (by omega), b_not x (by omega), b]; simp [hk])
  have no : ∀ k, k < 14 → (n ≤ k ∨ bt x k = true) → one k &&& ((one n - 1) &&& (x ^^^ -1)) = 0 := fun k hk b => rm_no (by omega) (by
    rw [b_and, bt_all hn (by omega), b_not x (by omega)]
    rcases b with b | b
    · simp; omega
    · rw [b]; simp)
  have val : ∀ k, k < n → bcw (uns h (x ||| one k)) = onesR (U (x ||| one k)) 22 := fun k hk => by
    have l : low n (x ||| one k) := low_or lx (low_one hk (by omega))
    rw [uns_low q _ l, eU]
    refine bcw_ones fun i hi b => ?_
    have := l i hi (hU _ i hi b).2
    omega
  have up : ∀ k, k ≤ n → (bkA U x k = -1 ∧ tpR h x ((one n - 1) &&& (x ^^^ -1)) k = (0, 23)) ∨ ∃ j, j < k ∧ bkA U x k = nI j ∧ tpR h x ((one n - 1) &&& (x ^^^ -1)) k = (one j, onesR (U (x ||| one j)) 22) := by
    intro k
    induction k with
    | zero => intro _; exact Or.inl ⟨rfl, rfl⟩
    | succ k ih =>
      intro hk
      have i := ih (by omega)
      by_cases b : bt x k = true
      · have e1 : bkA U x (k + 1) = bkA U x k := by rw [bkA, if_neg (fun z => by rw [b] at z; cases z.1)]
        have e2 : tpR h x ((one n - 1) &&& (x ^^^ -1)) (k + 1) = tpR h x ((one n - 1) &&& (x ^^^ -1)) k := by rw [tpR, if_neg (fun z => z.1 (no k (by omega) (Or.inr b)))]
        rw [e1, e2]
        exact i.elim Or.inl fun ⟨j, hj, z⟩ => Or.inr ⟨j, by omega, z⟩
      · have b : bt x k = false := ts_nt b
        have a1 := av k (by omega) b
        have v1 := val k (by omega)
        rcases i with ⟨i1, i2⟩ | ⟨j, hj, i1, i2⟩
        · refine Or.inr ⟨k, by omega, ?_, ?_⟩
          · rw [bkA, if_pos ⟨b, Or.inl i1⟩]
          · have lt : onesR (U (x ||| one k)) 22 < 23 := by
              rw [ones_sz]; exact nI_lt (b := 23) (by have := sz_le (U (x ||| one k)); omega) (by decide)
            rw [tpR, i2, a1, v1, if_pos ⟨one_ne (by omega), lt⟩]
        · by_cases lt : onesR (U (x ||| one k)) 22 < onesR (U (x ||| one j)) 22
          · refine Or.inr ⟨k, by omega, ?_, ?_⟩
            · rw [bkA, i1, if_pos ⟨b, Or.inr lt⟩]
            · rw [tpR, i2, a1, v1, if_pos ⟨one_ne (by omega), lt⟩]
          · refine Or.inr ⟨j, by omega, ?_, ?_⟩
            · rw [bkA, i1, if_neg (fun z => z.2.elim (nI_m1 (by omega)) lt)]
            · rw [tpR, i2, a1, v1, if_neg (fun z => lt z.2)]
  have dn : ∀ m, n + m ≤ 14 → tpR h x ((one n - 1) &&& (x ^^^ -1)) (n + m) = tpR h x ((one n - 1) &&& (x ^^^ -1)) n := by
    intro m
    induction m with
    | zero => intro _; rfl
    | succ m ih =>
      intro hm
      rw [show n + (m + 1) = n + m + 1 from rfl, tpR, if_neg (fun z => z.1 (no (n + m) (by omega) (Or.inl (by omega))))]
      exact ih (by omega)
  have e14 := dn (14 - n) (by omega)
  rw [show n + (14 - n) = 14 by omega] at e14
  rw [e14]
  unfold bkO
  rcases up n (Nat.le_refl _) with ⟨i1, i2⟩ | ⟨j, hj, i1, i2⟩
  · rw [i1, i2, if_pos rfl]
  · rw [i1, i2, if_neg (nI_m1 (by omega))]
theorem ps_eq {seed : Int32} (q : wX w n s t h) (en : w 157 = nI n) (hn : n ≤ 14) (lT : low n (w 159)) : ∀ i, psR h seed i = wsA (fun k => w (7 * k + 6)) (aU w (lawOf w)) n (w 159) seed i := by
  intro i
  induction i with
  | zero => rw [psR, wsA, (wX_T q).1]
  | succ i ih =>
    have l := ws_low (F := fun k => w (7 * k + 6)) (U := aU w (lawOf w)) (seed := seed) hn lT i
    have e3 : hI h o_wall 3 = nI n := q.1.2.2.1.trans en
    rw [psR, wsA, ih]
    show (setR h 22 ((wsA (fun k => w (7 * k + 6)) (aU w (lawOf w)) n (w 159) seed i).1 &&& ((frS h (wsA (fun k => w (7 * k + 6)) (aU w (lawOf w)) n (w 159) seed i).1 (wsA (fun k => w (7 * k + 6)) (aU w (lawOf w)) n (w 159) seed i).2 14).1 ^^^ -1)) ||| (tpR h (setR h 22 ((wsA (fun k => w (7 * k + 6)) (aU w (lawOf w)) n (w 159) seed i).1 &&& ((frS h (wsA (fun k => w (7 * k + 6)) (aU w (lawOf w)) n (w 159) seed i).1 (wsA (fun k => w (7 * k + 6)) (aU w (lawOf w)) n (w 159) seed i).2 14).1 ^^^ -1))) (((1 <<< (hI h o_wall 3 &&& 31)) - 1) &&& (setR h 22 ((wsA (fun k => w (7 * k + 6)) (aU w (lawOf w)) n (w 159) seed i).1 &&& ((frS h (wsA (fun k => w (7 * k + 6)) (aU w (lawOf w)) n (w 159) seed i).1 (wsA (fun k => w (7 * k + 6)) (aU w (lawOf w)) n (w 159) seed i).2 14).1 ^^^ -1)) ^^^ -1)) 14).1, (frS h (wsA (fun k => w (7 * k + 6)) (aU w (lawOf w)) n (w 159) seed i).1 (wsA (fun k => w (7 * k + 6)) (aU w (lawOf w)) n (w 159) seed i).2 14).2) = _
    generalize wsA (fun k => w (7 * k + 6)) (aU w (lawOf w)) n (w 159) seed i = S at l ⊢
    rw [fr_eq q.1 hn l, e3]
    generalize frA (fun k => w (7 * k + 6)) S.1 S.2 n = F
    have ll : low n (dif S.1 F.1) := low_sub sub_dif l
    rw [set_fall q ll]
    rw [tp_eq q hn (low_sub (it_sub 22 _) ll)]
theorem psH_left {seed : Int32} {many : Nat} : ∀ i k, hI (psH h seed many i) o_se_left k = if k < i then (psR h seed (k + 1)).1 else hI h o_se_left k := by
  intro i
  induction i with
  | zero => intro k; unfold psH; rw [rd_o (by decide), rd_o (by decide), if_neg (by omega)]
  | succ i ih =>
    intro k
    unfold psH
    rw [rd_any]
    by_cases e : k = i
    · rw [if_pos ⟨rfl, e⟩, if_pos (by omega), e]
    · rw [if_neg (fun z => e z.2), rd_o (by decide), ih k]
      by_cases z : k < i
      · rw [if_pos z, if_pos (by omega)]
      · rw [if_neg z, if_neg (by omega)]
def wtA (A : Ab) (S : Nat → Int32 × Int32) (many : Nat) : Ab := up2 (fun i j => if i = 7 ∧ j < many then (S (j + 1)).1 else A i j) 8 0 (nI many)
theorem wtA_o {S : Nat → Int32 × Int32} {many i : Nat} (h7 : i ≠ 7) (h8 : i ≠ 8) : wtA A S many i = A i := by
  unfold wtA; rw [up2_o h8]; funext k; exact if_neg fun z => h7 z.1
theorem wtA_7 {S : Nat → Int32 × Int32} {many k : Nat} : wtA A S many 7 k = if k < many then (S (k + 1)).1 else A 7 k := by
  unfold wtA; rw [up2_o (by decide)]
  show (if 7 = 7 ∧ k < many then (S (k + 1)).1 else A 7 k) = _
  by_cases z : k < many
  · rw [if_pos z, if_pos ⟨rfl, z⟩]
  · rw [if_neg z, if_neg fun y => z y.2]
theorem s_winters (wf : wfA A) {x y : Int32} : stp cx jX11_winters jX12_winters [.int x, .int y] A := by
  obtain ⟨n, s, t, ws, wt, wi, wl⟩ := id wf.1
  obtain ⟨hn, en, lT⟩ := wfS_n ws
  by_cases z : (0 ≤ x ∧ x ≤ 1000000) ∧ (1 ≤ y ∧ y ≤ 40)
  · obtain ⟨hx, hy⟩ := z
    obtain ⟨many, m1, m2, rfl⟩ := rng2 (l := 1) (m := 40) (by decide) (by decide) hy
    have lS := ws_low (F := fun k => A 0 (7 * k + 6)) (U := aU (A 0) (lawOf (A 0))) (seed := x) hn lT
    have ps : ∀ {G : Hp}, wX (A 0) n s t G → ∀ i, psR G x i = wsA (fun k => A 0 (7 * k + 6)) (aU (A 0) (lawOf (A 0))) n (A 0 159) x i := fun q => ps_eq q en hn lT
    have nw := fun (d c : Nat) (h : Hp) (hd : 200 ≤ d) (p : RM c A h) => n_winters_ok (cx := cx) (d := d) (a := 0) (many := many) (x := x) (by omega) p.1.1 wf.1 p.2 en hn lT hx m1 m2
    unfold wnQ at nw
    generalize wsA (fun k => A 0 (7 * k + 6)) (aU (A 0) (lawOf (A 0))) n (A 0 159) x = S at lS ps nw
    have wf' : wfA (goodA (wtA A S many)) := by
      refine wfA_good ?_
      obtain ⟨q1, q2, q3, q4, q5⟩ := wf
      refine ⟨by rw [wtA_o (by decide) (by decide)]; exact q1, fun k hk => ?_, by rw [wtA_o (by decide) (by decide)]; exact q3, by rw [wtA_o (by decide) (by decide)]; exact q4, ⟨many, m2, up2_s⟩⟩
      rw [wtA_o (by decide) (by decide), wtA_o (by omega) (by omega)]; exact q2 k hk
    refine ⟨onesR (S many).1 22, goodA (wtA A S many), wf', fun d a h hd _ p => ?_, fun d c h hd hc p => ?_⟩
    · refine sX11_winters rfl (wcS m_isWithin (And.intro (fun q1 => absurd hx (b2i_0.mp q1)) (fun q1 => (wcS m_isWithin (And.intro (fun q2 => (eX11_winters (wcQ (x_refresh (by omega) p ws wt wi) (fun u G z => ?_) (fun u G z => keepQ_N z.2.1)))) (fun q2 => absurd hy (b2i_0.mp q2)))))))
      obtain ⟨rfl, kq, fr⟩ := z
      have pS := ps fr.2.1
      have pG := frs_RX p kq ws fr
      have pa : M cx jX6_pass (d - 1) 0 [.ref o_seasons, .ref o_wall, .ref o_frame, .int x, .int (nI many)] G (RQ (.int (onesR (S many).1 22)) (psH G x many many)) := by
        rw [← pS many, ← bcw_ones (by rw [pS many]; exact low_le (by omega) (lS many))]
        exact m_pass (by omega) rfl m2
      obtain ⟨-, -, -, p4, p5, p6, p7, p8, p9, p14, p15⟩ := id pG.1
      have cg : ∀ o k, o ≠ 101 → o ≠ 102 → ¬ (o = 64 ∧ k = 9) → hI (wI (psH G x many many) o_x 9 0) o k = hI G o k := fun o k h1 h2 h3 => by rw [rd_any, if_neg h3, psH_o h1 h2]
      refine wcV pa (wcV x_accept ⟨rfl, ⟨?_, ?_⟩, fun o k h1 h2 => (cg o k (by omega) (by omega) (by omega)).trans (keepQ_Md kq o k h1 h2)⟩)
      · refine RXd_c pG.1 ?_ (fun k hk => ?_) ?_ (congrArg (fun z => z.2) psH_N) (fun o k ho => cg o k (by omega) (by omega) (by omega)) (fun k hk => ?_) ?_ ?_ ?_ rd_same ?_ (fun k hk => ?_) ?_
        · unfold goodA; rw [up2_o (by decide), wtA_o (by decide) (by decide)]
        · unfold goodA; rw [up2_o (by omega), wtA_o (by omega) (by omega)]
        · unfold goodA; rw [up2_o (by decide), wtA_o (by decide) (by decide)]
        · unfold goodA; rw [up2_o (by decide), wtA_o (by decide) (by decide), cg _ _ (by decide) (by decide) (fun z => absurd z.1 (by decide))]; exact p4 k hk
        · unfold goodA; rw [up2_n (by decide), wtA_o (by decide) (by decide), cg _ _ (by decide) (by decide) (by decide)]; exact p5
        · unfold goodA; rw [up2_n (by decide), wtA_o (by decide) (by decide), cg _ _ (by decide) (by decide) (by decide)]; exact p6
        · unfold goodA; rw [up2_n (by decide), wtA_o (by decide) (by decide), cg _ _ (by decide) (by decide) (by decide)]; exact p7
        · unfold goodA; rw [up2_o (by decide), wtA_o (by decide) (by decide), cg _ _ (by decide) (by decide) (by decide), cg _ _ (by decide) (by decide) (by decide), cg _ _ (by decide) (by decide) (by decide), cg _ _ (by decide) (by decide) (by decide), cg _ _ (by decide) (by decide) (by decide)]; exact p9
        · unfold goodA; rw [up2_o (by decide), wtA_7, rd_o (by decide), psH_left, pS, p14 k hk]
        · unfold goodA; rw [up2_o (by decide), rd_o (by decide), psH_many]; exact up2_s.symm
      · unfold goodA; rw [up2_o (by decide), wtA_o (by decide) (by decide)]
        exact cX_c pG.2 (fun o k ho => cg o k (by omega) (by omega) (by omega)) (fun o k => congrArg (fun z => z.1 o k) psH_N) (imR_e (congrArg (fun z => z.2) psH_N))
    · refine M_mono (nw d c h hd p) ?_
      rintro r g ⟨G, G', kM, mc, ⟨d1, d2⟩, rfl, rfl, rows⟩
      obtain ⟨p1, p2, p3, p4, p5, p6, p7, p8, p9, p10, p11, p12⟩ := RMd_keep p.1 kM
      have cg : ∀ o k, o ≠ 125 → ¬ (o = 104 ∧ (k = 37 ∨ k = 38)) → hI G' o k = hI G o k := fun o k h1 h2 => by
        rw [d2 o k (fun z => h2 ⟨z.1, Or.inr z.2⟩) h1, rd_any, if_neg (fun z => h2 ⟨z.1, Or.inl z.2⟩)]
      have n4 : ∀ {o k : Nat}, o ≠ 104 → ¬ (o = 104 ∧ (k = 37 ∨ k = 38)) := fun h z => h z.1
      refine ⟨rfl, RM_good hc mc (fun _ _ => rfl) ⟨?_, fun k i hk hi => ?_, fun k hk => ?_, fun k hk => ?_, ?_, ?_, ?_, ?_, fun k hk => ?_, fun k hk => ?_, ?_, fun k hk => ?_⟩, keepC_t (keepM_C kM) (keepC_t (keepC_t (keepC_w (by decide)) ⟨d1, fun o k ho => d2 o k (by omega) (by omega)⟩) keepC_good)⟩
      · rw [wtA_o (by decide) (by decide), ← p1]; exact funext fun k => cg _ _ (by decide) (n4 (by decide))
      · rw [wtA_o (by omega) (by omega), cg _ _ (by decide) (n4 (by decide))]; exact p2 k i hk hi
      · rw [wtA_o (by decide) (by decide), cg _ _ (by decide) (n4 (by decide))]; exact p3 k hk
      · rw [wtA_o (by decide) (by decide), cg _ _ (by decide) (n4 (by decide))]; exact p4 k hk
      · rw [wtA_o (by decide) (by decide), cg _ _ (by decide) (by decide)]; exact p5
      · rw [wtA_o (by decide) (by decide), cg _ _ (by decide) (by decide)]; exact p6
      · rw [wtA_o (by decide) (by decide), cg _ _ (by decide) (by decide)]; exact p7
      · rw [wtA_o (by decide) (by decide), cg _ _ (by decide) (by decide)]; exact p8
      · rw [wtA_o (by decide) (by decide), cg _ _ (by decide) (n4 (by decide))]; exact p9 k hk
      · rw [wtA_7, rows k hk, p10 k hk]
      · rw [d2 _ _ (by decide) (by decide), rd_same]; exact up2_s.symm
      · rw [cg _ _ (by decide) (n4 (by decide))]; exact p12 k hk
  · refine stp_ref (n := 1) (j := 0) (k := -1) (by decide) (Or.inl ⟨rfl, rfl⟩) wf (fun d a h hd p => ?_) (fun d c h hd p => n_winters_no (by omega) z)
    exact sX11_winters rfl (wcS m_isWithin (And.intro (fun q1 => (eX11_winters (wcV (x_refuse1 (by omega)) ⟨rfl, rfl⟩))) (fun q1 => (wcS m_isWithin (And.intro (fun q2 => absurd ⟨b2i_n q1, b2i_n q2⟩ z) (fun q2 => (eX11_winters (wcV (x_refuse1 (by omega)) ⟨rfl, rfl⟩))))))))
end T9991
