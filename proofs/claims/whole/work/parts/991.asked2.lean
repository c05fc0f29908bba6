/-! round, farm and the thieves' questions, on both sides -/
section T991
variable {cx : Cx} {d a c : Nat} {h g f : Hp} {w : Wd} {A : Ab} {n s t : Nat}
theorem ro_eq {U : Int32 → Int32} {k : Nat} (hk : k < 22) (hU : Uok U) (eU : ∀ x, low n x → uns h x = U x) : ∀ m rd x, sz x ≤ m → low n x → bt x k = true → roR h (nI k) (itN U m x + 1) rd x = roA U k (m + 1) rd x := by
  intro m
  induction m with
  | zero =>
    intro rd x hx _ b
    have := sz_rm (k := k) hk b; omega
  | succ m ih =>
    intro rd x hx lx b
    have nb : ¬ (x >>> (nI k &&& 31)) &&& 1 = 0 := (shr_bt (by omega)).mpr b
    by_cases e : U x = 0
    · rw [itN, if_pos e, roA, if_pos e, roR, if_neg nb]; rfl
    · have hd : sz (dif x (U x)) < sz x := sz_drop hU e
      have lx' : low n (dif x (U x)) := low_sub sub_dif lx
      rw [itN, if_neg e, roR, if_neg nb, eU x lx]
      conv => rhs; rw [roA, if_neg e]
      by_cases b2 : bt (dif x (U x)) k = true
      · rw [if_pos b2]; exact ih (rd + 1) (dif x (U x)) (by omega) lx' b2
      · rw [if_neg b2, roR, if_pos]
        exact Classical.byContradiction fun y => b2 ((shr_bt (by omega)).mp y)
theorem s_round (wf : wfA A) {x v : Int32} : stp cx jX11_round jX12_round [.int x, .int v] A := by
  obtain ⟨n, s, t, ws, wt, wi, wl⟩ := id wf.1
  obtain ⟨hn, en, lT⟩ := wfS_n ws
  have px := part_x (x := x) hn lT
  by_cases y : cPart (A 0) x ∧ cStone (A 0) v ∧ (A 0 159 >>> (v &&& 31)) &&& 1 = 1
  · obtain ⟨y1, y2, y3⟩ := y
    obtain ⟨k, hk, rfl⟩ := cStone_nI en hn y2
    have bT : bt (A 0 159) k = true := (inB_bt (by omega)).mp y3
    have X : ∀ r d a h, 200 ≤ d → (∀ G, frs (A 0) n s t G → roR G (nI k) (rndR G 22 (dif (A 0 159) x) + 1) 0 (dif (A 0 159) x) = r) → RX A h → M cx jX11_round d a [.ref o_x, .int x, .int (nI k)] h (xQ A r h) := fun r d a h hd hr p => by
      have eT0 : hI h (ly_rf o_x 0) 5 = A 0 159 := p.1.1.1.2.2.2.2.1
      refine sX11_round rfl (wcS m_isPart (And.intro (fun q1 => absurd (by rw [eT0]; exact px.mp y1) (b2i_0.mp q1)) (fun q1 => (wcV (m_isStone (by omega)) (And.intro (fun q2 => absurd ((x_stone p.1.1.1).mpr y2) (b2i_0.mp q2)) (fun q2 => (And.intro (fun q3 => (eX11_round (wcQ (x_refresh (by omega) p ws wt wi) (fun u G z => ?_) (fun u G z => keepQ_N z.2.1)))) (fun q3 => absurd q3 (by rw [eT0]; exact (shr_bt (by omega)).mpr bT)))))))))
      obtain ⟨rfl, kq, fr⟩ := z
      have eT : hI G (ly_rf o_x 0) 5 = A 0 159 := (wX_T fr.2.1).1
      refine wcV (m_roundOf (by omega)) (x_fin' ?_ p ws kq fr)
      rw [eT]; exact hr G fr
    by_cases bx : bt x k = true
    · refine stp_q (k := 0) wf (fun d a h hd p => X 0 d a h hd (fun G fr => ?_) p) (fun d c h hd p => M_mono (n_round_0 (by omega) (by rw [p.1.1]; exact ⟨y1, y2, y3⟩) ((inB_bt (by omega)).mpr bx)) (qM_same p.2))
      have nb : (dif (A 0 159) x >>> (nI k &&& 31)) &&& 1 = 0 := Classical.byContradiction fun y => by
        have := (shr_bt (by omega)).mp y
        rw [bt_dif (by omega), bx] at this; simp at this
      rw [roR, if_pos nb]; rfl
    · have bx : bt x k = false := ts_nt bx
      refine stp_q (k := roA (aU (A 0) (lawOf (A 0))) k 23 0 (dif (A 0 159) x)) wf (fun d a h hd p => X _ d a h hd (fun G fr => ?_) p) (fun d c h hd p => n_round_ok (by omega) p.1.1 wf.1 p.2 en hn lT y1 hk bT bx)
      have ll : low n (dif (A 0 159) x) := low_sub sub_dif lT
      rw [rnd_fall fr.2.1 ll]
      exact ro_eq (by omega) Uok_aU (uns_low fr.2.1) 22 0 _ (sz_le _) ll (by rw [bt_dif (by omega), bT, bx]; rfl)
  · refine stp_same (k := -1) wf (fun d a h hd p => ?_) (fun d c h hd p => n_round_no (by omega) (by rw [p.1.1]; exact y))
    have eT0 : hI h (ly_rf o_x 0) 5 = A 0 159 := p.1.1.1.2.2.2.2.1
    refine sX11_round rfl (wcS m_isPart (And.intro (fun q1 => (eX11_round ⟨rfl, rfl⟩)) (fun q1 => (wcV (m_isStone (by omega)) (And.intro (fun q2 => (eX11_round ⟨rfl, rfl⟩)) (fun q2 => (And.intro (fun q3 => absurd ?_ y) (fun q3 => (eX11_round ⟨rfl, rfl⟩)))))))))
    have y1 := b2i_n q1
    rw [eT0] at y1 q3
    have y2 := (x_stone p.1.1.1).mp (b2i_n q2)
    obtain ⟨k, hk, rfl⟩ := cStone_nI en hn y2
    exact ⟨px.mpr y1, y2, (inB_bt (by omega)).mpr ((shr_bt (by omega)).mp q3)⟩
theorem s_farm (wf : wfA A) {x q : Int32} : stp cx jX11_farm jX12_farm [.int x, .int q] A := by
  obtain ⟨n, s, t, ws, wt, wi, wl⟩ := id wf.1
  obtain ⟨hn, en, lT⟩ := wfS_n ws
  have px := part_x (x := x) hn lT
  by_cases y : cPart (A 0) x ∧ 0 ≤ q ∧ q ≤ 3
  · refine stp_q (k := nI (cnt (fun k => bt (dif (A 0 159) (fallA (aU (A 0) (lawOf (A 0))) (dif (A 0 159) x))) k = true ∧ A 0 (7 * k + 5) = q) n)) wf (fun d a h hd p => ?_) (fun d c h hd p => n_farm_ok (by omega) p.1.1 wf.1 p.2 en hn lT y.1 y.2)
    have eT0 : hI h (ly_rf o_x 0) 5 = A 0 159 := p.1.1.1.2.2.2.2.1
    refine sX11_farm rfl (wcS m_isPart (And.intro (fun q1 => absurd (by rw [eT0]; exact px.mp y.1) (b2i_0.mp q1)) (fun q1 => (wcS m_isWithin (And.intro (fun q2 => (eX11_farm (wcQ (x_refresh (by omega) p ws wt wi) (fun u G z => ?_) (fun u G z => keepQ_N z.2.1)))) (fun q2 => absurd y.2 (b2i_0.mp q2)))))))
    obtain ⟨rfl, kq, fr⟩ := z
    have eT : hI G (ly_rf o_x 0) 5 = A 0 159 := (wX_T fr.2.1).1
    have eS : hI G (ly_rf o_x 0) 3 = nI n := fr.2.1.1.2.2.1.trans en
    have ll : low n (dif (A 0 159) x) := low_sub sub_dif lT
    have se : M cx jX2_settled (d - 1) 0 [.ref o_frame, .int (hI G (ly_rf o_x 0) 5 &&& (x ^^^ -1))] G (RQ (.int (fallA (aU (A 0) (lawOf (A 0))) (dif (A 0 159) x))) G) := by
      rw [eT, ← set_fall fr.2.1 ll]; exact m_settled (by omega)
    generalize eg : dif (A 0 159) (fallA (aU (A 0) (lawOf (A 0))) (dif (A 0 159) x)) = gone
    have loop : ∀ m k, m + k = n → E cx jX11_farm d a 64 [some (.ref o_x), some (.int x), some (.int q), some (.int gone), some (.int (nI (cnt (fun k => bt gone k = true ∧ A 0 (7 * k + 5) = q) k))), some (.int (nI k))] [] G (xQ A (nI (cnt (fun k => bt gone k = true ∧ A 0 (7 * k + 5) = q) n)) h) := by
      intro m
      induction m with
      | zero =>
        intro k hk
        obtain rfl : k = n := by omega
        exact eX11_farm (And.intro (fun _ => eX11_farm (x_fin p ws kq fr)) (fun z => absurd (by rw [eS]; exact Int32.le_refl _) z))
      | succ m ih =>
        intro k hk
        have i := ih (k + 1) (by omega)
        rw [nI_succ] at i
        have no : ¬ (bt gone k = true ∧ A 0 (7 * k + 5) = q) → E cx jX11_farm d a 102 [some (.ref o_x), some (.int x), some (.int q), some (.int gone), some (.int (nI (cnt (fun k => bt gone k = true ∧ A 0 (7 * k + 5) = q) k))), some (.int (nI k))] [] G (xQ A (nI (cnt (fun k => bt gone k = true ∧ A 0 (7 * k + 5) = q) n)) h) := fun z => by
          rw [cnt_f (P := fun k => bt gone k = true ∧ A 0 (7 * k + 5) = q) z] at i
          exact eX11_farm i
        have fa : fFact G (nI k) 5 = A 0 (7 * k + 5) := fact_w fr.2.1.1 (j := 5) (by omega) (by decide)
        refine eX11_farm (And.intro (fun z => absurd z (by rw [eS]; exact nI_ge (by omega) (by omega))) (fun _ => And.intro (fun q2 => no fun z => (shr_bt (by omega)).mpr z.1 q2) (fun q2 => wcV m_fact (And.intro (fun q3 => no fun z => q3 (fa.trans z.2)) (fun q3 => (eX11_farm ?_))))))
        rw [cnt_t (P := fun k => bt gone k = true ∧ A 0 (7 * k + 5) = q) ⟨(shr_bt (by omega)).mp q2, fa.symm.trans q3⟩, nI_succ] at i
        exact i
    refine wcV se (e_eq (loop n 0 rfl) ?_ rfl rfl)
    rw [eT, ← eg]; rfl
  · refine stp_same (k := -1) wf (fun d a h hd p => ?_) (fun d c h hd p => n_farm_no (by omega) (by rw [p.1.1]; exact y))
    have eT0 : hI h (ly_rf o_x 0) 5 = A 0 159 := p.1.1.1.2.2.2.2.1
    exact sX11_farm rfl (wcS m_isPart (And.intro (fun q1 => (eX11_farm ⟨rfl, rfl⟩)) (fun q1 => (wcS m_isWithin (And.intro (fun q2 => absurd ⟨px.mpr (by have := b2i_n q1; rw [eT0] at this; exact this), b2i_n q2⟩ y) (fun q2 => (eX11_farm ⟨rfl, rfl⟩)))))))
/-! the thieves -/
theorem not03 {q : Int32} {m : Nat} (hm : m < 2 ^ 31) (y : ¬ (0 ≤ q ∧ q ≤ nI m)) : ∀ k, k ≤ m → ¬ q = nI k := fun k hk e => y (by rw [e]; exact rng_of hk hm)
theorem s_once (wf : wfA A) {q : Int32} : stp cx jX11_once jX12_once [.int q] A := by
  obtain ⟨n, s, t, ws, wt, wi, wl⟩ := id wf.1
  obtain ⟨hn, en, lT⟩ := wfS_n ws
  have X : ∀ r, (∀ g, moX (A 0) n (tmF (A 0) n (tkPr (A 0) (aU (A 0) (lawOf (A 0))) false) (2 ^ n)) o_onceFound g → (if q = 0 then hI g o_onceFound 0 else if q = 1 then hI g o_onceFound 1 else if q = 2 then hI g o_onceFound 2 else if q = 3 then hI g o_onceFound 3 else -1) = r) → ∀ d a h, 200 ≤ d → RX A h → M cx jX11_once d a [.ref o_x, .int q] h (xQ A r h) := fun r hr d a h hd p => by
    refine sX11_once rfl (wcQ (x_refresh (by omega) p ws wt wi) (fun u G z => ?_) (fun u G z => keepQ_N z.2.1))
    obtain ⟨rfl, kq, fr⟩ := z
    refine wcQ (x_atOnce (by omega) fr.2.1 fr.2.2) (fun u F z => ?_) (fun u F z => keepTh_N z.2.1)
    obtain ⟨rfl, kt, th, mx⟩ := z
    exact wcV m_told_onceFound (x_fin' (hr F mx) p ws (keepQ_t kq (keepTh_Q kt)) (frs_Th kt fr th))
  by_cases y : 0 ≤ q ∧ q ≤ 3
  · refine stp_q wf (X (tolA (A 0) n (tmF (A 0) n (tkPr (A 0) (aU (A 0) (lawOf (A 0))) false) (2 ^ n)) q) fun g mx => ?_) (fun d c h hd p => n_once_ok (by omega) p.1.1 wf.1 p.2 en hn lT y)
    obtain ⟨k, hk, rfl⟩ := rng (m := 3) (by decide) y
    obtain ⟨m0, m1, m2, m3⟩ := mx
    unfold tolA
    rw [m0, m1, m2, m3]
    rcases (by omega : k = 0 ∨ k = 1 ∨ k = 2 ∨ k = 3) with rfl | rfl | rfl | rfl
    · rw [if_pos (by decide), if_neg (show ¬ nI 0 = 3 by decide), if_neg (show ¬ nI 0 = 2 by decide), if_pos (show nI 0 = 0 by decide)]
    · rw [if_neg (by decide), if_pos (by decide), if_neg (show ¬ nI 1 = 3 by decide), if_neg (show ¬ nI 1 = 2 by decide), if_neg (show ¬ nI 1 = 0 by decide)]
    · rw [if_neg (by decide), if_neg (by decide), if_pos (by decide), if_neg (show ¬ nI 2 = 3 by decide), if_pos (show nI 2 = 2 by decide), ite_m1]
    · rw [if_neg (by decide), if_neg (by decide), if_neg (by decide), if_pos (by decide), if_pos (show nI 3 = 3 by decide)]
  · have nn := not03 (m := 3) (by decide) y
    refine stp_q wf (X (-1) fun g _ => ?_) (fun d c h hd p => M_mono (n_once_no (by omega) y) (qM_same p.2))
    rw [if_neg (show ¬ q = 0 from nn 0 (by decide)), if_neg (show ¬ q = 1 from nn 1 (by decide)), if_neg (show ¬ q = 2 from nn 2 (by decide)), if_neg (show ¬ q = 3 from nn 3 (by decide))]
theorem s_oneByOne (wf : wfA A) {q : Int32} : stp cx jX11_oneByOne jX12_oneByOne [.int q] A := by
  obtain ⟨n, s, t, ws, wt, wi, wl⟩ := id wf.1
  obtain ⟨hn, en, lT⟩ := wfS_n ws
  have X : ∀ r, (∀ g, moX (A 0) n (tmF (A 0) n (tkPr (A 0) (aU (A 0) (lawOf (A 0))) true) (2 ^ n)) o_stepsFound g → (if q = 0 then hI g o_stepsFound 0 else if q = 1 then hI g o_stepsFound 1 else if q = 2 then hI g o_stepsFound 2 else if q = 3 then hI g o_stepsFound 3 else -1) = r) → ∀ d a h, 200 ≤ d → RX A h → M cx jX11_oneByOne d a [.ref o_x, .int q] h (xQ A r h) := fun r hr d a h hd p => by
    refine sX11_oneByOne rfl (wcQ (x_refresh (by omega) p ws wt wi) (fun u G z => ?_) (fun u G z => keepQ_N z.2.1))
    obtain ⟨rfl, kq, fr⟩ := z
    refine wcQ (x_inSteps (by omega) fr.2.1 fr.2.2) (fun u F z => ?_) (fun u F z => keepTh_N z.2.1)
    obtain ⟨rfl, kt, th, mx, -⟩ := z
    exact wcV m_told_stepsFound (x_fin' (hr F mx) p ws (keepQ_t kq (keepTh_Q kt)) (frs_Th kt fr th))
  by_cases y : 0 ≤ q ∧ q ≤ 3
  · refine stp_q wf (X (tolA (A 0) n (tmF (A 0) n (tkPr (A 0) (aU (A 0) (lawOf (A 0))) true) (2 ^ n)) q) fun g mx => ?_) (fun d c h hd p => n_oneByOne_ok (by omega) p.1.1 wf.1 p.2 en hn lT y)
    obtain ⟨k, hk, rfl⟩ := rng (m := 3) (by decide) y
    obtain ⟨m0, m1, m2, m3⟩ := mx
    unfold tolA
    rw [m0, m1, m2, m3]
    rcases (by omega : k = 0 ∨ k = 1 ∨ k = 2 ∨ k = 3) with rfl | rfl | rfl | rfl
    · rw [if_pos (by decide), if_neg (show ¬ nI 0 = 3 by decide), if_neg (show ¬ nI 0 = 2 by decide), if_pos (show nI 0 = 0 by decide)]
    · rw [if_neg (by decide), if_pos (by decide), if_neg (show ¬ nI 1 = 3 by decide), if_neg (show ¬ nI 1 = 2 by decide), if_neg (show ¬ nI 1 = 0 by decide)]
    · rw [if_neg (by decide), if_neg (by decide), if_pos (by decide), if_neg (show ¬ nI 2 = 3 by decide), if_pos (show nI 2 = 2 by decide), ite_m1]
    · rw [if_neg (by decide), if_neg (by decide), if_neg (by decide), if_pos (by decide), if_pos (show nI 3 = 3 by decide)]
  · have nn := not03 (m := 3) (by decide) y
    refine stp_q wf (X (-1) fun g _ => ?_) (fun d c h hd p => M_mono (n_oneByOne_no (by omega) y) (qM_same p.2))
    rw [if_neg (show ¬ q = 0 from nn 0 (by decide)), if_neg (show ¬ q = 1 from nn 1 (by decide)), if_neg (show ¬ q = 2 from nn 2 (by decide)), if_neg (show ¬ q = 3 from nn 3 (by decide))]
theorem s_order (wf : wfA A) {i : Int32} : stp cx jX11_order jX12_order [.int i] A := by
  obtain ⟨n, s, t, ws, wt, wi, wl⟩ := id wf.1
  obtain ⟨hn, en, lT⟩ := wfS_n ws
  have eb : orBest (A 0) n = (tmF (A 0) n (tkPr (A 0) (aU (A 0) (lawOf (A 0))) true) (2 ^ n)).1 := rfl
  have X : ∀ r, (∀ g N, orX (aU (A 0) (lawOf (A 0))) (A 0 159) (orBest (A 0) n) g → hI g o_thieves 9 = nI N → N ≤ 14 → (if 0 ≤ i ∧ i < nI N then hI g o_th_steps i.toNatClampNeg else -1) = r) → ∀ d a h, 200 ≤ d → RX A h → M cx jX11_order d a [.ref o_x, .int i] h (xQ A r h) := fun r hr d a h hd p => by
    refine sX11_order rfl (wcQ (x_refresh (by omega) p ws wt wi) (fun u G z => ?_) (fun u G z => keepQ_N z.2.1))
    obtain ⟨rfl, kq, fr⟩ := z
    refine wcQ (x_inSteps (by omega) fr.2.1 fr.2.2) (fun u F z => ?_) (fun u F z => keepTh_N z.2.1)
    obtain ⟨rfl, kt, th, mx, ox⟩ := z
    obtain ⟨N, hN, eN⟩ : ∃ N, N ≤ 14 ∧ hI F o_thieves 9 = nI N := by
      by_cases b : orBest (A 0) n = -1
      · exact ⟨0, by decide, ox.1 b⟩
      · obtain ⟨k, hk, ek, -⟩ := tm_is_best hn b
        refine ⟨sz (orBest (A 0) n), ?_, (ox.2 b).1⟩
        rw [eb, ek, sz_pc (by have := pow14 hn; omega)]
        exact (pc22 (by have := pow14 hn; omega)).2
    exact wcV (m_stepTaken (by omega) eN hN) (x_fin' (hr F N ox eN hN) p ws (keepQ_t kq (keepTh_Q kt)) (frs_Th kt fr th))
  have hz := sz_le (orBest (A 0) n)
  by_cases y : ¬ orBest (A 0) n = -1 ∧ 0 ≤ i ∧ i ≤ onesR (orBest (A 0) n) 22 - 1
  · obtain ⟨k, hk, ek, -⟩ := tm_is_best hn y.1
    have k14 : k < 2 ^ 14 := by have := pow14 hn; omega
    have e14 : sz (orBest (A 0) n) ≤ 14 := by rw [eb, ek, sz_pc k14]; exact (pc22 k14).2
    obtain ⟨I, hI', rfl⟩ := nI_of (x := i) (Int32.not_lt.mpr y.2.1)
    have lt : I < sz (orBest (A 0) n) := by
      have := Int32.le_iff_toInt_le.mp y.2.2
      rw [ones_sz, show (1 : Int32) = nI 1 from rfl, pk_sub_toInt (by omega) (by decide), nI_toInt hI'] at this
      omega
    refine stp_q wf (X (ordS (aU (A 0) (lawOf (A 0))) (dif (A 0 159) (orBest (A 0) n)) (A 0 159) I) fun g N ox e9 hN => ?_) (fun d c h hd p => n_order_ok (by omega) p.1.1 wf.1 p.2 en hn lT y.1 lt)
    obtain ⟨o1, o2⟩ := ox.2 y.1
    have : N = sz (orBest (A 0) n) := (nI_eq (by omega) (by omega)).mp (e9.symm.trans o1)
    rw [if_pos ⟨nI_pos' (by omega), nI_lt (by omega) (by omega)⟩, nI_clamp (by omega)]
    exact o2 I lt
  · refine stp_q wf (X (-1) fun g N ox e9 hN => ?_) (fun d c h hd p => n_order_no (by omega) p.1.1 wf.1 p.2 en hn lT y)
    rw [if_neg]
    rintro ⟨z1, z2⟩
    by_cases b : orBest (A 0) n = -1
    · have := ox.1 b
      rw [e9] at this
      have : N = 0 := (nI_eq (b := 0) (by omega) (by decide)).mp this
      rw [this] at z2
      exact absurd z2 (Int32.not_lt.mpr z1)
    · obtain ⟨o1, o2⟩ := ox.2 b
      have eN : N = sz (orBest (A 0) n) := (nI_eq (by omega) (by omega)).mp (e9.symm.trans o1)
      refine y ⟨b, z1, ?_⟩
      obtain ⟨I, hI', rfl⟩ := nI_of (x := i) (Int32.not_lt.mpr z1)
      have := (nI_ltI hI' (by omega)).mp z2
      rw [ones_sz, show (1 : Int32) = nI 1 from rfl, pk_sub (by omega)]
      exact nI_le (by omega) (by omega)
theorem s_mend (wf : wfA A) {q : Int32} : stp cx jX11_mend jX12_mend [.int q] A := by
  obtain ⟨n, s, t, ws, wt, wi, wl⟩ := id wf.1
  obtain ⟨hn, en, lT⟩ := wfS_n ws
  have X : ∀ r, (∀ g, feX (fewF (mdP (A 0) (aU (A 0) (lawOf (A 0)))) (2 ^ s)) o_mendingFound g → (if q = 0 then hI g o_mendingFound 0 else if q = 1 then hI g o_mendingFound 1 else if q = 2 then hI g o_mendingFound 2 else -1) = r) → ∀ d a h, 200 ≤ d → RX A h → M cx jX11_mend d a [.ref o_x, .int q] h (xQ A r h) := fun r hr d a h hd p => by
    refine sX11_mend rfl (wcQ (x_refresh (by omega) p ws wt wi) (fun u G z => ?_) (fun u G z => keepQ_N z.2.1))
    obtain ⟨rfl, kq, fr⟩ := z
    refine wcQ (x_mending (by omega) fr.2.1 fr.2.2) (fun u F z => ?_) (fun u F z => keepTh_N z.2.1)
    obtain ⟨rfl, kt, th, mx⟩ := z
    exact wcV m_told_mendingFound (x_fin' (hr F mx) p ws (keepQ_t kq (keepTh_Q kt)) (frs_Th kt fr th))
  by_cases y : 0 ≤ q ∧ q ≤ 2
  · refine stp_q wf (X (fewA (fewF (mdP (A 0) (aU (A 0) (lawOf (A 0)))) (2 ^ s)) q) fun g mx => ?_) (fun d c h hd p => n_mend_ok (by omega) p.1.1 wf.1 p.2 en hn ws.2.2.2.2.1 ws.2.1 lT y)
    obtain ⟨k, hk, rfl⟩ := rng (m := 2) (by decide) y
    obtain ⟨m0, m1, m2⟩ := mx
    unfold fewA
    rw [m0, m1, m2]
    rcases (by omega : k = 0 ∨ k = 1 ∨ k = 2) with rfl | rfl | rfl
    · rw [if_pos (by decide), if_neg (show ¬ nI 0 = 2 by decide), if_neg (show ¬ nI 0 = 1 by decide)]
    · rw [if_neg (by decide), if_pos (by decide), if_neg (show ¬ nI 1 = 2 by decide), if_pos (show nI 1 = 1 by decide), ite_m1]
    · rw [if_neg (by decide), if_neg (by decide), if_pos (by decide), if_pos (show nI 2 = 2 by decide)]
  · have nn := not03 (m := 2) (by decide) y
    refine stp_q wf (X (-1) fun g _ => ?_) (fun d c h hd p => M_mono (n_mend_no (by omega) y) (qM_same p.2))
    rw [if_neg (show ¬ q = 0 from nn 0 (by decide)), if_neg (show ¬ q = 1 from nn 1 (by decide)), if_neg (show ¬ q = 2 from nn 2 (by decide))]
theorem s_fell (wf : wfA A) {q : Int32} : stp cx jX11_fell jX12_fell [.int q] A := by
  obtain ⟨n, s, t, ws, wt, wi, wl⟩ := id wf.1
  obtain ⟨hn, en, lT⟩ := wfS_n ws
  have X : ∀ r, (∀ g, feX (fewF (flP (A 0) (aU (A 0) (lawOf (A 0)))) (2 ^ n)) o_fellingFound g → (if q = 0 then hI g o_fellingFound 0 else if q = 1 then hI g o_fellingFound 1 else if q = 2 then hI g o_fellingFound 2 else -1) = r) → ∀ d a h, 200 ≤ d → RX A h → M cx jX11_fell d a [.ref o_x, .int q] h (xQ A r h) := fun r hr d a h hd p => by
    refine sX11_fell rfl (wcQ (x_refresh (by omega) p ws wt wi) (fun u G z => ?_) (fun u G z => keepQ_N z.2.1))
    obtain ⟨rfl, kq, fr⟩ := z
    refine wcQ (x_felling (by omega) fr.2.1 fr.2.2) (fun u F z => ?_) (fun u F z => keepTh_N z.2.1)
    obtain ⟨rfl, kt, th, mx⟩ := z
    exact wcV m_told_fellingFound (x_fin' (hr F mx) p ws (keepQ_t kq (keepTh_Q kt)) (frs_Th kt fr th))
  by_cases y : 0 ≤ q ∧ q ≤ 2
  · refine stp_q wf (X (felA (fewF (flP (A 0) (aU (A 0) (lawOf (A 0)))) (2 ^ n)) q) fun g mx => ?_) (fun d c h hd p => n_fell_ok (by omega) p.1.1 wf.1 p.2 en hn lT y)
    obtain ⟨k, hk, rfl⟩ := rng (m := 2) (by decide) y
    obtain ⟨m0, m1, m2⟩ := mx
    have ne : ¬ (fewF (flP (A 0) (aU (A 0) (lawOf (A 0)))) (2 ^ n)).1 = -1 := by
      have h14 := pow14 hn
      rcases fewF_few (P := flP (A 0) (aU (A 0) (lawOf (A 0)))) (2 ^ n) h14 with ⟨-, -, no⟩ | ⟨b, -⟩
      · obtain ⟨tn, htn, etn⟩ := low_nI (by omega) lT
        refine absurd ?_ (no tn htn)
        unfold flP
        rw [part_iff hn lT (by omega), ← etn, dif_self]
        exact ⟨sub_r, sub_anti (it_sub 22 0) sub_0⟩
      · obtain ⟨k, hk, -, ek⟩ := b.1
        rw [ek]; exact nI_m1 (by omega)
    unfold felA
    rw [m0, m1, m2]
    rcases (by omega : k = 0 ∨ k = 1 ∨ k = 2) with rfl | rfl | rfl
    · rw [if_pos (by decide), if_neg ne, if_pos (show nI 0 = 0 by decide)]
    · rw [if_neg (by decide), if_pos (by decide), if_neg (show ¬ nI 1 = 0 by decide), if_pos (show nI 1 = 1 by decide)]
    · rw [if_neg (by decide), if_neg (by decide), if_pos (by decide), if_neg (show ¬ nI 2 = 0 by decide), if_neg (show ¬ nI 2 = 1 by decide)]
  · have nn := not03 (m := 2) (by decide) y
    refine stp_q wf (X (-1) fun g _ => ?_) (fun d c h hd p => M_mono (n_fell_no (by omega) y) (qM_same p.2))
    rw [if_neg (show ¬ q = 0 from nn 0 (by decide)), if_neg (show ¬ q = 1 from nn 1 (by decide)), if_neg (show ¬ q = 2 from nn 2 (by decide))]
theorem s_game (wf : wfA A) {q : Int32} : stp cx jX11_game jX12_game [.int q] A := by
  obtain ⟨n, s, t, ws, wt, wi, wl⟩ := id wf.1
  obtain ⟨hn, en, lT⟩ := wfS_n ws
  by_cases y : 0 ≤ q ∧ q ≤ 2
  · refine stp_q (k := gamA (aU (A 0) (lawOf (A 0))) (A 0 159) n q) wf (fun d a h hd p => ?_) (fun d c h hd p => n_game_ok (by omega) p.1.1 wf.1 p.2 en hn lT y)
    refine sX11_game rfl (wcQ (x_refresh (by omega) p ws wt wi) (fun u G z => ?_) (fun u G z => keepQ_N z.2.1))
    obtain ⟨rfl, kq, fr⟩ := z
    refine wcQ (x_play (by omega) fr.2.1 fr.2.2) (fun u F z => ?_) (fun u F z => keepTh_N z.2.1)
    obtain ⟨rfl, kt, th, mx⟩ := z
    have k2 := keepQ_t kq (keepTh_Q kt)
    have f2 := frs_Th kt fr th
    have m1 : hI F (ly_rf o_x 6) 10 = fst (mayW (aU (A 0) (lawOf (A 0))) (A 0 159)) n 0 := mx.1
    have m2 : hI F (ly_rf o_x 6) 11 = nI (cnt (mayT (aU (A 0) (lawOf (A 0))) (A 0 159)) n) := mx.2
    refine And.intro (fun z => ?_) (And.intro (fun z => ?_) (And.intro (fun z => ?_) (And.intro (fun z => ?_) trivial)))
    · obtain ⟨j, hj, ej⟩ := rng (m := 2) (by decide) y
      exact absurd ej (z j (Nat.lt_succ_of_le hj))
    · subst z
      refine eX11_game (And.intro (fun q2 => (eX11_game (eX11_game (x_fin' ?_ p ws k2 f2)))) (fun q2 => (eX11_game (x_fin' ?_ p ws k2 f2))))
      · rw [m1] at q2
        unfold gamA; rw [if_pos (by decide)]
        obtain ⟨j, h1, h2, h3, h4, h5⟩ := fst_some n 0 q2
        exact (b2i_t (win_eq.mpr ⟨j, by omega, h4.1.1, h4.1.2, h4.2⟩)).symm
      · rw [m1] at q2
        unfold gamA; rw [if_pos (by decide)]
        refine (b2i_f fun z => ?_).symm
        obtain ⟨j, hj, b, l, v⟩ := win_eq.mp z
        exact fst_none n 0 (by omega) q2 j (by omega) (by have := lT j (by omega) b; omega) ⟨⟨b, l⟩, v⟩
    · subst z
      refine eX11_game (x_fin' ?_ p ws k2 f2)
      rw [m1]; unfold gamA; rw [if_neg (by decide), if_pos (by decide)]
    · subst z
      refine eX11_game (x_fin' ?_ p ws k2 f2)
      rw [m2]; unfold gamA; rw [if_neg (by decide), if_neg (by decide)]
  · refine stp_q (k := -1) wf (fun d a h hd p => ?_) (fun d c h hd p => M_mono (n_game_no (by omega) y) (qM_same p.2))
    refine sX11_game rfl (wcQ (x_refresh (by omega) p ws wt wi) (fun u G z => ?_) (fun u G z => keepQ_N z.2.1))
    obtain ⟨rfl, kq, fr⟩ := z
    refine wcQ (x_play (by omega) fr.2.1 fr.2.2) (fun u F z => ?_) (fun u F z => keepTh_N z.2.1)
    obtain ⟨rfl, kt, th, mx⟩ := z
    refine And.intro (fun z => (eX11_game (x_fin p ws (keepQ_t kq (keepTh_Q kt)) (frs_Th kt fr th)))) (And.intro (fun z => ?_) (And.intro (fun z => ?_) (And.intro (fun z => ?_) trivial)))
    all_goals subst z; exact absurd (by decide) y
end T991
