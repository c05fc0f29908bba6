/-! law on both sides: the step -/
section T999997
variable {cx : Cx} {d a c : Nat} {h g f : Hp} {w w' : Wd} {A : Ab} {n s t N : Nat} {b : Nat → Int32}
theorem mC_c2 (q : mC c w h) (eI : ∀ o k, 115 ≤ o → o ≤ 125 → hI g o k = hI h o k) (em : ∀ k, (k = 1 ∨ k = 21 ∨ k = 27 ∨ k = 32) → hI g o_m k = hI h o_m k) : mC c w g := by
  unfold mC vLe at *
  rw [em 21 (by decide), em 1 (by decide), em 27 (by decide), em 32 (by decide)]
  exact ⟨q.1, q.2.1, fun z => lk_keep (q.2.2.1 z) fun o k h1 h2 => eI o k (by omega) (by omega), fun z => st_keep (q.2.2.2 z) fun o k h1 h2 => eI o k (by omega) (by omega)⟩
theorem RMd_rd {G : Hp} (p : RMd A h) (q : rdH h b n N G) : RMd (up2 (up2 A 5 0 0) 5 1 (lwB (tC b n) (tV b n) N (tkS b n))) G := by
  obtain ⟨p1, p2, p3, p4, p5, p6, p7, p8, p9, p10, p11, p12⟩ := p
  obtain ⟨q0, qe, q10, q11, -⟩ := q
  have e : ∀ o k, ¬ (112 ≤ o ∧ o ≤ 114) → o ≠ 104 → hI G o k = hI h o k := fun o k h1 h2 => qe o k h1 (fun z => h2 z.1)
  have em : ∀ k, ¬ (k = 10 ∨ k = 11 ∨ k = 15 ∨ k = 16 ∨ k = 17 ∨ k = 18) → hI G o_m k = hI h o_m k := fun k h1 => qe _ k (by decide) (fun z => h1 z.2)
  refine ⟨?_, fun k i hk hi => ?_, fun k hk => ?_, fun k hk => ?_, ?_, ?_, ?_, ?_, fun k hk => ?_, fun k hk => ?_, ?_, fun k hk => ?_⟩
  · rw [up2_o (by decide), up2_o (by decide), ← p1]; exact funext fun k => e _ _ (by decide) (by decide)
  · rw [up2_o (by omega), up2_o (by omega), e _ _ (by decide) (by decide)]; exact p2 k i hk hi
  · rw [up2_o (by decide), up2_o (by decide), e _ _ (by decide) (by decide)]; exact p3 k hk
  · rw [up2_o (by decide), up2_o (by decide), e _ _ (by decide) (by decide)]; exact p4 k hk
  · rw [up2_n (by decide), up2_s]; exact q10
  · rw [up2_s]; exact q11
  · rw [up2_n (by decide), up2_n (by decide), em _ (by decide)]; exact p7
  · rw [up2_n (by decide), up2_n (by decide), em _ (by decide)]; exact p8
  · rw [up2_o (by decide), up2_o (by decide), e _ _ (by decide) (by decide)]; exact p9 k hk
  · rw [up2_o (by decide), up2_o (by decide), e _ _ (by decide) (by decide)]; exact p10 k hk
  · rw [up2_o (by decide), up2_o (by decide), em _ (by decide)]; exact p11
  · rw [e _ _ (by decide) (by decide)]; exact p12 k hk
theorem rdH_C {G : Hp} (q : rdH h b n N G) : keepC h G := ⟨q.1, fun o k ho => q.2.1 o k (by omega) (by omega)⟩
theorem tk_one {N' : Nat} (t1 : tkS b n N = n) (l1 : ∀ t, t < N → tkS b n t < n) (t2 : tkS b n N' = n) (l2 : ∀ t, t < N' → tkS b n t < n) : N' = N := by
  rcases Nat.lt_trichotomy N' N with z | z | z
  · have := l1 N' z; omega
  · exact z
  · have := l2 N z; omega
theorem s_law (wf : wfA A) : stp cx jX11_law jX12_law [] A := by
  obtain ⟨n, hn, en⟩ := wf.2.2.1
  obtain ⟨n0, s0, t, ws, wt, wi, wl⟩ := wf.1
  obtain ⟨a1, a2, a3, a4, a5, a6, a7, a8⟩ := id ws
  have hb : isBy (A 4) := wf.2.2.2.1
  obtain ⟨N, hN', tN, tl⟩ := tkS_N (b := A 4) (n := n)
  have hC : ∀ k, N ≤ k → tC (A 4) n k = 0 := fun k hk => by
    have := tkS_end tN (k - N)
    rw [show N + (k - N) = k by omega] at this
    unfold tC; rw [if_neg (by omega)]
  have hV : ∀ k, N ≤ k → tV (A 4) n k = 0 := fun k hk => by
    have := tkS_end tN (k - N)
    rw [show N + (k - N) = k by omega] at this
    unfold tV; rw [if_neg (by omega)]
  by_cases t6 : t = 6
  · refine ⟨-5, refA (up2 A 5 0 0) (-5) 5, wfA_ref (wfA_t0 wf), fun d a h hd _ p => ?_, fun d c h hd hc p => ?_⟩
    · have e6 : hI (wI h o_tape 1 0) o_wall 6 = nI 6 := by rw [rd_o (by decide)]; exact (p.1.1.1.2.2.2.2.2.1).trans (a7.trans (by rw [t6]))
      refine sX11_law rfl (And.intro (fun q1 => absurd (show nI 6 < 6 by rw [← e6]; exact q1) (by decide)) (fun q1 => (wcV (x_refuse5 (by omega)) ⟨rfl, RX_ref (by unfold rfs; decide) (RX_t0 p), fun o k h1 h2 => ?_⟩)))
      rw [xref_o (by omega) (by omega), rd_o (by show o ≠ 79; omega)]
    · refine M_mono (n_law_full (by omega) (by rw [p.1.1, a7, t6]; rfl)) ?_
      rintro r g ⟨rfl, rfl⟩
      have p' : RM c (up2 A 5 0 0) (wI h o_m 10 0) := ⟨RMd_m10 p.1, by rw [up2_o (by decide)]; exact mC_c p.2 (fun o k h1 h2 => rd_o (by show o ≠ 104; omega)) (fun k hk => rd_k (by omega))⟩
      refine ⟨rfl, RM_ref (by decide) p', keepC_t (g := wI h o_m 10 0) (keepC_w (by decide)) ?_⟩
      unfold nrefH; exact keepC_t (keepC_w (by decide)) (keepC_w (by decide))
  · have ht : t < 6 := by omega
    have rdM : ∀ d c h, 200 ≤ d → RM c A h → M cx jX12_law d 0 [.ref o_m] h (fun r g => ∃ G, rdH h (A 4) n N G ∧ (((pLaw (tC (A 4) n) (tV (A 4) n) N).1 = false ∧ r = some (.int (-6)) ∧ g = nrefH G (-6) 6) ∨ ((pLaw (tC (A 4) n) (tV (A 4) n) N).1 = true ∧ r = some (.int (nI t)) ∧ ∃ G', G'.2 = G.2 ∧ (∀ o k, o ≠ 106 → hI G' o k = hI G o k) ∧ kW G' = lawW (kW h) t N (tC (A 4) n) (tV (A 4) n) ∧ g = ngoodH G'))) := fun d c h hd p => by
      refine M_mono (n_law (by omega) (by rw [p.1.1]; exact a7) ht hn (p.1.2.2.2.2.1.trans en) hb p.1.2.2.2.1 p.1.2.2.2.2.2.2.2.2.2.2.2) ?_
      rintro r g ⟨N', G, q, z⟩
      obtain rfl := tk_one tN tl q.2.2.2.2.2.2.1 q.2.2.2.2.2.2.2.1
      exact ⟨G, q, z⟩
    have fr : ∀ {d a h}, 200 ≤ d → 1 ≤ a → RX A h → ∀ Q, (∀ g, keepG (wI h o_tape 1 0) g → hI g o_reader 9 = nI (tkS (A 4) n (pLaw (tC (A 4) n) (tV (A 4) n) N).2.1) → (pLaw (tC (A 4) n) (tV (A 4) n) N).1 = false → Q (some (.int (-6))) (xrefH (wI g o_x 10 (hI g o_reader 9)) (-6) 4)) → (∀ g0 m, keepG (wI h o_tape 1 0) g0 → m ≤ 400 → (pLaw (tC (A 4) n) (tV (A 4) n) N).1 = true → clsI (hI g0 o_reader_steps) (hI g0 o_reader_starts) m (pLaw (tC (A 4) n) (tV (A 4) n) N).2.2 → (pLaw (tC (A 4) n) (tV (A 4) n) N).2.2.length ≤ 12 → Q (some (.int (nI t))) (goodG g0 m (pLaw (tC (A 4) n) (tV (A 4) n) N).2.2.length t)) → M cx jX11_law d a [.ref o_x] h Q := fun {d a h} hd ha p Q kf kg => by
      have e6 : hI (wI h o_tape 1 0) o_wall 6 = nI t := by rw [rd_o (by decide), ← a7]; exact p.1.1.1.2.2.2.2.2.1
      have e1 : hI h o_tape 1 = nI n := p.1.2.2.2.2.1.trans en
      have p1 := RX_t0 p
      have rd := x_read (cx := cx) (d := d - 1) (h := wI h o_tape 1 0) (b := A 4) (n := n) (N := N) (by omega) hn (fun j hj => (rd_o (by decide)).trans (p.1.2.2.2.1 j hj)) hb hN' tN tl (ref_RX p1)
      rw [← e1] at rd
      refine sX11_law rfl (And.intro (fun q1 => (eX11_law (wcA rd ha (fun v g z => ?_) rfl))) (fun q1 => absurd (show hI (wI h o_tape 1 0) o_wall 6 < 6 by rw [e6]; exact nI_lt (b := 6) ht (by decide)) q1))
      rcases z with ⟨no, rfl, k, e9⟩ | ⟨ok, rfl, g0, m, rfl, k, e9, hm, ci, c12⟩
      · exact wcV (x_refuse6 (by omega)) (kf g k e9 no)
      · have eN : hN g0 = hN (wI h o_tape 1 0) := keepG_N k
        have e9' : hI (newH g0 m (pLaw (tC (A 4) n) (tV (A 4) n) N).2.2.length) o_reader 9 = -1 := by rw [newH_I (by show 81 < _; omega)]; exact e9
        have g6 : hI (wI (newH g0 m (pLaw (tC (A 4) n) (tV (A 4) n) N).2.2.length) o_x 10 (-1)) o_wall 6 = nI t := by
          rw [rd_o (by decide), newH_I (by show 65 < _; omega), k.2 _ _ (by decide) (by decide) (by decide)]; exact e6
        have lp : lawp (wI (newH g0 m (pLaw (tC (A 4) n) (tV (A 4) n) N).2.2.length) o_x 10 (-1)) (126 + 3 * hN (wI h o_tape 1 0)) := ⟨by omega, by show _ < 126 + 3 * (hN g0 + 1); omega, by omega⟩
        refine eX11_law ?_
        refine wp_hp (h := wI (newH g0 m (pLaw (tC (A 4) n) (tV (A 4) n) N).2.2.length) o_x 10 (hI (newH g0 m (pLaw (tC (A 4) n) (tV (A 4) n) N).2.2.length) o_reader 9)) (g := wI (newH g0 m (pLaw (tC (A 4) n) (tV (A 4) n) N).2.2.length) o_x 10 (-1)) (by rw [e9']) ?_
        refine wcV (m_addLaw (by omega) g6 ht lp) (wcV x_accept ?_)
        have := kg g0 m k hm ok ci c12
        unfold goodG at this
        rw [eN] at this
        exact this
    by_cases ok : (pLaw (tC (A 4) n) (tV (A 4) n) N).1 = true
    · have eb : lwB (tC (A 4) n) (tV (A 4) n) N (tkS (A 4) n) = -1 := if_pos ok
      have ww : wfW (lawW (A 0) t N (tC (A 4) n) (tV (A 4) n)) := lw_wf ht (by omega) hC hV ok ws wt wi wl
      refine ⟨nI t, goodA (up1 (up2 (up2 A 5 0 0) 5 1 (-1)) 0 (lawW (A 0) t N (tC (A 4) n) (tV (A 4) n))), wfA_wall (wfA_f1 (wfA_t0 wf)) ww, fun d a h hd ha p => ?_, fun d c h hd hc p => ?_⟩
      · refine fr hd ha p _ (fun g k e9 no => by rw [ok] at no; cases no) (fun g0 m k hm _ ci c12 => ?_)
        have := RX_new (A := up2 A 5 0 0) (C := tC (A 4) n) (V := tV (A 4) n) (N := N) (RX_t0 p) k ht (by omega) hC hV (by rw [up2_o (by decide)]; exact ws) (by rw [up2_o (by decide)]; exact wl) hm c12 ci
        rw [show up2 A 5 0 0 0 = A 0 from up2_o (by decide)] at this
        exact ⟨rfl, this.1, fun o j h1 h2 => (this.2 o j h1 h2).trans (rd_o (by show o ≠ 79; omega))⟩
      · refine M_mono (rdM d c h hd p) ?_
        rintro r g ⟨G, q, z⟩
        rcases z with ⟨no, -⟩ | ⟨-, rfl, G', g2, gI, gW, rfl⟩
        · rw [ok] at no; cases no
        · have rd := RMd_rd p.1 q
          rw [eb] at rd
          have qe := q.2.1
          rw [p.1.1] at gW
          refine ⟨rfl, RM_good hc p.2 (fun k hk => ?_) (RMd_wall rd gW fun o k _ _ h3 => gI o k h3), keepC_t (rdH_C q) (keepC_t ⟨g2, fun o k ho => gI o k (by omega)⟩ keepC_good)⟩
          rw [gI _ _ (by decide)]; exact qe _ _ (by decide) (by omega)
    · have no : (pLaw (tC (A 4) n) (tV (A 4) n) N).1 = false := ts_nt ok
      have eb : lwB (tC (A 4) n) (tV (A 4) n) N (tkS (A 4) n) = nI (tkS (A 4) n (pLaw (tC (A 4) n) (tV (A 4) n) N).2.1) := if_neg ok
      refine ⟨-6, refA (up2 (up2 A 5 0 0) 5 1 (lwB (tC (A 4) n) (tV (A 4) n) N (tkS (A 4) n))) (-6) 6, wfA_ref (wfA_f1 (wfA_t0 wf)), fun d a h hd ha p => ?_, fun d c h hd hc p => ?_⟩
      · refine fr hd ha p _ (fun g k e9 _ => ?_) (fun g0 m k hm y ci c12 => absurd y ok)
        rw [e9, ← eb]
        refine ⟨rfl, RX_ref (by unfold rfs; decide) (RX_bad (RX_t0 p) k), fun o j h1 h2 => ?_⟩
        rw [xref_o (by omega) (by omega), rd_o (by show o ≠ 64; omega), k.2 o j (by omega) (by omega) (by omega), rd_o (by show o ≠ 79; omega)]
      · refine M_mono (rdM d c h hd p) ?_
        rintro r g ⟨G, q, z⟩
        rcases z with ⟨-, rfl, rfl⟩ | ⟨y, -⟩
        · have qe := q.2.1
          have p' : RM c (up2 (up2 A 5 0 0) 5 1 (lwB (tC (A 4) n) (tV (A 4) n) N (tkS (A 4) n))) G := ⟨RMd_rd p.1 q, by rw [up2_o (by decide), up2_o (by decide)]; exact mC_c2 p.2 (fun o k h1 h2 => qe o k (by omega) (by omega)) (fun k hk => qe _ _ (by decide) (by omega))⟩
          refine ⟨rfl, RM_ref (by decide) p', keepC_t (rdH_C q) ?_⟩
          unfold nrefH; exact keepC_t (keepC_w (by decide)) (keepC_w (by decide))
        · exact absurd y ok
end T999997
