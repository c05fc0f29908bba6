/-! questions of the wall as it is, and of what falls, on both sides -/
section T990
variable {cx : Cx} {d a c : Nat} {h g f : Hp} {w : Wd} {A : Ab} {n s t : Nat}
theorem rng {q : Int32} {m : Nat} (hm : m < 2 ^ 31) (z : 0 ≤ q ∧ q ≤ nI m) : ∃ k, k ≤ m ∧ q = nI k := by
  obtain ⟨k, hk, rfl⟩ := nI_of (x := q) (Int32.not_lt.mpr z.1)
  exact ⟨k, (nI_leI hk hm).mp z.2, rfl⟩
theorem rng_of {k m : Nat} (hk : k ≤ m) (hm : m < 2 ^ 31) : (0 : Int32) ≤ nI k ∧ nI k ≤ nI m := ⟨nI_pos' (by omega), nI_le hk hm⟩
theorem x_stone (p : wFm w h) {v : Int32} : (0 ≤ v ∧ v ≤ hI h o_wall 3 - 1) ↔ cStone w v := by unfold cStone; rw [p.2.2.1]
theorem part_x {x : Int32} (hn : n ≤ 14) (lT : low n (w 159)) : cPart w x ↔ x &&& (w 159 ^^^ -1) = 0 := by
  refine ⟨fun z => z.2, fun z => ⟨?_, z⟩⟩
  obtain ⟨m, hm, rfl⟩ := low_nI (by omega) (low_sub (sub_iff.mpr z) lT)
  have := pow14 hn
  exact ⟨nI_pos' (by omega), nI_le (b := 16383) (by omega) (by decide)⟩
theorem part_low {x : Int32} (hn : n ≤ 14) (lT : low n (w 159)) (z : cPart w x) : sub x (w 159) := part_sub z
/-- the end of a question of the class -/
theorem x_fin {r : Int32} (p : RX A h) (wf : wfS (A 0) n s t) (k : keepQ h g) (fr : frs (A 0) n s t g) : xQ A r h (some (.int r)) g := ⟨rfl, frs_RX p k wf fr, keepQ_Md k⟩
theorem x_fin' {r r' : Int32} (e : r' = r) (p : RX A h) (wf : wfS (A 0) n s t) (k : keepQ h g) (fr : frs (A 0) n s t g) : xQ A r h (some (.int r')) g := by rw [e]; exact x_fin p wf k fr
theorem frs_Th (k : keepTh h g) (q : frs w n s t h) (th : thOk w (aU w (lawOf w)) n s g) : frs w n s t g := ⟨by rw [k.1 _ _ (by decide)]; exact q.1, wX_c q.2.1 k.1, th⟩
/-! of, at -/
theorem s_of (wf : wfA A) {v q : Int32} : stp cx jX11_of jX12_of [.int v, .int q] A := by
  obtain ⟨n, s, t, ws, wt, wi, wl⟩ := id wf.1
  obtain ⟨hn, en, lT⟩ := wfS_n ws
  by_cases y : cStone (A 0) v ∧ 0 ≤ q ∧ q ≤ 7
  · obtain ⟨k, hk, rfl⟩ := cStone_nI en hn y.1
    obtain ⟨j, hj, rfl⟩ := rng (m := 7) (by decide) y.2
    by_cases e7 : j = 7
    · subst e7
      refine stp_same (k := (A 0 159 >>> (nI k &&& 31)) &&& 1) wf (fun d a h hd p => ?_) (fun d c h hd p => ?_)
      · refine sX11_of rfl (wcV (m_isStone (by omega)) (And.intro (fun q1 => absurd ((x_stone p.1.1.1).mpr y.1) (b2i_0.mp q1)) (fun q1 => (wcS m_isWithin (And.intro (fun q2 => (eX11_of (And.intro (fun q3 => absurd rfl q3) (fun q3 => (eX11_of (RQ_eq ?_)))))) (fun q2 => absurd y.2 (b2i_0.mp q2)))))))
        rw [show hI h (ly_rf o_x 0) 5 = A 0 159 from p.1.1.1.2.2.2.2.1]
      · rw [← p.1.1] at y ⊢; exact n_of_7 (by omega) y.1
    · refine stp_same (k := A 0 (7 * k + j)) wf (fun d a h hd p => ?_) (fun d c h hd p => ?_)
      · refine sX11_of rfl (wcV (m_isStone (by omega)) (And.intro (fun q1 => absurd ((x_stone p.1.1.1).mpr y.1) (b2i_0.mp q1)) (fun q1 => (wcS m_isWithin (And.intro (fun q2 => (eX11_of (And.intro (fun q3 => (eX11_of (wcV m_fact (eX11_of (RQ_eq (fact_w p.1.1.1 (by omega) (by omega))))))) (fun q3 => absurd ((nI_eq (b := 7) (by omega) (by decide)).mp q3) e7)))) (fun q2 => absurd y.2 (b2i_0.mp q2)))))))
      · rw [← p.1.1] at y ⊢; exact n_of_f (by omega) y.1 rfl rfl (by omega) (by omega)
  · refine stp_same (k := -1) wf (fun d a h hd p => ?_) (fun d c h hd p => ?_)
    · exact sX11_of rfl (wcV (m_isStone (by omega)) (And.intro (fun q1 => (eX11_of ⟨rfl, rfl⟩)) (fun q1 => (wcS m_isWithin (And.intro (fun q2 => absurd ⟨(x_stone p.1.1.1).mp (b2i_n q1), b2i_n q2⟩ y) (fun q2 => (eX11_of ⟨rfl, rfl⟩)))))))
    · rw [← p.1.1] at y; exact n_of_no (by omega) y
theorem cov_11 (p : wFm w h) {k : Nat} {x y : Int32} (hk : k < 22) : fCov h (nI k) x y 1 1 ↔ cCov w k x y := by
  unfold fCov cCov
  rw [show fFact h (nI k) 0 = w (7 * k + 0) from fact_w p hk (by decide), show fFact h (nI k) 1 = w (7 * k + 1) from fact_w p hk (by decide), show fFact h (nI k) 2 = w (7 * k + 2) from fact_w p hk (by decide), show fFact h (nI k) 3 = w (7 * k + 3) from fact_w p hk (by decide), Int32.sub_add_cancel, Int32.sub_add_cancel]
theorem s_at (wf : wfA A) {x y : Int32} : stp cx jX11_at jX12_at [.int x, .int y] A := by
  obtain ⟨n, s, t, ws, wt, wi, wl⟩ := id wf.1
  obtain ⟨hn, en, lT⟩ := wfS_n ws
  refine stp_same (k := fst (fun k => inB (A 0 159) k ∧ cCov (A 0) k x y) n 0) wf (fun d a h hd p => ?_) (fun d c h hd p => ?_)
  · have eS : hI h (ly_rf o_x 0) 3 = nI n := p.1.1.1.2.2.1.trans en
    have eT : hI h (ly_rf o_x 0) 5 = A 0 159 := p.1.1.1.2.2.2.2.1
    have loop : ∀ m k, m + k = n → fst (fun k => inB (A 0 159) k ∧ cCov (A 0) k x y) m k = fst (fun k => inB (A 0 159) k ∧ cCov (A 0) k x y) n 0 → E cx jX11_at d a 2 [some (.ref o_x), some (.int x), some (.int y), some (.int (nI k))] [] h (RQ (.int (fst (fun k => inB (A 0 159) k ∧ cCov (A 0) k x y) n 0)) h) := by
      intro m
      induction m with
      | zero =>
        intro k hk e
        obtain rfl : k = n := by omega
        exact eX11_at (And.intro (fun _ => eX11_at (RQ_eq e)) (fun q => absurd (by rw [eS]; exact Int32.le_refl _) q))
      | succ m ih =>
        intro k hk e
        have no : ¬ (inB (A 0 159) k ∧ cCov (A 0) k x y) → E cx jX11_at d a 44 [some (.ref o_x), some (.int x), some (.int y), some (.int (nI k))] [] h (RQ (.int (fst (fun k => inB (A 0 159) k ∧ cCov (A 0) k x y) n 0)) h) := fun z => by
          have i := ih (k + 1) (by omega) (by rw [← e, fst_f z])
          rw [nI_succ] at i
          exact eX11_at i
        refine eX11_at (And.intro (fun q => absurd q (by rw [eS]; exact nI_ge (by omega) (by omega))) (fun _ => And.intro (fun q2 => no fun z => ?_) (fun q2 => wcV (m_covers (by omega)) (And.intro (fun q3 => no fun z => b2i_0.mp q3 ((cov_11 p.1.1.1 (by omega)).mpr z.2)) (fun q3 => RQ_eq ?_)))))
        · rw [eT] at q2; exact (inB_n (by omega)).mpr q2 z.1
        · rw [eT] at q2
          rw [← e]
          exact (fst_t (P := fun k => inB (A 0 159) k ∧ cCov (A 0) k x y) ⟨Classical.byContradiction fun v => q2 ((inB_n (by omega)).mp v), (cov_11 p.1.1.1 (by omega)).mp (b2i_n q3)⟩).symm
    exact sX11_at rfl (loop n 0 rfl rfl)
  · rw [← p.1.1]; exact n_at (by omega) (by rw [p.1.1]; exact en) hn
/-! touches -/
theorem s_touches (wf : wfA A) {v q : Int32} : stp cx jX11_touches jX12_touches [.int v, .int q] A := by
  obtain ⟨n, s, t, ws, wt, wi, wl⟩ := id wf.1
  obtain ⟨hn, en, lT⟩ := wfS_n ws
  by_cases y : cStone (A 0) v ∧ 0 ≤ q ∧ q ≤ 3
  · obtain ⟨k, hk, rfl⟩ := cStone_nI en hn y.1
    refine stp_q (k := tchA (A 0) (lawOf (A 0)) k q) wf (fun d a h hd p => ?_) (fun d c h hd p => n_touches_ok (by omega) p.1.1 wf.1 p.2 en hn hk y.2)
    refine sX11_touches rfl (wcV (m_isStone (by omega)) (And.intro (fun q1 => (eX11_touches (wcQ (x_refresh (by omega) p ws wt wi) (fun u G z => ?_) (fun u G z => keepQ_N z.2.1)))) (fun q1 => absurd ((x_stone p.1.1.1).mpr y.1) (b2i_0.mp q1))))
    obtain ⟨rfl, kq, fr⟩ := z
    obtain ⟨f1, f2, f3, f4, f5⟩ := fr.2.1.2.2.2 k (by omega) (stone_item en hn hk)
    have r21 : (0 : Int32) ≤ nI k ∧ nI k ≤ 21 := ⟨nI_pos' (by omega), nI_le (b := 21) (by omega) (by decide)⟩
    have ck : (nI k).toNatClampNeg = k := nI_clamp (by omega)
    have eT : hI G (ly_rf o_x 0) 5 = A 0 159 := (wX_T fr.2.1).1
    refine And.intro (fun z => ?_) (And.intro (fun z => ?_) (And.intro (fun z => ?_) (And.intro (fun z => ?_) (And.intro (fun z => ?_) trivial))))
    · obtain ⟨j, hj, ej⟩ := rng (m := 3) (by decide) y.2
      exact absurd ej (z j (Nat.lt_succ_of_le hj))
    · subst z
      refine eX11_touches (wcV (m_needOf (by omega)) (x_fin' ?_ p ws kq fr))
      rw [if_pos r21, ck, f2]; unfold tchA; rw [if_pos (by decide)]
    · subst z
      refine eX11_touches (And.intro (fun q2 => (eX11_touches (wcV (m_touchesOf (by omega)) (eX11_touches (x_fin' ?_ p ws kq fr))))) (fun q2 => (eX11_touches (x_fin' ?_ p ws kq fr))))
      · rw [eT] at q2 ⊢
        have b : bt (A 0 159) k = true := (shr_bt (by omega)).mp q2
        rw [if_pos r21, ck, f1, f3, bcw_ones (low_sub sub_and1 near_low)]; unfold tchA; rw [if_neg (by decide), if_pos (by decide), if_pos b]
      · rw [eT] at q2
        have b : ¬ bt (A 0 159) k = true := fun u => (shr_bt (by omega)).mpr u q2
        unfold tchA; rw [if_neg (by decide), if_pos (by decide), if_neg b]
    · subst z
      have fb : fBnd G (nI k) ↔ mBnd (A 0) (lawOf (A 0)) k = true := by
        unfold fBnd; rw [shr_bt (by omega), f5]; exact ⟨fun u => u.2, fun u => ⟨r21, u⟩⟩
      refine eX11_touches (wcV (m_isBoundF (by omega)) (And.intro (fun q2 => (eX11_touches (eX11_touches (x_fin' ?_ p ws kq fr)))) (fun q2 => (eX11_touches (x_fin' ?_ p ws kq fr)))))
      · unfold tchA; rw [if_neg (by decide), if_neg (by decide), if_pos (by decide), ts_nt fun u => b2i_0.mp q2 (fb.mpr u)]; rfl
      · unfold tchA; rw [if_neg (by decide), if_neg (by decide), if_pos (by decide), fb.mp (b2i_n q2)]; rfl
    · subst z
      refine eX11_touches (wcV (m_besideOf (by omega)) (x_fin' ?_ p ws kq fr))
      rw [if_pos r21, ck, f1, eT]; unfold tchA; rw [if_neg (by decide), if_neg (by decide), if_neg (by decide)]
  · refine stp_q (k := -1) wf (fun d a h hd p => ?_) (fun d c h hd p => M_mono (n_touches_no (by omega) (by rw [p.1.1]; exact y)) (qM_same p.2))
    refine sX11_touches rfl (wcV (m_isStone (by omega)) (And.intro (fun q1 => (eX11_touches (wcQ (x_refresh (by omega) p ws wt wi) (fun u G z => ?_) (fun u G z => keepQ_N z.2.1)))) (fun q1 => ⟨rfl, p, fun _ _ _ _ => rfl⟩)))
    obtain ⟨rfl, kq, fr⟩ := z
    have nq : ¬ (0 ≤ q ∧ q ≤ 3) := fun u => y ⟨(x_stone p.1.1.1).mp (b2i_n q1), u⟩
    refine And.intro (fun z => (eX11_touches (x_fin p ws kq fr))) (And.intro (fun z => ?_) (And.intro (fun z => ?_) (And.intro (fun z => ?_) (And.intro (fun z => ?_) trivial))))
    all_goals subst z; exact absurd (by decide) nq
/-! unlawful -/
theorem s_unlawful (wf : wfA A) : stp cx jX11_unlawful jX12_unlawful [] A := by
  obtain ⟨n, s, t, ws, wt, wi, wl⟩ := id wf.1
  obtain ⟨hn, en, lT⟩ := wfS_n ws
  refine stp_q (k := fst (fun k => bt (aU (A 0) (lawOf (A 0)) (A 0 159)) k = true) n 0) wf (fun d a h hd p => ?_) (fun d c h hd p => n_unlawful (by omega) p.1.1 wf.1 p.2 en hn lT)
  refine sX11_unlawful rfl (wcQ (x_refresh (by omega) p ws wt wi) (fun u G z => ?_) (fun u G z => keepQ_N z.2.1))
  obtain ⟨rfl, kq, fr⟩ := z
  have eT : hI G (ly_rf o_x 0) 5 = A 0 159 := (wX_T fr.2.1).1
  have un : M cx jX2_unsteady (d - 1) 0 [.ref o_frame, .int (hI G (ly_rf o_x 0) 5)] G (RQ (.int (aU (A 0) (lawOf (A 0)) (A 0 159))) G) := by
    rw [eT, ← uns_low fr.2.1 _ lT]; exact m_unsteady (by omega)
  have cut : fst (fun k => bt (aU (A 0) (lawOf (A 0)) (A 0 159)) k = true) 14 0 = fst (fun k => bt (aU (A 0) (lawOf (A 0)) (A 0 159)) k = true) n 0 := fst_cut hn (by decide) fun k z hk => lT k (by omega) (Uok_aU _ k (by omega) z).2
  have loop : ∀ m k, m + k = 14 → fst (fun k => bt (aU (A 0) (lawOf (A 0)) (A 0 159)) k = true) m k = fst (fun k => bt (aU (A 0) (lawOf (A 0)) (A 0 159)) k = true) n 0 → E cx jX11_unlawful d a 21 [some (.ref o_x), some (.int (aU (A 0) (lawOf (A 0)) (A 0 159))), some (.int (nI k))] [] G (xQ A (fst (fun k => bt (aU (A 0) (lawOf (A 0)) (A 0 159)) k = true) n 0) h) := by
    intro m
    induction m with
    | zero =>
      intro k hk e
      obtain rfl : k = 14 := by omega
      exact eX11_unlawful (And.intro (fun _ => eX11_unlawful (x_fin' e p ws kq fr)) (fun q => absurd (Int32.le_refl _) q))
    | succ m ih =>
      intro k hk e
      refine eX11_unlawful (And.intro (fun q => absurd q (nI_ge (b := 14) (by omega) (by decide))) (fun _ => And.intro (fun q2 => (eX11_unlawful ?_)) (fun q2 => x_fin' ?_ p ws kq fr)))
      · have nb : ¬ bt (aU (A 0) (lawOf (A 0)) (A 0 159)) k = true := fun u => (shr_bt (by omega)).mpr u q2
        have i := ih (k + 1) (by omega) (by rw [← e, fst_f nb])
        rw [nI_succ] at i
        exact i
      · rw [← e]; exact (fst_t (P := fun k => bt (aU (A 0) (lawOf (A 0)) (A 0 159)) k = true) ((shr_bt (by omega)).mp q2)).symm
  exact wcV un (loop 14 0 rfl cut)
/-! falls -/
theorem s_falls (wf : wfA A) {x q : Int32} : stp cx jX11_falls jX12_falls [.int x, .int q] A := by
  obtain ⟨n, s, t, ws, wt, wi, wl⟩ := id wf.1
  obtain ⟨hn, en, lT⟩ := wfS_n ws
  have px := part_x (x := x) hn lT
  by_cases y : cPart (A 0) x ∧ 0 ≤ q ∧ q ≤ 3
  · refine stp_q (k := falA (A 0) (aU (A 0) (lawOf (A 0))) n x q) wf (fun d a h hd p => ?_) (fun d c h hd p => n_falls_ok (by omega) p.1.1 wf.1 p.2 en hn lT y.1 y.2)
    have eT0 : hI h (ly_rf o_x 0) 5 = A 0 159 := p.1.1.1.2.2.2.2.1
    refine sX11_falls rfl (wcS m_isPart (And.intro (fun q1 => (eX11_falls (wcQ (x_refresh (by omega) p ws wt wi) (fun u G z => ?_) (fun u G z => keepQ_N z.2.1)))) (fun q1 => absurd (by rw [eT0]; exact px.mp y.1) (b2i_0.mp q1))))
    obtain ⟨rfl, kq, fr⟩ := z
    have eT : hI G (ly_rf o_x 0) 5 = A 0 159 := (wX_T fr.2.1).1
    have ll : low n (dif (A 0 159) x) := low_sub sub_dif lT
    have se : M cx jX2_settled (d - 1) 0 [.ref o_frame, .int (hI G (ly_rf o_x 0) 5 &&& (x ^^^ -1))] G (RQ (.int (fallA (aU (A 0) (lawOf (A 0))) (dif (A 0 159) x))) G) := by
      rw [eT, ← set_fall fr.2.1 ll]; exact m_settled (by omega)
    have ro : M cx jX2_rounds (d - 1) 0 [.ref o_frame, .int (hI G (ly_rf o_x 0) 5 &&& (x ^^^ -1))] G (RQ (.int (nI (itN (aU (A 0) (lawOf (A 0))) 22 (dif (A 0 159) x)))) G) := by
      rw [eT, ← rnd_fall fr.2.1 ll]; exact m_rounds (by omega)
    have lf : low n (dif (dif (A 0 159) x) (fallA (aU (A 0) (lawOf (A 0))) (dif (A 0 159) x))) := low_sub sub_dif ll
    refine wcV se (And.intro (fun z => ?_) (And.intro (fun z => ?_) (And.intro (fun z => ?_) (And.intro (fun z => ?_) (And.intro (fun z => ?_) trivial)))))
    · obtain ⟨j, hj, ej⟩ := rng (m := 3) (by decide) y.2
      exact absurd ej (z j (Nat.lt_succ_of_le hj))
    · subst z
      refine eX11_falls (wcS m_bitCount (x_fin' ?_ p ws kq fr))
      rw [eT]; unfold falA; rw [if_pos (by decide)]; exact bcw_ones (low_le (by omega) lf)
    · subst z
      refine eX11_falls (wcV ro (x_fin' ?_ p ws kq fr))
      unfold falA; rw [if_neg (by decide), if_pos (by decide)]
    · subst z
      refine eX11_falls (x_fin' ?_ p ws kq fr)
      unfold falA; rw [if_neg (by decide), if_neg (by decide), if_pos (by decide)]
    · subst z
      refine eX11_falls (wcV (m_weightOf (by omega)) (x_fin' ?_ p ws kq fr))
      rw [eT]; unfold falA; rw [if_neg (by decide), if_neg (by decide), if_neg (by decide)]; exact wt_eq fr.2.1.1 hn lf
  · refine stp_q (k := -1) wf (fun d a h hd p => ?_) (fun d c h hd p => M_mono (n_falls_no (by omega) (by rw [p.1.1]; exact y)) (qM_same p.2))
    have eT0 : hI h (ly_rf o_x 0) 5 = A 0 159 := p.1.1.1.2.2.2.2.1
    refine sX11_falls rfl (wcS m_isPart (And.intro (fun q1 => (eX11_falls (wcQ (x_refresh (by omega) p ws wt wi) (fun u G z => ?_) (fun u G z => keepQ_N z.2.1)))) (fun q1 => ⟨rfl, p, fun _ _ _ _ => rfl⟩)))
    obtain ⟨rfl, kq, fr⟩ := z
    have nq : ¬ (0 ≤ q ∧ q ≤ 3) := fun u => y ⟨px.mpr (by have := b2i_n q1; rw [eT0] at this; exact this), u⟩
    refine wcV (m_settled (by omega)) (And.intro (fun z => (eX11_falls (x_fin p ws kq fr))) (And.intro (fun z => ?_) (And.intro (fun z => ?_) (And.intro (fun z => ?_) (And.intro (fun z => ?_) trivial)))))
    all_goals subst z; exact absurd (by decide) nq
end T990
