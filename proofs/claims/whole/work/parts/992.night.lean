/-! night on both sides -/
section T992
variable {cx : Cx} {d a c : Nat} {h g f : Hp} {w : Wd} {A : Ab} {n s t : Nat}
theorem cntD_cg {P R : Nat → Prop} : ∀ m k, (∀ i, k ≤ i → i < k + m → (P i ↔ R i)) → cntD P m k = cntD R m k := by
  intro m
  induction m with
  | zero => intro _ _; rfl
  | succ m ih =>
    intro k e
    have i := ih (k + 1) (fun i h1 h2 => e i (by omega) (by omega))
    by_cases p : P k
    · rw [cntD_t p, cntD_t ((e k (by omega) (by omega)).mp p), i]
    · rw [cntD_f p, cntD_f (fun z => p ((e k (by omega) (by omega)).mpr z)), i]
theorem cntD_skip {P : Nat → Prop} {m : Nat} : ∀ j, (∀ k, k < j → ¬ P k) → ∀ k, k ≤ j → cntD P (m + (j - k)) k = cntD P m j := by
  intro j q
  have : ∀ u k, u + k = j → cntD P (m + (j - k)) k = cntD P m j := by
    intro u
    induction u with
    | zero => intro k hk; obtain rfl : k = j := by omega
              rw [Nat.sub_self]; rfl
    | succ u ih =>
      intro k hk
      rw [show m + (j - k) = m + (j - (k + 1)) + 1 by omega, cntD_f (q k (by omega))]
      exact ih (k + 1) (by omega)
  intro k hk
  exact this (j - k) k (by omega)
theorem fst_cg {P R : Nat → Prop} : ∀ m k, (∀ i, k ≤ i → i < k + m → (P i ↔ R i)) → fst P m k = fst R m k := by
  intro m
  induction m with
  | zero => intro _ _; rfl
  | succ m ih =>
    intro k e
    have i := ih (k + 1) (fun i h1 h2 => e i (by omega) (by omega))
    by_cases p : P k
    · rw [fst_t p, fst_t ((e k (by omega) (by omega)).mp p)]
    · rw [fst_f p, fst_f (fun z => p ((e k (by omega) (by omega)).mpr z)), i]
theorem fst_skips {P : Nat → Prop} {m j : Nat} (q : ∀ k, k < j → ¬ P k) : fst P (m + j) 0 = fst P m j := by
  have : ∀ u k, u + k = j → fst P (m + u) k = fst P m j := by
    intro u
    induction u with
    | zero => intro k hk; obtain rfl : k = j := by omega
              rfl
    | succ u ih =>
      intro k hk
      rw [show m + (u + 1) = m + u + 1 from rfl, fst_f (q k (by omega))]
      exact ih (k + 1) (by omega)
  exact this j 0 rfl
theorem prC_D {x y : Int32} {i : Nat} : ∀ m k b, prC h x y i m k b = b + cntD (prP h x y i) m k := by
  intro m
  induction m with
  | zero => intro k b; rfl
  | succ m ih =>
    intro k b
    by_cases p : prP h x y i k
    · rw [prC, if_pos p, ih, cntD_t p]; omega
    · rw [prC, if_neg p, ih, cntD_f p]
theorem prF_fst {x y : Int32} {i : Nat} : ∀ m k, k + m < 2 ^ 31 → prF h x y i m k = if fst (prP h x y i) m k = -1 then none else some (prB i (fst (prP h x y i) m k).toNatClampNeg) := by
  intro m
  induction m with
  | zero => intro k _; rfl
  | succ m ih =>
    intro k hk
    by_cases p : prP h x y i k
    · rw [prF, if_pos p, fst_t p, if_neg (nI_m1 (by omega)), nI_clamp (by omega)]
    · rw [prF, if_neg p, fst_f p]; exact ih (k + 1) (by omega)
theorem sg_iff {T x : Int32} {k : Nat} (q : wX w n s t h) (lT : low n T) (hk : k < 14) : sgP h T x k ↔ sgA (aU w (lawOf w)) T x k := by
  unfold sgP sgA
  show (¬ one k &&& T = 0 ∧ setR h 22 (dif T (one k &&& T)) = x) ↔ _
  rw [one_and (by omega)]
  refine and_congr_right fun b => ?_
  rw [rm_one (by omega) b, set_fall q (low_sub sub_dif lT)]
theorem bt_prB {i k j : Nat} (hi : i < 14) (hk : k < 14) (hj : j < 32) : bt (prB i k) j = (decide (j = i) || decide (j = k)) := by
  unfold prB; rw [b_or, bt_one (by omega) hj, bt_one (by omega) hj]
theorem pr_iff {T x : Int32} {i k : Nat} (q : wX w n s t h) (lT : low n T) (hik : i < k) (hk : k < 14) : prP h T x i k ↔ prA (aU w (lawOf w)) T x i k := by
  unfold prP prA
  have e : prB i k &&& T = prB i k ↔ bt T i = true ∧ bt T k = true := by
    constructor
    · intro z
      have b : ∀ j, j < 32 → bt (prB i k &&& T) j = bt (prB i k) j := fun j _ => by rw [z]
      have b1 := b i (by omega)
      have b2 := b k (by omega)
      rw [b_and, bt_prB (by omega) hk (by omega)] at b1 b2
      simp at b1 b2
      exact ⟨b1, b2⟩
    · rintro ⟨b1, b2⟩
      apply b_ext; intro j hj
      rw [b_and, bt_prB (by omega) hk hj]
      by_cases e1 : j = i
      · subst e1; rw [b1]; simp
      · by_cases e2 : j = k
        · subst e2; rw [b2]; simp
        · simp [e1, e2]
  rw [e, set_fall q (low_sub sub_dif lT)]
  exact ⟨fun z => ⟨hik, z.1.1, z.1.2, z.2⟩, fun z => ⟨⟨z.2.1, z.2.2.1⟩, z.2.2.2⟩⟩
theorem prc_eq {T x : Int32} {i : Nat} (q : wX w n s t h) (lT : low n T) (hn : n ≤ 14) (hi : i < 14) : cntD (prP h T x i) (13 - i) (i + 1) = cnt (prA (aU w (lawOf w)) T x i) n := by
  rw [cntD_cg (R := prA (aU w (lawOf w)) T x i) _ _ (fun k h1 h2 => pr_iff q lT (by omega) (by omega)), ← cntD_skip (i + 1) (fun k hk z => by have := z.1; omega) 0 (by omega), cntD_cnt]
  rw [show 13 - i + (i + 1 - 0) = n + (14 - n) by omega]
  exact cnt_cut _ fun k z _ => lT k (by omega) z.2.2.1
theorem prf_eq {T x : Int32} {i : Nat} (q : wX w n s t h) (lT : low n T) (hn : n ≤ 14) (hi : i < 14) : fst (prP h T x i) (13 - i) (i + 1) = fst (prA (aU w (lawOf w)) T x i) n 0 := by
  rw [fst_cg (R := prA (aU w (lawOf w)) T x i) _ _ (fun k h1 h2 => pr_iff q lT (by omega) (by omega)), ← fst_skips (fun k hk z => by have := z.1; omega)]
  rw [show 13 - i + (i + 1) = 14 by omega]
  exact fst_cut hn (by decide) fun k z _ => lT k (by omega) z.2.2.1
theorem prcc_eq {T x : Int32} (q : wX w n s t h) (lT : low n T) (hn : n ≤ 14) : prCC h T x 14 0 0 = cP2 (aU w (lawOf w)) T x n n := by
  have up : ∀ m i, m + i = 14 → prCC h T x m i (cP2 (aU w (lawOf w)) T x n i) = cP2 (aU w (lawOf w)) T x n 14 := by
    intro m
    induction m with
    | zero => intro i hi; obtain rfl : i = 14 := by omega
              rfl
    | succ m ih =>
      intro i hi
      rw [prCC, prC_D, prc_eq q lT hn (by omega)]
      exact ih (i + 1) (by omega)
  have dn : ∀ m, n + m ≤ 14 → cP2 (aU w (lawOf w)) T x n (n + m) = cP2 (aU w (lawOf w)) T x n n := by
    intro m
    induction m with
    | zero => intro _; rfl
    | succ m ih =>
      intro hm
      rw [show n + (m + 1) = n + m + 1 from rfl, cP2, prA_no (fun z => by have := lT (n + m) (by omega) z; omega), Nat.add_zero]
      exact ih (by omega)
  have := dn (14 - n) (by omega)
  rw [show n + (14 - n) = 14 by omega] at this
  exact (up 14 0 rfl).trans this
theorem prff_eq {T x : Int32} (q : wX w n s t h) (lT : low n T) (hn : n ≤ 14) : prFF h T x 14 0 = fP2 (aU w (lawOf w)) T x n n := by
  have up : ∀ m i, m + i = 14 → (if fP2 (aU w (lawOf w)) T x n i = -1 then prFF h T x m i else fP2 (aU w (lawOf w)) T x n i) = fP2 (aU w (lawOf w)) T x n 14 := by
    intro m
    induction m with
    | zero =>
      intro i hi; obtain rfl : i = 14 := by omega
      by_cases e : fP2 (aU w (lawOf w)) T x n 14 = -1
      · rw [if_pos e, e]; rfl
      · rw [if_neg e]
    | succ m ih =>
      intro i hi
      have := ih (i + 1) (by omega)
      by_cases e : fP2 (aU w (lawOf w)) T x n i = -1
      · rw [if_pos e, ← this, fP2, if_pos e, prFF, prF_fst _ _ (by omega), prf_eq q lT hn (by omega)]
        by_cases e2 : fst (prA (aU w (lawOf w)) T x i) n 0 = -1
        · have e3 : fB2 (aU w (lawOf w)) T x i n = -1 := by unfold fB2; rw [if_pos e2]
          rw [if_pos e2, if_pos e3]
        · obtain ⟨j, h1, h2, h3, h4, h5⟩ := fst_some n 0 e2
          have e3 : fB2 (aU w (lawOf w)) T x i n = prB i j := by unfold fB2; rw [if_neg e2, h3, nI_clamp (by omega)]
          rw [if_neg e2, e3, if_neg (prB_ne (by omega) (by omega)), h3, nI_clamp (by omega)]
      · rw [if_neg e, ← this, fP2, if_neg e, if_neg e]
  have dn : ∀ m, n + m ≤ 14 → fP2 (aU w (lawOf w)) T x n (n + m) = fP2 (aU w (lawOf w)) T x n n := by
    intro m
    induction m with
    | zero => intro _; rfl
    | succ m ih =>
      intro hm
      rw [show n + (m + 1) = n + m + 1 from rfl, fP2, fB2_no (fun z => by have := lT (n + m) (by omega) z; omega), ← ih (by omega)]
      by_cases e : fP2 (aU w (lawOf w)) T x n (n + m) = -1
      · rw [if_pos e, e]
      · rw [if_neg e]
  have := dn (14 - n) (by omega)
  rw [show n + (14 - n) = 14 by omega] at this
  exact (up 14 0 rfl).trans this
theorem s_night (wf : wfA A) {x q : Int32} : stp cx jX11_night jX12_night [.int x, .int q] A := by
  obtain ⟨n, s, t, ws, wt, wi, wl⟩ := id wf.1
  obtain ⟨hn, en, lT⟩ := wfS_n ws
  have px := part_x (x := x) hn lT
  by_cases y : cPart (A 0) x ∧ 0 ≤ q ∧ q ≤ 3
  · refine stp_q (k := nigA (aU (A 0) (lawOf (A 0))) (A 0 159) x n q) wf (fun d a h hd p => ?_) (fun d c h hd p => n_night_ok (by omega) p.1.1 wf.1 p.2 en hn lT y.1 y.2)
    have eT0 : hI h (ly_rf o_x 0) 5 = A 0 159 := p.1.1.1.2.2.2.2.1
    refine sX11_night rfl (wcS m_isPart (And.intro (fun q1 => (eX11_night (wcQ (x_refresh (by omega) p ws wt wi) (fun u G z => ?_) (fun u G z => keepQ_N z.2.1)))) (fun q1 => absurd (by rw [eT0]; exact px.mp y.1) (b2i_0.mp q1))))
    obtain ⟨rfl, kq, fr⟩ := z
    have eT : hI G (ly_rf o_x 0) 5 = A 0 159 := (wX_T fr.2.1).1
    refine And.intro (fun z => ?_) (And.intro (fun z => ?_) (And.intro (fun z => ?_) (And.intro (fun z => ?_) (And.intro (fun z => ?_) trivial))))
    · obtain ⟨j, hj, ej⟩ := rng (m := 3) (by decide) y.2
      exact absurd ej (z j (Nat.lt_succ_of_le hj))
    · subst z
      refine eX11_night (wcV (m_singlesC (by omega)) (x_fin' ?_ p ws kq fr))
      rw [eT]; unfold nigA; rw [if_pos (by decide), cnt_cg 14 (fun k hk => sg_iff fr.2.1 lT hk), show 14 = n + (14 - n) by omega]
      exact congrArg nI (cnt_cut _ fun k z _ => lT k (by omega) z.1)
    · subst z
      refine eX11_night (wcV (m_singlesL (by omega)) (x_fin' ?_ p ws kq fr))
      rw [eT]; unfold nigA; rw [if_neg (by decide), if_pos (by decide), fst_cg 14 0 (fun k _ hk => sg_iff fr.2.1 lT (by omega))]
      exact fst_cut hn (by decide) fun k z _ => lT k (by omega) z.1
    · subst z
      refine eX11_night (wcV (m_pairsC (by omega)) (x_fin' ?_ p ws kq fr))
      rw [eT]; unfold nigA; rw [if_neg (by decide), if_neg (by decide), if_pos (by decide), prcc_eq fr.2.1 lT hn]
    · subst z
      refine eX11_night (wcV (m_pairsL (by omega)) (x_fin' ?_ p ws kq fr))
      rw [eT]; unfold nigA; rw [if_neg (by decide), if_neg (by decide), if_neg (by decide), prff_eq fr.2.1 lT hn]
  · refine stp_q (k := -1) wf (fun d a h hd p => ?_) (fun d c h hd p => M_mono (n_night_no (by omega) (by rw [p.1.1]; exact y)) (qM_same p.2))
    have eT0 : hI h (ly_rf o_x 0) 5 = A 0 159 := p.1.1.1.2.2.2.2.1
    refine sX11_night rfl (wcS m_isPart (And.intro (fun q1 => (eX11_night (wcQ (x_refresh (by omega) p ws wt wi) (fun u G z => ?_) (fun u G z => keepQ_N z.2.1)))) (fun q1 => ⟨rfl, p, fun _ _ _ _ => rfl⟩)))
    obtain ⟨rfl, kq, fr⟩ := z
    have nq : ¬ (0 ≤ q ∧ q ≤ 3) := fun u => y ⟨px.mpr (by have := b2i_n q1; rw [eT0] at this; exact this), u⟩
    refine And.intro (fun z => (eX11_night (x_fin p ws kq fr))) (And.intro (fun z => ?_) (And.intro (fun z => ?_) (And.intro (fun z => ?_) (And.intro (fun z => ?_) trivial))))
    all_goals subst z; exact absurd (by decide) nq
end T992
