/-! the model: order -/
section T75
variable {cx : Cx} {d a c : Nat} {h g f : Hp} {w : Wd}
theorem tmF_is {n : Nat} {P : Nat → Prop} : ∀ N, (tmF w n P N).1 = -1 ∨ ∃ k, k < N ∧ P k ∧ (tmF w n P N).1 = nI k := by
  intro N
  induction N with
  | zero => exact Or.inl rfl
  | succ N ih =>
    have old : (tmF w n P N).1 = -1 ∨ ∃ k, k < N + 1 ∧ P k ∧ (tmF w n P N).1 = nI k := ih.imp id fun ⟨k, h1, h2, h3⟩ => ⟨k, by omega, h2, h3⟩
    by_cases p : P N
    · by_cases z : (tmF w n P N).1 = -1 ∨ mBt w n (nI N) (tmF w n P N).1
      · rw [tmF_new p z]; exact Or.inr ⟨N, by omega, p, rfl⟩
      · rw [tmF_old p z]; exact old
    · rw [tmF_no p]; exact old
theorem part_sub {s : Int32} (q : cPart w s) : sub s (w 159) := sub_iff.mpr q.2
/-- the set that is left can be come to, and leads back -/
theorem tk_lead {U : Int32 → Int32} {k : Nat} (q : tkPr w U true k) : leaA U (dif (w 159) (nI k)) (w 159) := com_lead 22 _ (q.2.1 rfl) sub_r (lea_eq.mpr (Or.inl rfl))
noncomputable def orBest (w : Wd) (n : Nat) : Int32 := (tmF w n (tkPr w (aU w (lawOf w)) true) (2 ^ n)).1
theorem n_order_no (hd : 64 ≤ d) {n : Nat} {i : Int32} (eW : kW h = w) (wf : wfW w) (cc : mC c w h) (en : w 157 = nI n) (hn : n ≤ 14) (lT : low n (w 159)) (no : ¬ (¬ orBest w n = -1 ∧ 0 ≤ i ∧ i ≤ onesR (orBest w n) 22 - 1)) : M cx jX12_order d a [.ref o_m, .int i] h (qM c w h (-1)) := by
  refine sX12_order rfl (wcQ (n_takesMost (ob := true) (by omega) eW wf cc en hn lT) (fun v g z => ?_) tmQ_N)
  obtain ⟨rfl, G, kM, cG, lk, st, rfl⟩ := z
  have e33 : hI (tmH G (tmF w n (tkPr w (aU w (lawOf w)) true) (2 ^ n)).1 (tmF w n (tkPr w (aU w (lawOf w)) true) (2 ^ n)).2) o_m 33 = orBest w n := tm_33
  have fin : qM c w h (-1) (some (.int (-1))) (tmH G (tmF w n (tkPr w (aU w (lawOf w)) true) (2 ^ n)).1 (tmF w n (tkPr w (aU w (lawOf w)) true) (2 ^ n)).2) := ⟨rfl, keepM_t kM tm_keep, tm_mC cG⟩
  refine (And.intro (fun q1 => (eX12_order fin)) (fun q1 => (wcS n_ones (wcS n_lies (And.intro (fun q2 => absurd ⟨fun z => q1 (e33.trans z), ?_⟩ no) (fun q2 => (eX12_order fin)))))))
  have := b2i_n q2
  rw [e33] at this
  exact this
theorem n_order_ok (hd : 64 ≤ d) {n I : Nat} (eW : kW h = w) (wf : wfW w) (cc : mC c w h) (en : w 157 = nI n) (hn : n ≤ 14) (lT : low n (w 159)) (hb : ¬ orBest w n = -1) (hI' : I < sz (orBest w n)) : M cx jX12_order d a [.ref o_m, .int (nI I)] h (qM c w h (ordS (aU w (lawOf w)) (dif (w 159) (orBest w n)) (w 159) I)) := by
  have hsz := sz_le (orBest w n)
  obtain ⟨k0, hk0, pk0, ek0⟩ := (tmF_is (w := w) (n := n) (P := tkPr w (aU w (lawOf w)) true) (2 ^ n)).resolve_left hb
  have ek0 : orBest w n = nI k0 := ek0
  have sT : sub (orBest w n) (w 159) := by rw [ek0]; exact part_sub pk0.1
  have lead : leaA (aU w (lawOf w)) (dif (w 159) (orBest w n)) (w 159) := by rw [ek0]; exact tk_lead pk0
  have eb : dif (w 159) (dif (w 159) (orBest w n)) = orBest w n := dif_dif sT
  refine sX12_order rfl (wcQ (n_takesMost (ob := true) (by omega) eW wf cc en hn lT) (fun v g z => ?_) tmQ_N)
  obtain ⟨rfl, G, kM, cG, lk, st, rfl⟩ := z
  generalize eH : tmH G (tmF w n (tkPr w (aU w (lawOf w)) true) (2 ^ n)).1 (tmF w n (tkPr w (aU w (lawOf w)) true) (2 ^ n)).2 = H
  have e33 : hI H o_m 33 = orBest w n := by rw [← eH]; exact tm_33
  have kH : keepM h H := by rw [← eH]; exact keepM_t kM tm_keep
  have cH : mC c w H := by rw [← eH]; exact tm_mC cG
  have stH : stOk w (lawOf w) H := by rw [← eH]; exact st_keep st fun o k h1 h2 => tm_o (by omega)
  have eW2 : kW H = w := (keepM_W kH).trans eW
  have eT : hI H (ly_rf o_m 3) (159 : Int32).toNatClampNeg = w 159 := by show kW H 159 = _; rw [eW2]
  have h14 := pow14 hn
  generalize eU : aU w (lawOf w) = U at lead
  generalize ee : dif (w 159) (orBest w n) = e at lead eb
  have se : sub e (w 159) := by rw [← ee]; exact sub_dif
  have l14 : low 14 (w 159) := low_le hn lT
  have hlw : ∀ m, m < 2 ^ n → hI H o_m_lawful m = b2i (lwf U (nI m)) := fun m hm => by rw [← eU]; exact (stH n en hn m hm).1
  have szd : sz (dif (w 159) e) = sz (orBest w n) := by rw [eb]
  have le1 : (0 : Int32) ≤ nI I ∧ nI I ≤ onesR (hI H o_m 33) 22 - 1 := by
    refine ⟨nI_pos' (by omega), ?_⟩
    rw [e33, ones_sz, show (1 : Int32) = nI 1 from rfl, pk_sub (by omega)]
    exact nI_le (by omega) (by omega)
  refine (And.intro (fun q1 => absurd (e33.symm.trans q1) hb) (fun q1 => (wcS n_ones (wcS n_lies (And.intro (fun q2 => (eX12_order (And.intro v159 ?_))) (fun q2 => absurd le1 (b2i_0.mp q2)))))))
  have walk : ∀ g, keepZ H g → (∀ j, j < 2 ^ n → hI g o_m_leads j = b2i (leaA U e (nI j))) → ∀ r k, r + k = I + 1 → ∀ s, (k = 0 ∨ s = ordS U e (w 159) (k - 1)) → E cx jX12_order d a 178 [some (.ref o_m), some (.int (nI I)), some (.int e), some (.int (ordN U e (w 159) k)), some (.int s), some (.int (nI k))] [] g (qM c w h (ordS U e (w 159) I)) := fun g kz tb => by
    intro r
    induction r with
    | zero =>
      intro k hk s hs
      obtain rfl : k = I + 1 := by omega
      refine eX12_order (And.intro (fun _ => eX12_order ⟨?_, keepM_t kH (keepZ_M kz), keepZ_mC kz cH⟩) (fun q => absurd (nI_lt (by omega) (by omega)) q))
      rcases hs with hs | hs
      · omega
      · rw [hs]; rfl
    | succ r ih =>
      intro k hk s hs
      obtain ⟨j, hj, ej, pj, mj⟩ := ord_ex (U := U) l14 lead se (k := k) (by omega)
      obtain ⟨i1, i2, i3, i4⟩ := ord_inv (U := U) l14 lead se k (by omega)
      have ln : low n (ordN U e (w 159) k) := low_sub i3 lT
      have tab : ∀ x, vp_in (dif (ordN U e (w 159) k) x) 16384 ∧ hI g (ly_rf o_m 35) (dif (ordN U e (w 159) k) x).toNatClampNeg = b2i (leaA U e (dif (ordN U e (w 159) k) x)) := fun x => by
        obtain ⟨y, hy, ey⟩ := low_nI (by omega) (low_sub (sub_dif (t := x)) ln)
        rw [ey, nI_clamp (by omega)]; exact ⟨vp_in_nI (by omega) (by decide), tb y hy⟩
      have inner : ∀ r' i, r' + i = j → E cx jX12_order d a 187 [some (.ref o_m), some (.int (nI I)), some (.int e), some (.int (ordN U e (w 159) k)), some (.int (nI i)), some (.int (nI k))] [] g (qM c w h (ordS U e (w 159) I)) := by
        intro r'
        induction r' with
        | zero =>
          intro i hi
          obtain rfl : i = j := by omega
          obtain ⟨t1, t2⟩ := tab (one i)
          refine eX12_order (wcS n_isIn (And.intro (fun q1 => absurd ((inB_bt (by omega)).mpr pj.1) (b2i_0.mp q1)) (fun q1 => (wcS n_isIn (And.intro (fun q2 => absurd ((inB_bt (s := e) (k := i) (by omega)).mp (b2i_n q2)) (by rw [pj.2.1]; exact Bool.noConfusion)) (fun q2 => (And.intro t1 (And.intro (fun q3 => (eX12_order ?_)) (fun q3 => absurd pj.2.2 (b2i_0.mp (t2.symm.trans q3)))))))))))
          have i := ih (k + 1) (by omega) (nI i) (Or.inr ej.symm)
          rw [nI_succ] at i
          refine e_eq i ?_ rfl rfl
          rw [ordN, show fst (ldP U e (ordN U e (w 159) k)) 14 0 = nI _ from ej, nI_clamp (by omega)]; rfl
        | succ r' ih' =>
          intro i hi
          have ii := ih' (i + 1) (by omega)
          rw [nI_succ] at ii
          have np := mj i (by omega)
          obtain ⟨t1, t2⟩ := tab (one i)
          refine eX12_order (wcS n_isIn (And.intro (fun q1 => (eX12_order ii)) (fun q1 => (wcS n_isIn (And.intro (fun q2 => (eX12_order ii)) (fun q2 => (And.intro t1 (And.intro (fun q3 => absurd ⟨(inB_bt (by omega)).mp (b2i_n q1), ts_nt fun z => b2i_0.mp q2 ((inB_bt (by omega)).mpr z), b2i_n (fun z => q3 (t2.trans z))⟩ np) (fun q3 => (eX12_order ii))))))))))
      refine eX12_order (And.intro (fun q => absurd q (nI_nlt (by omega) (by omega))) (fun _ => inner j 0 rfl))
  refine e_eq (e_ordAll (U := U) (e := e) (i0 := nI I) (l5 := none) (by omega) en hn eW2 hlw (fun g l4 kz tb => ?_) (2 ^ n) 0 rfl H none keepZ_r (fun j hj => absurd hj (Nat.not_lt_zero _))) ?_ rfl rfl
  · have eTg : hI g (ly_rf o_m 3) (159 : Int32).toNatClampNeg = w 159 := by rw [← eT]; exact kz.2 _ _ (by decide)
    refine eX12_order (And.intro v159 (e_eq (walk g kz tb (I + 1) 0 rfl (-1) (Or.inl rfl)) ?_ rfl rfl))
    rw [eTg]; rfl
  · rw [eT, e33, ← ee]; rfl
end T75
