/-! one by one: the contract -/
section T97
variable {cx : Cx} {d a c : Nat} {h g f : Hp} {w : Wd} {n s t : Nat}
theorem J_of {o k : Nat} (e : g.2 = h.2) : hJ g o k = hJ h o k := congrFun (congrFun (congrArg (fun z => z.1) e) o) k
theorem ss_J {T : Int32} {k o j : Nat} (no : o ≠ 95) : hJ (ssH T g k) o j = hJ g o j := by
  induction k with
  | zero => rfl
  | succ k ih =>
    rw [ssH_s]; unfold ssB; split
    · rw [J_of offM_steps_2]; unfold addS; rw [hJ_w, if_neg (fun y => no y.1)]; exact ih
    · exact ih
theorem fo_J {l x : Int32} {k o j : Nat} (no : o ≠ 95) : hJ (foH l x g k) o j = hJ g o j := by
  induction k with
  | zero => rfl
  | succ k ih =>
    rw [foH_s]; unfold foB; split
    · unfold addS; rw [hJ_w, if_neg (fun y => no y.1)]; exact ih
    · exact ih
theorem clr_J {o p k : Nat} (no : p ≠ o) : hJ (clrJ g o 256) p k = hJ g p k := by
  show (if p = o ∧ k < 256 then 0 else hJ g p k) = _
  rw [if_neg (fun y => no y.1)]
theorem tm_is_best {U : Int32 → Int32} (hn : n ≤ 14) (b : ¬ (tmF w n (tkPr w U true) (2 ^ n)).1 = -1) : ∃ k, k < 2 ^ n ∧ (tmF w n (tkPr w U true) (2 ^ n)).1 = nI k ∧ tkPr w U true k := by
  obtain ⟨k, h1, h2, h3⟩ := (tmF_is (w := w) (n := n) (P := tkPr w U true) (2 ^ n)).resolve_left b
  exact ⟨k, h1, h3, h2⟩
theorem x_inSteps (hd : 5 ≤ d) {sp : Nat} (q : wX w n s t h) (th : thOk w (aU w (lawOf w)) n sp h) : M cx jX9_inSteps d a [.ref o_thieves] h (fun r g => r = some (.ref o_stepsFound) ∧ keepTh h g ∧ thOk w (aU w (lawOf w)) n sp g ∧ moX w n (tmF w n (tkPr w (aU w (lawOf w)) true) (2 ^ n)) o_stepsFound g ∧ orX (aU w (lawOf w)) (w 159) (tmF w n (tkPr w (aU w (lawOf w)) true) (2 ^ n)).1 g) := by
  obtain ⟨m, hm, e1, e2, hm2⟩ := wX_core q
  obtain ⟨eT, lT, hn⟩ := wX_T q
  have h14 := pow14 hn
  obtain ⟨tn, htn, etn⟩ := low_nI (by omega) lT
  have t14 : tn < 2 ^ 14 := by omega
  have mo := Umo_aU (L := lawOf w) q.2.2.1
  obtain ⟨fw, f1, f2, f3, f4, f5⟩ := fl_knw (K := 4) (by decide) q th.1
  -- the heap ahead of the search
  have F_I : ∀ o k, o ≠ 91 → o ≠ 97 → hI (isF h) o k = hI h o k := fun o k n1 n2 => by unfold isF; rw [rd_o n1, clrM_I n2, f5 _ _ n1]
  have F_91 : ∀ k, k ≠ 9 → hI (isF h) o_thieves k = hI (flA (knw h 4)) o_thieves k := fun k nk => by unfold isF; rw [rd_k nk, clrM_I (by decide)]
  have F_9 : hI (isF h) o_thieves 9 = 0 := by unfold isF; exact rd_same
  have F_2 : (isF h).2 = (flA (knw h 4)).2 := rfl
  have F_lw : ∀ j, j < 16384 → (inS (isF h) o_lawful_words j ↔ lwf (aU w (lawOf w)) (nI j) ∧ sub (nI j) (nI m)) := fun j hj => by
    rw [← e2]; exact (inS_J (fun k => J_of F_2)).trans (f1.2 j hj)
  have F_law : ∀ j, j < 16384 → sub (nI j) (nI tn) → (inS (isF h) o_lawful_words j ↔ lwf (aU w (lawOf w)) (nI j)) := fun j hj sj => by
    rw [F_lw j hj]
    refine ⟨fun y => y.1, fun y => ⟨y, ?_⟩⟩
    rw [← e2]; exact fall_sub_core mo (by rw [etn]; exact sj) y
  have F_T : inSI (isF h) o_lawful_words (hI h o_wall 5) ↔ lwf (aU w (lawOf w)) (nI tn) := by rw [eT, etn, inSI_nI t14, F_law tn t14 sub_r]
  have F_m0 : mI (fun x => nwt w x n) (fun _ => False) (isF h) o_stepsFound ∧ hI (isF h) o_stepsFound 3 = 0 := by
    unfold isF
    rw [rd_o (by decide)]
    refine ⟨Or.inl ⟨?_, ?_, ?_, fun _ z => z⟩, ?_⟩
    · rw [rd_o (by decide)]; unfold clrM; rw [rd_k (by decide), rd_same]
    · rw [rd_o (by decide)]; unfold clrM; rw [rd_k (by decide), rd_k (by decide), rd_k (by decide), rd_same]
    · rw [rd_o (by decide)]; unfold clrM; rw [rd_k (by decide), rd_k (by decide), rd_same]
    · unfold clrM; rw [rd_same]
  -- the sets that can be come to
  have G_all : lwf (aU w (lawOf w)) (nI tn) → moX w n (tmF w n (tkPr w (aU w (lawOf w)) true) (2 ^ n)) o_stepsFound (isG h) ∧ (∀ o k, o ≠ 97 → hI (isG h) o k = hI (isF h) o k) ∧ (∀ o k, o ≠ 95 → hJ (isG h) o k = hJ (isF h) o k) ∧ (isG h).2.2 = (isF h).2.2 := fun lt => by
    have eG : isG h = ssH (nI tn) (clrJ (isF h) o_marked_words 256) (2 ^ pcn 32 tn) := by
      unfold isG ssA
      rw [F_I _ _ (by decide) (by decide), eT, etn, (bcS_pow t14).2]
    have ws : ∀ x f', sub x (nI tn) → (∀ k, hI f' o_wall_facts k = hI (clrJ (isF h) o_marked_words 256) o_wall_facts k) → wtR f' x 14 = nwt w x n := fun x f' sx ef => by
      rw [wtR_cong (g := f') (h := h) (fun k => by rw [ef]; exact F_I o_wall_facts k (by decide) (by decide))]
      exact wt_eq q.1 hn (low_sub sx (nI_low htn))
    obtain ⟨i1, i2, i3, i4⟩ := ss_inv (U := aU w (lawOf w)) (g := clrJ (isF h) o_marked_words 256) t14 lt (fun j hj sj => by rw [inS_clr, ← F_law j hj sj]; exact ⟨fun y => y.2, fun y => ⟨fun x => absurd x.1 (by decide), y⟩⟩) (fun j hj => by rw [inS_clr]; exact fun y => y.1 ⟨rfl, hj⟩) ws F_m0.1 (2 ^ pcn 32 tn) (Nat.le_refl _)
    rw [show hI (clrJ (isF h) o_marked_words 256) o_stepsFound 3 = 0 from F_m0.2, Int32.zero_add] at i4
    rw [← eG] at i3 i4
    refine ⟨st_most q etn htn i3 i4, fun o k no => by rw [eG, ssH_I no]; rfl, fun o k no => by rw [eG, ss_J no]; exact clr_J no, by rw [eG, ssH_2]; rfl⟩
  -- the number of what is taken
  have G_n : ∃ nb, inSI (isF h) o_lawful_words (hI h o_wall 5) → hI (isG h) o_stepsFound 2 = nI nb ∧ nb < 16384 ∧ nb < 2 ^ n ∧ tkPr w (aU w (lawOf w)) true nb ∧ (tmF w n (tkPr w (aU w (lawOf w)) true) (2 ^ n)).1 = nI nb := by
    by_cases y : inSI (isF h) o_lawful_words (hI h o_wall 5)
    · have lt := F_T.mp y
      have mx := (G_all lt).1
      have ne : ¬ (tmF w n (tkPr w (aU w (lawOf w)) true) (2 ^ n)).1 = -1 := fun z => by
        rcases tmF_best (w := w) (n := n) (P := tkPr w (aU w (lawOf w)) true) (2 ^ n) h14 with ⟨-, no⟩ | bb
        · refine no 0 (Nat.pow_pos (by decide)) ⟨(part_iff hn lT (by decide)).mpr sub_0, fun _ => ?_, fun v => by cases v⟩
          rw [show nI 0 = 0 from rfl, dif_0, etn]
          exact com_eq.mpr (Or.inl ⟨rfl, lt⟩)
        · obtain ⟨k, hk, -, ek⟩ := bb.1
          rw [ek] at z; exact nI_m1 (by omega) z
      obtain ⟨k, h1, h3, h2⟩ := tm_is_best hn ne
      exact ⟨k, fun _ => ⟨mx.2.2.1.trans h3, by omega, h1, h2, h3⟩⟩
    · exact ⟨0, fun z => absurd z y⟩
  obtain ⟨nb, G_n⟩ := G_n
  refine M_mono (m_inSteps (n := nb) hd e1 hm (eT.trans etn) (by omega) (fun z => ⟨(G_n z).1, (G_n z).2.1⟩)) ?_
  rintro r g ⟨rfl, rfl⟩
  unfold isA
  by_cases z : hI h o_thieves 13 &&& 4 = 0
  · rw [if_pos z]
    unfold isD
    by_cases y : inSI (isF h) o_lawful_words (hI h o_wall 5)
    · rw [if_pos y]
      have lt := F_T.mp y
      obtain ⟨mx, G_I, G_J, G_2⟩ := G_all lt
      obtain ⟨n1, n2, n3, n4, n5⟩ := G_n y
      rw [n1, eT, etn]
      rw [n5]
      have sb : sub (nI nb) (nI tn) := by rw [← etn]; exact part_sub n4.1
      have dd := dif_dif sb
      have ld : leaA (aU w (lawOf w)) (dif (nI tn) (nI nb)) (nI tn) := by have := tk_lead n4; rw [etn] at this; exact this
      have nb14 : nb < 2 ^ 14 := by omega
      -- the marked ways
      have eM : foM (isG h) (nI nb) = foH (dif (nI tn) (nI nb)) (nI nb) (clrJ (isG h) o_marked_words 256) (2 ^ pcn 32 nb) := by
        unfold foM
        rw [G_I _ _ (by decide), F_I _ _ (by decide) (by decide), eT, etn, (bcS_pow nb14).2]
      have M_I : ∀ o k, hI (foM (isG h) (nI nb)) o k = hI (isG h) o k := fun o k => foM_I
      have M_J : ∀ o k, o ≠ 95 → hJ (foM (isG h) (nI nb)) o k = hJ (isF h) o k := fun o k no => by rw [eM, fo_J no, clr_J no]; exact G_J o k no
      have dj : ∀ j, j < 32 → bt (nI nb) j = true → bt (dif (nI tn) (nI nb)) j = false := fun j hj b => by rw [bt_dif hj, b]; simp
      have un : dif (nI tn) (nI nb) ||| nI nb = nI tn := b_ext fun i hi => by
        rw [b_or, bt_dif hi]
        have := sb i hi
        cases hb1 : bt (nI nb) i
        · simp
        · rw [this hb1]; rfl
      have l14e : low 14 (dif (nI tn) (nI nb)) := low_sub sub_dif (nI_low t14)
      obtain ⟨j1, j2⟩ := fo_inv (U := aU w (lawOf w)) (g := clrJ (isG h) o_marked_words 256) nb14 l14e dj (fun x lx sx => by
        obtain ⟨k, hk, ek⟩ := low_nI (n := 14) (by decide) lx
        rw [un] at sx
        rw [ek, inSI_nI (by omega), inS_clr]
        rw [ek] at sx
        rw [← F_law k (by omega) sx]
        have := inS_J (h := isF h) (g := isG h) (o := o_lawful_words) (m := k) (fun v => G_J _ v (by decide))
        exact ⟨fun v => this.mp v.2, fun v => ⟨fun u => absurd u.1 (by decide), this.mpr v⟩⟩) (fun j hj => by rw [inS_clr]; exact fun v => v.1 ⟨rfl, hj⟩) _ (Nat.le_refl _)
      rw [← eM] at j1 j2
      have mk : ∀ x, sub x (nI tn) → sub (dif (nI tn) (nI nb)) x → (inSI (foM (isG h) (nI nb)) o_marked_words x ↔ leaA (aU w (lawOf w)) (dif (nI tn) (nI nb)) x) := fun x sx se => by
        obtain ⟨k, hk, ek⟩ := low_nI (n := 14) (by decide) (low_sub sx (nI_low t14))
        rw [ek, inSI_nI (by omega), j2 k (by omega)]
        refine ⟨fun ⟨_, _, _, v⟩ => v, fun v => ?_⟩
        -- the rest of it
        obtain ⟨r0, hr0, er0⟩ := low_nI (n := 14) (by decide) (low_sub (sub_dif (s := x) (t := dif (nI tn) (nI nb))) (low_sub sx (nI_low t14)))
        have sr : sub (nI r0) (nI nb) := by
          rw [← er0]
          intro i hi u
          rw [bt_dif hi, bt_dif hi] at u
          simp at u
          rcases u.2 with v | v
          · rw [sx i hi u.1] at v; cases v
          · exact v
        obtain ⟨g1, g2⟩ := pd_of hr0 nb14 sr
        refine ⟨pe 32 nb r0, g1, ?_, v⟩
        rw [g2, ← er0, ← ek]
        exact b_ext fun i hi => by
          rw [b_or, bt_dif (s := x) hi]
          have := se i hi
          cases hb1 : bt (dif (nI tn) (nI nb)) i
          · simp
          · rw [this hb1]; rfl
      have st := fo_steps (U := aU w (lawOf w)) (g := foM (isG h) (nI nb)) (e := dif (nI tn) (nI nb)) (T := nI tn) (b := nb) (nI_low t14) dd.symm sub_dif ld mk (by rw [M_I, G_I _ _ (by decide)]; exact F_9) 14
      have szb : sz (nI nb) ≤ 14 := by rw [sz_pc nb14]; exact (pc22 nb14).2
      obtain ⟨s1, s2, s3⟩ := st.2 szb
      generalize eR : (foR (foM (isG h) (nI nb)) (nI nb) (nI tn) 14).2 = R at *
      have R_I : ∀ o k, o ≠ 100 → o ≠ 91 → hI R o k = hI (isG h) o k := fun o k h1 h2 => by rw [← eR, foR_I h1 h2, M_I]
      have R_2 : R.2 = (foM (isG h) (nI nb)).2 := by rw [← eR]; exact foR_2
      have R_91 : ∀ k, k ≠ 9 → hI R o_thieves k = hI (isG h) o_thieves k := fun k nk => by
        rw [← eR, ← M_I]
        have : ∀ i, hI (foR (foM (isG h) (nI nb)) (nI nb) (nI tn) i).2 o_thieves k = hI (foM (isG h) (nI nb)) o_thieves k := by
          intro i
          induction i with
          | zero => rfl
          | succ i ih => rw [foR]; split
                         · exact ih
                         · show hI (wI (wI _ o_th_steps i _) o_thieves 9 _) o_thieves k = _
                           rw [rd_k nk, rd_o (by decide)]; exact ih
        exact this 14
      have G_22 : (foM (isG h) (nI nb)).2.2 = h.2.2 := by rw [eM, foH_2]; show (isG h).2.2 = _; rw [G_2]; exact f4.2.1
      have lX : lwX (aU w (lawOf w)) (w 159) R := by
        refine ⟨?_, fun j hj => ?_⟩
        · rw [R_91 12 (by decide), G_I _ _ (by decide), F_91 12 (by decide)]; exact f1.1
        · rw [inS_J (h := isF h) (g := R) (fun k => by rw [J_of R_2]; exact M_J _ k (by decide)), F_lw j hj, e2]
      have moR : moX w n (tmF w n (tkPr w (aU w (lawOf w)) true) (2 ^ n)) o_stepsFound R := moX_c mx fun k => R_I _ _ (by decide) (by decide)
      have orR : orX (aU w (lawOf w)) (nI tn) (nI nb) R := ⟨fun v => absurd v (nI_m1 (by omega)), fun _ => ⟨s2, s3⟩⟩
      have cc : ∀ o k, o ≠ 100 → o ≠ 91 → o ≠ 97 → hI R o k = hI h o k := fun o k h1 h2 h3 => by rw [R_I o k h1 h2, G_I o k h3, F_I o k h2 h3]
      have c91 : ∀ k, k ≠ 9 → k ≠ 12 → k ≠ 13 → hI R o_thieves k = hI h o_thieves k := fun k h1 h2 h3 => by rw [R_91 k h1, G_I _ _ (by decide), F_91 k h1, f2 k h2 h3]
      have th2 := th_of (K := 4 ||| 1) (g := R) th (by rw [R_91 13 (by decide), G_I _ _ (by decide), F_91 13 (by decide), f3]) (fun _ => lX) (Or.inl ⟨by decide, fun k => cc _ _ (by decide) (by decide) (by decide)⟩) (Or.inr (by rw [etn, n5]; exact ⟨moR, orR⟩)) (Or.inl ⟨by decide, fun k => cc _ _ (by decide) (by decide) (by decide)⟩) (Or.inl ⟨by decide, fun k => cc _ _ (by decide) (by decide) (by decide)⟩) (Or.inl ⟨by decide, c91 10 (by decide) (by decide) (by decide), c91 11 (by decide) (by decide) (by decide)⟩)
      refine ⟨rfl, ⟨fun o k no => cc o k (by omega) (by omega) (by omega), by rw [R_2]; exact G_22, fun o k h1 h2 => ?_⟩, th2, moR, orR⟩
      rw [J_of R_2, M_J o k h2, J_of F_2]; exact f4.2.2 o k h1 h2
    · rw [if_neg y]
      have nl : ¬ lwf (aU w (lawOf w)) (nI tn) := fun v => y (F_T.mpr v)
      have noc : ∀ k x, ¬ comF (aU w (lawOf w)) (w 159) k x := fun k => by
        induction k with
        | zero => intro x v; exact nl (by rw [← etn, ← v.1]; exact v.2)
        | succ k ih =>
          rintro x (v | ⟨-, j, -, -, -, v⟩)
          · exact nl (by rw [← etn, ← v.1]; exact v.2)
          · exact ih _ v
      have no : ∀ k, ¬ tkPr w (aU w (lawOf w)) true k := fun k v => noc 22 _ (v.2.1 rfl)
      have eb : (tmF w n (tkPr w (aU w (lawOf w)) true) (2 ^ n)).1 = -1 := by
        rcases tmF_is (w := w) (n := n) (P := tkPr w (aU w (lawOf w)) true) (2 ^ n) with v | ⟨k, -, v, -⟩
        · exact v
        · exact absurd v (no k)
      have ec : (tmF w n (tkPr w (aU w (lawOf w)) true) (2 ^ n)).2 = 0 := by rw [tmF_cnt, cnt_zero _ fun k _ => no k]; rfl
      have mx : moX w n (tmF w n (tkPr w (aU w (lawOf w)) true) (2 ^ n)) o_stepsFound (isF h) := by
        unfold moX
        rw [eb, ec, if_pos rfl, if_pos rfl]
        rcases F_m0.1 with ⟨a1, a2, a3, -⟩ | ⟨b, -, bb, -⟩
        · exact ⟨a2, a3, a1, F_m0.2⟩
        · exact bb.1.elim
      have orF : orX (aU w (lawOf w)) (w 159) (tmF w n (tkPr w (aU w (lawOf w)) true) (2 ^ n)).1 (isF h) := ⟨fun _ => F_9, fun v => absurd eb v⟩
      have th2 := th_of (K := 4 ||| 1) (g := isF h) th (by rw [F_91 13 (by decide), f3]) (fun _ => lwX_c f1 (F_91 12 (by decide)) (fun k => J_of F_2)) (Or.inl ⟨by decide, fun k => F_I _ _ (by decide) (by decide)⟩) (Or.inr ⟨mx, orF⟩) (Or.inl ⟨by decide, fun k => F_I _ _ (by decide) (by decide)⟩) (Or.inl ⟨by decide, fun k => F_I _ _ (by decide) (by decide)⟩) (Or.inl ⟨by decide, by rw [F_91 10 (by decide), f2 10 (by decide) (by decide)], by rw [F_91 11 (by decide), f2 11 (by decide) (by decide)]⟩)
      exact ⟨rfl, ⟨fun o k no => F_I o k (by omega) (by omega), f4.2.1, fun o k h1 h2 => by rw [J_of F_2]; exact f4.2.2 o k h1 h2⟩, th2, mx, orF⟩
  · rw [if_neg z]
    obtain ⟨m1, m2⟩ := th.2.2.1 z
    have mx := moX_c (g := knw h 4) m1 (fun k => knw_o (by decide))
    have ox := orX_c (g := knw h 4) m2 (knw_k (by decide)) (fun k => knw_o (by decide))
    refine ⟨rfl, ⟨fun o k no => knw_o (by omega), rfl, fun _ _ _ _ => rfl⟩, th_of (K := 4) th knw_13 (lw_knw (by decide) th.1) (Or.inl ⟨by decide, fun k => knw_o (by decide)⟩) (Or.inr ⟨mx, ox⟩) (Or.inl ⟨by decide, fun k => knw_o (by decide)⟩) (Or.inl ⟨by decide, fun k => knw_o (by decide)⟩) (Or.inl ⟨by decide, knw_k (by decide), knw_k (by decide)⟩), mx, ox⟩
end T97
