/-! stone and spare on both sides -/
section T998
variable {cx : Cx} {d a c : Nat} {h g f : Hp} {w w' : Wd} {A : Ab} {n s t : Nat}
theorem can_iff {x y wd tl wt : Int32} : cCan x y wd tl wt ↔ ((0 ≤ x ∧ x ≤ 11) ∧ (0 ≤ y ∧ y ≤ 7) ∧ (1 ≤ wd ∧ wd ≤ 6) ∧ (1 ≤ tl ∧ tl ≤ 6) ∧ x + wd ≤ 12 ∧ y + tl ≤ 8 ∧ (1 ≤ wt ∧ wt ≤ 99)) := by
  unfold cCan
  by_cases z : ((1 : Int32) ≤ wd ∧ wd ≤ 6) ∧ ((1 : Int32) ≤ tl ∧ tl ≤ 6)
  · obtain ⟨z1, z2⟩ := z
    obtain ⟨P, p1, p2, rfl⟩ := rng2 (l := 1) (m := 6) (by decide) (by decide) z1
    obtain ⟨R, r1, r2, rfl⟩ := rng2 (l := 1) (m := 6) (by decide) (by decide) z2
    rw [show (12 : Int32) = nI 12 from rfl, show (8 : Int32) = nI 8 from rfl, show (11 : Int32) = nI 11 from rfl, show (7 : Int32) = nI 7 from rfl, pk_sub (by omega), pk_sub (by omega)]
    constructor
    · rintro ⟨-, -, hx, hy, hw⟩
      obtain ⟨X, hX, rfl⟩ := rng (m := 12 - P) (by omega) hx
      obtain ⟨Y, hY, rfl⟩ := rng (m := 8 - R) (by omega) hy
      rw [nI_add, nI_add]
      exact ⟨rng_of (by omega) (by decide), rng_of (by omega) (by decide), z1, z2, nI_le (by omega) (by decide), nI_le (by omega) (by decide), hw⟩
    · rintro ⟨hx, hy, -, -, h1, h2, hw⟩
      obtain ⟨X, hX, rfl⟩ := rng (m := 11) (by decide) hx
      obtain ⟨Y, hY, rfl⟩ := rng (m := 7) (by decide) hy
      rw [nI_add] at h1 h2
      have h1 := (nI_leI (by omega) (by decide)).mp h1
      have h2 := (nI_leI (by omega) (by decide)).mp h2
      exact ⟨z1, z2, rng_of (by omega) (by omega), rng_of (by omega) (by omega), hw⟩
  · exact ⟨fun y => absurd ⟨y.1, y.2.1⟩ z, fun y => absurd ⟨y.2.2.1, y.2.2.2.1⟩ z⟩
/-- what a possible stone is, in whole numbers -/
theorem can_xy {x y wd tl wt : Int32} (q : cCan x y wd tl wt) : ∃ X Y P R : Nat, x = nI X ∧ y = nI Y ∧ wd = nI P ∧ tl = nI R ∧ 0 < P ∧ P ≤ 6 ∧ 0 < R ∧ R ≤ 6 ∧ X + P ≤ 12 ∧ Y + R ≤ 8 := by
  obtain ⟨hx, hy, z1, z2, h1, h2, hw⟩ := can_iff.mp q
  obtain ⟨P, p1, p2, rfl⟩ := rng2 (l := 1) (m := 6) (by decide) (by decide) z1
  obtain ⟨R, r1, r2, rfl⟩ := rng2 (l := 1) (m := 6) (by decide) (by decide) z2
  obtain ⟨X, hX, rfl⟩ := rng (m := 11) (by decide) hx
  obtain ⟨Y, hY, rfl⟩ := rng (m := 7) (by decide) hy
  rw [nI_add] at h1 h2
  have h1 := (nI_leI (b := 12) (by omega) (by decide)).mp h1
  have h2 := (nI_leI (b := 8) (by omega) (by decide)).mp h2
  exact ⟨X, Y, P, R, rfl, rfl, rfl, rfl, by omega, by omega, by omega, by omega, h1, h2⟩
noncomputable def hinR (h : Hp) (x y wd tl wt b : Int32) : Int32 := @ite _ (cCan x y wd tl wt) (Classical.propDecidable _) (@ite _ (fTakenB h x y wd tl 22) (Classical.propDecidable _) (-3) (if b = 0 then -5 else 0)) (-1)
theorem x_hindrance (hd : 4 ≤ d) {x y wd tl wt b : Int32} : M cx jX11_hindrance d a [.ref o_x, .int x, .int y, .int wd, .int tl, .int wt, .int b] h (RQ (.int (hinR h x y wd tl wt b)) h) := by
  have j74 : ∀ z, z = b2i (cCan x y wd tl wt) → E cx jX11_hindrance d a 74 [some (.ref o_x), some (.int x), some (.int y), some (.int wd), some (.int tl), some (.int wt), some (.int b), none] [.int z] h (RQ (.int (hinR h x y wd tl wt b)) h) := fun z ez => by
    subst ez
    refine eX11_hindrance (And.intro (fun q2 => (eX11_hindrance (wcV (m_isTaken (by omega)) (And.intro (fun q3 => (eX11_hindrance (And.intro (fun q4 => (eX11_hindrance (eX11_hindrance (RQ_eq ?_)))) (fun q4 => (eX11_hindrance (RQ_eq ?_)))))) (fun q3 => RQ_eq ?_))))) (fun q2 => RQ_eq ?_))
    · unfold hinR; rw [if_pos (b2i_n q2), if_neg (b2i_0.mp q3), if_pos q4]
    · unfold hinR; rw [if_pos (b2i_n q2), if_neg (b2i_0.mp q3), if_neg q4]
    · unfold hinR; rw [if_pos (b2i_n q2), if_pos (b2i_n q3)]
    · unfold hinR; rw [if_neg (b2i_0.mp q2)]
  have j73 : ¬ cCan x y wd tl wt → E cx jX11_hindrance d a 73 [some (.ref o_x), some (.int x), some (.int y), some (.int wd), some (.int tl), some (.int wt), some (.int b), none] [] h (RQ (.int (hinR h x y wd tl wt b)) h) := fun z => eX11_hindrance (j74 0 (b2i_f z).symm)
  refine sX11_hindrance rfl (wcS m_isWithin (And.intro (fun q1 => j73 fun z => b2i_0.mp q1 (can_iff.mp z).1) (fun q1 => ?_)))
  refine wcS m_isWithin (And.intro (fun q2 => j73 fun z => b2i_0.mp q2 (can_iff.mp z).2.1) (fun q2 => ?_))
  refine wcS m_isWithin (And.intro (fun q3 => j73 fun z => b2i_0.mp q3 (can_iff.mp z).2.2.1) (fun q3 => ?_))
  refine wcS m_isWithin (And.intro (fun q4 => j73 fun z => b2i_0.mp q4 (can_iff.mp z).2.2.2.1) (fun q4 => ?_))
  refine And.intro (fun q5 => j73 fun z => absurd q5 (Int32.not_lt.mpr (can_iff.mp z).2.2.2.2.1)) (fun q5 => ?_)
  refine And.intro (fun q6 => j73 fun z => absurd q6 (Int32.not_lt.mpr (can_iff.mp z).2.2.2.2.2.1)) (fun q6 => ?_)
  refine wcS m_isWithin (And.intro (fun q7 => j73 fun z => b2i_0.mp q7 (can_iff.mp z).2.2.2.2.2.2) (fun q7 => ?_))
  exact (j74 1 (b2i_t (can_iff.mpr ⟨b2i_n q1, b2i_n q2, b2i_n q3, b2i_n q4, Int32.not_lt.mp q5, Int32.not_lt.mp q6, b2i_n q7⟩)).symm)
/-! laid oblongs -/
theorem wF_lay {k : Nat} {x y wd tl wt : Int32} (hk : k < 22) (q : wFm w h) : wFm (layW w k x y wd tl wt) (layH h k x y wd tl wt) := by
  unfold layW layH
  exact wF_fact (by omega) (wF_fact (by omega) (wF_fact (by omega) (wF_fact (by omega) (wF_fact (by omega) (wF_fact (by omega) (wF_fact (by omega) q))))))
theorem lay_cg {k i : Nat} {x y wd tl wt : Int32} (e : w' i = w i) : layW w' k x y wd tl wt i = layW w k x y wd tl wt i := by unfold layW updW; simp only [e]
theorem lay_in {k : Nat} {x y wd tl wt : Int32} : layW w k x y wd tl wt (7 * k + 0) = x ∧ layW w k x y wd tl wt (7 * k + 1) = y ∧ layW w k x y wd tl wt (7 * k + 2) = wd ∧ layW w k x y wd tl wt (7 * k + 3) = tl := by
  unfold layW updW
  refine ⟨?_, ?_, ?_, ?_⟩ <;> simp
theorem wfI_lay {k X Y P R : Nat} (hk : k < 22) (wi : wfI w) (e : ∀ i, i < 22 → i ≠ k → ∀ j, j < 4 → w' (7 * i + j) = w (7 * i + j)) (e0 : w' (7 * k + 0) = nI X) (e1 : w' (7 * k + 1) = nI Y) (e2 : w' (7 * k + 2) = nI P) (e3 : w' (7 * k + 3) = nI R) (b1 : 0 < P) (b2 : P ≤ 6) (b3 : 0 < R) (b4 : R ≤ 6) (b5 : X + P ≤ 12) (b6 : Y + R ≤ 8) (fr : cFree w (nI X) (nI Y) P R) (it : ∀ i, i < 22 → i ≠ k → cItem w' i → cItem w i) : wfI w' := by
  have bk : bX w' k 0 = X ∧ bX w' k 1 = Y ∧ bX w' k 2 = P ∧ bX w' k 3 = R := by
    unfold bX; rw [e0, e1, e2, e3, nI_clamp (by omega), nI_clamp (by omega), nI_clamp (by omega), nI_clamp (by omega)]; exact ⟨rfl, rfl, rfl, rfl⟩
  have dk : ∀ j, j < 22 → j ≠ k → cItem w' j → (X + P ≤ bX w j 0 ∨ bX w j 0 + bX w j 2 ≤ X ∨ Y + R ≤ bX w j 1 ∨ bX w j 1 + bX w j 3 ≤ Y) := fun j hj ne cj => Classical.byContradiction fun z => by
    have cj' := it j hj ne cj
    have bj := wi.1 j hj cj'
    obtain ⟨x1, x2, x3, x4, x5, x6, x7, x8, x9, x10⟩ := box_X bj
    obtain ⟨m1, m2, m3⟩ := mod_cell (A := P) (B := R) (dx := bX w j 0 - X) (dy := bX w j 1 - Y) (by omega) (by omega)
    refine fr j hj _ m1 ⟨cj', ?_⟩
    rw [m2, m3, nI_add, nI_add, cov_int bj (nI_toInt (by omega)) (nI_toInt (by omega))]
    omega
  have eb : ∀ j, j < 22 → j ≠ k → ∀ i, i < 4 → bX w' j i = bX w j i := fun j hj ne i hi => by unfold bX; rw [e j hj ne i hi]
  refine ⟨fun i hi ci => ?_, fun i j hi hj ne ci cj => ?_⟩
  · by_cases ik : i = k
    · subst ik; exact ⟨X, Y, P, R, e0, e1, e2, e3, b1, b2, b3, b4, b5, b6⟩
    · exact box_same (fun j hj => e i hi ik j hj) (wi.1 i hi (it i hi ik ci))
  · by_cases ik : i = k
    · subst ik
      have := dk j hj (fun z => ne z.symm) cj
      unfold dsj
      rw [bk.1, bk.2.1, bk.2.2.1, bk.2.2.2, eb j hj (fun z => ne z.symm) 0 (by decide), eb j hj (fun z => ne z.symm) 1 (by decide), eb j hj (fun z => ne z.symm) 2 (by decide), eb j hj (fun z => ne z.symm) 3 (by decide)]
      omega
    · by_cases jk : j = k
      · subst jk
        have := dk i hi ik ci
        unfold dsj
        rw [bk.1, bk.2.1, bk.2.2.1, bk.2.2.2, eb i hi ik 0 (by decide), eb i hi ik 1 (by decide), eb i hi ik 2 (by decide), eb i hi ik 3 (by decide)]
        omega
      · exact dsj_same (fun k hk => e i hi ik k hk) (fun k hk => e j hj jk k hk) (wi.2 i j hi hj ne (it i hi ik ci) (it j hj jk cj))
theorem add_o {i : Nat} {x y wd tl wt : Int32} (h1 : i ≠ 157) (h2 : i ≠ 159) (hi : i < 7 * n ∨ 7 * n + 7 ≤ i) : addW w n x y wd tl wt i = w i := by unfold addW; rw [updW_n h1, updW_n h2, layW_o hi]
theorem spa_o {i : Nat} {x y wd tl wt : Int32} (h1 : i ≠ 158) (hi : i < 7 * (14 + n) ∨ 7 * (14 + n) + 7 ≤ i) : spaW w n x y wd tl wt i = w i := by unfold spaW; rw [updW_n h1, layW_o hi]
theorem add_eq {x y wd tl wt : Int32} (hn : n < 14) : layW (updW (updW w 157 (nI (n + 1))) 159 (w 159 ||| one n)) n x y wd tl wt = addW w n x y wd tl wt := funext fun i => by
  unfold addW
  by_cases e1 : i = 157
  · subst e1; rw [layW_o (by omega), updW_n (by decide), updW_s, updW_s]
  · by_cases e2 : i = 159
    · subst e2; rw [layW_o (by omega), updW_s, updW_n (by decide), updW_s]
    · rw [updW_n e1, updW_n e2]; exact lay_cg (by rw [updW_n e2, updW_n e1])
theorem spa_eq {x y wd tl wt : Int32} (hn : n < 8) : layW (updW w 158 (nI (n + 1))) (14 + n) x y wd tl wt = spaW w n x y wd tl wt := funext fun i => by
  unfold spaW
  by_cases e1 : i = 158
  · subst e1; rw [layW_o (by omega), updW_s, updW_s]
  · rw [updW_n e1]; exact lay_cg (updW_n e1)
theorem wF_add {x y wd tl wt : Int32} (hn : n < 14) (q : wFm w h) : wFm (addW w n x y wd tl wt) (addStoneH h n x y wd tl wt) := by
  rw [← add_eq hn]; unfold addStoneH
  rw [q.2.2.2.2.1]
  exact wF_lay (by omega) (wF_num (k := 5) (by decide) (wF_num (k := 3) (by decide) q))
theorem wF_spa {x y wd tl wt : Int32} (hn : n < 8) (q : wFm w h) : wFm (spaW w n x y wd tl wt) (addSpareH h n x y wd tl wt) := by
  rw [← spa_eq hn]; unfold addSpareH
  exact wF_lay (by omega) (wF_num (k := 4) (by decide) q)
theorem wfW_add {X Y P R : Nat} {wt : Int32} (ws : wfS w n s t) (wt' : wfT w) (wi : wfI w) (wl : wfL w t) (hn : n < 14) (b1 : 0 < P) (b2 : P ≤ 6) (b3 : 0 < R) (b4 : R ≤ 6) (b5 : X + P ≤ 12) (b6 : Y + R ≤ 8) (fr : cFree w (nI X) (nI Y) P R) : wfS (addW w n (nI X) (nI Y) (nI P) (nI R) wt) (n + 1) s t ∧ wfT (addW w n (nI X) (nI Y) (nI P) (nI R) wt) ∧ wfI (addW w n (nI X) (nI Y) (nI P) (nI R) wt) ∧ wfL (addW w n (nI X) (nI Y) (nI P) (nI R) wt) t := by
  obtain ⟨c1, c2, c3, c4, c5, c6, c7, c8⟩ := id ws
  have e157 : addW w n (nI X) (nI Y) (nI P) (nI R) wt 157 = nI (n + 1) := add_157
  have e158 : addW w n (nI X) (nI Y) (nI P) (nI R) wt 158 = nI s := (add_o (by decide) (by decide) (by omega)).trans c5
  have ss : wfS (addW w n (nI X) (nI Y) (nI P) (nI R) wt) (n + 1) s t := by
    refine ⟨by omega, c2, c3, e157, e158, ?_, (add_o (by decide) (by decide) (by omega)).trans c7, ?_⟩
    · have : addW w n (nI X) (nI Y) (nI P) (nI R) wt 159 = w 159 ||| one n := by unfold addW; rw [updW_n (by decide), updW_s]
      rw [this]; exact low_or (low_le (by omega) c6) (low_one (by omega) (by omega))
    · rw [add_o (by decide) (by decide) (by omega)]; exact c8
  refine ⟨ss, wfT_same (fun i h1 h2 => add_o (by omega) (by omega) (by omega)) wt', ?_, wfL_same (fun i h1 => add_o (by omega) (by omega) (by omega)) wl⟩
  obtain ⟨l0, l1, l2, l3⟩ := lay_in (w := w) (k := n) (x := nI X) (y := nI Y) (wd := nI P) (tl := nI R) (wt := wt)
  have inn : ∀ j, j < 4 → addW w n (nI X) (nI Y) (nI P) (nI R) wt (7 * n + j) = layW w n (nI X) (nI Y) (nI P) (nI R) wt (7 * n + j) := fun j hj => by unfold addW; rw [updW_n (by omega), updW_n (by omega)]
  refine wfI_lay (k := n) (by omega) wi (fun i hi ne j hj => add_o (by omega) (by omega) (by omega)) ((inn 0 (by decide)).trans l0) ((inn 1 (by decide)).trans l1) ((inn 2 (by decide)).trans l2) ((inn 3 (by decide)).trans l3) b1 b2 b3 b4 b5 b6 fr (fun i hi ne ci => ?_)
  rw [item_iff e157 (by omega) e158 c2 hi] at ci
  rw [item_iff c4 c1 c5 c2 hi]
  omega
theorem wfW_spa {X Y P R : Nat} {wt : Int32} (ws : wfS w s n t) (wt' : wfT w) (wi : wfI w) (wl : wfL w t) (hn : n < 8) (b1 : 0 < P) (b2 : P ≤ 6) (b3 : 0 < R) (b4 : R ≤ 6) (b5 : X + P ≤ 12) (b6 : Y + R ≤ 8) (fr : cFree w (nI X) (nI Y) P R) : wfS (spaW w n (nI X) (nI Y) (nI P) (nI R) wt) s (n + 1) t ∧ wfT (spaW w n (nI X) (nI Y) (nI P) (nI R) wt) ∧ wfI (spaW w n (nI X) (nI Y) (nI P) (nI R) wt) ∧ wfL (spaW w n (nI X) (nI Y) (nI P) (nI R) wt) t := by
  obtain ⟨c1, c2, c3, c4, c5, c6, c7, c8⟩ := id ws
  have e158 : spaW w n (nI X) (nI Y) (nI P) (nI R) wt 158 = nI (n + 1) := updW_s
  have e157 : spaW w n (nI X) (nI Y) (nI P) (nI R) wt 157 = nI s := (spa_o (by decide) (by omega)).trans c4
  have ss : wfS (spaW w n (nI X) (nI Y) (nI P) (nI R) wt) s (n + 1) t := by
    refine ⟨c1, by omega, c3, e157, e158, ?_, (spa_o (by decide) (by omega)).trans c7, ?_⟩
    · rw [spa_o (by decide) (by omega)]; exact c6
    · rw [spa_o (by decide) (by omega)]; exact c8
  refine ⟨ss, wfT_same (fun i h1 h2 => spa_o (by omega) (by omega)) wt', ?_, wfL_same (fun i h1 => spa_o (by omega) (by omega)) wl⟩
  obtain ⟨l0, l1, l2, l3⟩ := lay_in (w := w) (k := 14 + n) (x := nI X) (y := nI Y) (wd := nI P) (tl := nI R) (wt := wt)
  have inn : ∀ j, j < 4 → spaW w n (nI X) (nI Y) (nI P) (nI R) wt (7 * (14 + n) + j) = layW w (14 + n) (nI X) (nI Y) (nI P) (nI R) wt (7 * (14 + n) + j) := fun j hj => by unfold spaW; rw [updW_n (by omega)]
  refine wfI_lay (k := 14 + n) (by omega) wi (fun i hi ne j hj => spa_o (by omega) (by omega)) ((inn 0 (by decide)).trans l0) ((inn 1 (by decide)).trans l1) ((inn 2 (by decide)).trans l2) ((inn 3 (by decide)).trans l3) b1 b2 b3 b4 b5 b6 fr (fun i hi ne ci => ?_)
  rw [item_iff e157 c1 e158 (by omega) hi] at ci
  rw [item_iff c4 c1 c5 c2 hi]
  omega
theorem lay_I {k o i : Nat} {x y wd tl wt : Int32} (ho : o ≠ 68) : hI (layH h k x y wd tl wt) o i = hI h o i := by
  unfold layH; rw [rd_o ho, rd_o ho, rd_o ho, rd_o ho, rd_o ho, rd_o ho, rd_o ho]
theorem addS_I {o i : Nat} {x y wd tl wt : Int32} (h1 : o ≠ 65) (h2 : o ≠ 68) : hI (addStoneH h n x y wd tl wt) o i = hI h o i := by unfold addStoneH; rw [lay_I h2, rd_o h1, rd_o h1]
theorem addP_I {o i : Nat} {x y wd tl wt : Int32} (h1 : o ≠ 65) (h2 : o ≠ 68) : hI (addSpareH h n x y wd tl wt) o i = hI h o i := by unfold addSpareH; rw [lay_I h2, rd_o h1]
theorem s_stone (wf : wfA A) {x y wd tl wt : Int32} : stp cx jX11_stone jX12_stone [.int x, .int y, .int wd, .int tl, .int wt] A := by
  obtain ⟨n, s, t, ws, wtm, wi, wl⟩ := id wf.1
  obtain ⟨hn, en, lT⟩ := wfS_n ws
  have e25 : ∀ {d a : Nat} {h : Hp} {Q : Option Value → Hp → Prop}, RX A h → E cx jX11_stone d a 25 [some (.ref o_x), some (.int x), some (.int y), some (.int wd), some (.int tl), some (.int wt), none] [.int (if n < 14 then 1 else 0), .int wt, .int tl, .int wd, .int y, .int x, .ref o_x] h Q → M cx jX11_stone d a [.ref o_x, .int x, .int y, .int wd, .int tl, .int wt] h Q := fun {d a h Q} p k => by
    have eS : hI h (ly_rf o_x 0) 3 = nI n := p.1.1.1.2.2.1.trans en
    refine sX11_stone rfl (And.intro (fun q1 => (eX11_stone ?_)) (fun q1 => ?_))
    · rw [eS] at q1
      rw [if_neg (fun z => nI_ge (b := 14) z (by decide) q1)] at k
      exact k
    · rw [eS] at q1
      rw [if_pos (Classical.byContradiction fun z => q1 (nI_le (a := 14) (by omega) (by omega)))] at k
      exact k
  by_cases q : cCan x y wd tl wt
  · obtain ⟨X, Y, P, R, rfl, rfl, rfl, rfl, h1, h2, h3, h4, h5, h6⟩ := can_xy q
    have ft : ∀ {h : Hp}, RX A h → (cFree (A 0) (nI X) (nI Y) P R ↔ ¬ fTakenB h (nI X) (nI Y) (nI P) (nI R) 22) := fun p => free_taken p.1.1.1 ws wi ⟨X, rfl, by omega⟩ ⟨Y, rfl, by omega⟩ h1 h2 h3 h4
    by_cases fr : cFree (A 0) (nI X) (nI Y) P R
    · by_cases n14 : n < 14
      · have ww := wfW_add (wt := wt) ws wtm wi wl n14 h1 h2 h3 h4 h5 h6 fr
        refine stp_wall (r := nI n) wf ⟨_, _, _, ww⟩ (fun i h1 h2 => add_o (by omega) (by omega) (by omega)) (fun d a h hd p => ?_) (fun d c h hd p => ?_)
        · refine e25 p (eX11_stone (wcV (x_hindrance (by omega)) ?_))
          rw [show hinR h (nI X) (nI Y) (nI P) (nI R) wt (if n < 14 then 1 else 0) = 0 by unfold hinR; rw [if_pos q, if_neg ((ft p).mp fr), if_pos n14]; rfl]
          refine And.intro (fun q2 => ?_) (fun q2 => absurd rfl q2)
          have e3 : hI (wI h o_x 12 1) o_wall 3 = nI n := (rd_o (by decide)).trans (p.1.1.1.2.2.1.trans en)
          refine eX11_stone (And.intro (Or.inr rfl) (wcV (m_addStone (by omega) e3 (by omega)) (wcV x_accept ⟨rfl, wF_x (wF_add n14 (wF_x p.1.1.1)), rd_same, ?_, rfl, fun o k z1 z2 z3 => ?_⟩)))
          · rw [rd_k (by decide), addS_I (by decide) (by decide), rd_same]
          · rw [rd_any, if_neg (fun z => z2 ⟨z.1, Or.inl z.2⟩), addS_I (by omega) (by omega), rd_any, if_neg (fun z => z2 ⟨z.1, Or.inr z.2⟩)]
        · have ew := p.1.1
          refine M_mono (n_stone_ok (by omega) q rfl rfl h1 h2 h4 (by rw [ew]; exact fr) (by rw [ew]; exact en) n14) ?_
          rintro v g ⟨rfl, rfl⟩
          exact ⟨rfl, h, _, keepM_r, p.2, by rw [kW_add (by rw [ew]; exact en) n14, ew], nadd_2, fun o k ho => nadd_o ho, rfl⟩
      · obtain rfl : n = 14 := by omega
        refine stp_ref (n := 5) (j := 3) (k := -5) (by decide) (Or.inr (Or.inr (Or.inr (Or.inl ⟨rfl, rfl⟩)))) wf (fun d a h hd p => ?_) (fun d c h hd p => n_stone_full (by omega) q rfl rfl h1 h2 h4 (by rw [p.1.1]; exact fr) (by rw [p.1.1]; exact en))
        refine e25 p (eX11_stone (wcV (x_hindrance (by omega)) ?_))
        rw [show hinR h (nI X) (nI Y) (nI P) (nI R) wt (if 14 < 14 then 1 else 0) = -5 by unfold hinR; rw [if_pos q, if_neg ((ft p).mp fr), if_pos (by decide)]]
        exact And.intro (fun q2 => absurd q2 (by decide)) (fun q2 => wcV (x_refuse5 (by omega)) ⟨rfl, rfl⟩)
    · refine stp_ref (n := 3) (j := 2) (k := -3) (by decide) (Or.inr (Or.inr (Or.inl ⟨rfl, rfl⟩))) wf (fun d a h hd p => ?_) (fun d c h hd p => n_stone_way (by omega) q rfl rfl h1 h2 h4 (by rw [p.1.1]; exact fr))
      refine e25 p (eX11_stone (wcV (x_hindrance (by omega)) ?_))
      rw [show hinR h (nI X) (nI Y) (nI P) (nI R) wt (if n < 14 then 1 else 0) = -3 by unfold hinR; rw [if_pos q, if_pos (Classical.byContradiction fun z => fr ((ft p).mpr z))]]
      exact And.intro (fun q2 => absurd q2 (by decide)) (fun q2 => wcV (x_refuse3 (by omega)) ⟨rfl, rfl⟩)
  · refine stp_ref (n := 1) (j := 0) (k := -1) (by decide) (Or.inl ⟨rfl, rfl⟩) wf (fun d a h hd p => ?_) (fun d c h hd p => n_stone_no (by omega) q)
    refine e25 p (eX11_stone (wcV (x_hindrance (by omega)) ?_))
    rw [show hinR h x y wd tl wt (if n < 14 then 1 else 0) = -1 by unfold hinR; rw [if_neg q]]
    exact And.intro (fun q2 => absurd q2 (by decide)) (fun q2 => wcV (x_refuse1 (by omega)) ⟨rfl, rfl⟩)
theorem s_spare (wf : wfA A) {x y wd tl wt : Int32} : stp cx jX11_spare jX12_spare [.int x, .int y, .int wd, .int tl, .int wt] A := by
  obtain ⟨s, n, t, ws, wtm, wi, wl⟩ := id wf.1
  have hn : n ≤ 8 := ws.2.1
  have en : A 0 158 = nI n := ws.2.2.2.2.1
  have e25 : ∀ {d a : Nat} {h : Hp} {Q : Option Value → Hp → Prop}, RX A h → E cx jX11_spare d a 25 [some (.ref o_x), some (.int x), some (.int y), some (.int wd), some (.int tl), some (.int wt), none] [.int (if n < 8 then 1 else 0), .int wt, .int tl, .int wd, .int y, .int x, .ref o_x] h Q → M cx jX11_spare d a [.ref o_x, .int x, .int y, .int wd, .int tl, .int wt] h Q := fun {d a h Q} p k => by
    have eS : hI h (ly_rf o_x 0) 4 = nI n := p.1.1.1.2.2.2.1.trans en
    refine sX11_spare rfl (And.intro (fun q1 => (eX11_spare ?_)) (fun q1 => ?_))
    · rw [eS] at q1
      rw [if_neg (fun z => nI_ge (b := 8) z (by decide) q1)] at k
      exact k
    · rw [eS] at q1
      rw [if_pos (Classical.byContradiction fun z => q1 (nI_le (a := 8) (by omega) (by omega)))] at k
      exact k
  by_cases q : cCan x y wd tl wt
  · obtain ⟨X, Y, P, R, rfl, rfl, rfl, rfl, h1, h2, h3, h4, h5, h6⟩ := can_xy q
    have ft : ∀ {h : Hp}, RX A h → (cFree (A 0) (nI X) (nI Y) P R ↔ ¬ fTakenB h (nI X) (nI Y) (nI P) (nI R) 22) := fun p => free_taken p.1.1.1 ws wi ⟨X, rfl, by omega⟩ ⟨Y, rfl, by omega⟩ h1 h2 h3 h4
    by_cases fr : cFree (A 0) (nI X) (nI Y) P R
    · by_cases n14 : n < 8
      · have ww := wfW_spa (wt := wt) ws wtm wi wl n14 h1 h2 h3 h4 h5 h6 fr
        refine stp_wall (r := nI n) wf ⟨_, _, _, ww⟩ (fun i h1 h2 => spa_o (by omega) (by omega)) (fun d a h hd p => ?_) (fun d c h hd p => ?_)
        · refine e25 p (eX11_spare (wcV (x_hindrance (by omega)) ?_))
          rw [show hinR h (nI X) (nI Y) (nI P) (nI R) wt (if n < 8 then 1 else 0) = 0 by unfold hinR; rw [if_pos q, if_neg ((ft p).mp fr), if_pos n14]; rfl]
          refine And.intro (fun q2 => ?_) (fun q2 => absurd rfl q2)
          have e3 : hI (wI h o_x 12 1) o_wall 4 = nI n := (rd_o (by decide)).trans (p.1.1.1.2.2.2.1.trans en)
          refine eX11_spare (And.intro (Or.inr rfl) (wcV (m_addSpare (by omega) e3 n14) (wcV x_accept ⟨rfl, wF_x (wF_spa n14 (wF_x p.1.1.1)), rd_same, ?_, rfl, fun o k z1 z2 z3 => ?_⟩)))
          · rw [rd_k (by decide), addP_I (by decide) (by decide), rd_same]
          · rw [rd_any, if_neg (fun z => z2 ⟨z.1, Or.inl z.2⟩), addP_I (by omega) (by omega), rd_any, if_neg (fun z => z2 ⟨z.1, Or.inr z.2⟩)]
        · have ew := p.1.1
          refine M_mono (n_spare_ok (by omega) q rfl rfl h1 h2 h4 (by rw [ew]; exact fr) (by rw [ew]; exact en) n14) ?_
          rintro v g ⟨rfl, rfl⟩
          exact ⟨rfl, h, nspaH h n (nI X) (nI Y) (nI P) (nI R) wt, keepM_r, p.2, by rw [kW_spa (by rw [ew]; exact en) n14, ew], rfl, fun o k ho => nspa_o ho, rfl⟩
      · obtain rfl : n = 8 := by omega
        refine stp_ref (n := 5) (j := 3) (k := -5) (by decide) (Or.inr (Or.inr (Or.inr (Or.inl ⟨rfl, rfl⟩)))) wf (fun d a h hd p => ?_) (fun d c h hd p => n_spare_full (by omega) q rfl rfl h1 h2 h4 (by rw [p.1.1]; exact fr) (by rw [p.1.1]; exact en))
        refine e25 p (eX11_spare (wcV (x_hindrance (by omega)) ?_))
        rw [show hinR h (nI X) (nI Y) (nI P) (nI R) wt (if 8 < 8 then 1 else 0) = -5 by unfold hinR; rw [if_pos q, if_neg ((ft p).mp fr), if_pos (by decide)]]
        exact And.intro (fun q2 => absurd q2 (by decide)) (fun q2 => wcV (x_refuse5 (by omega)) ⟨rfl, rfl⟩)
    · refine stp_ref (n := 3) (j := 2) (k := -3) (by decide) (Or.inr (Or.inr (Or.inl ⟨rfl, rfl⟩))) wf (fun d a h hd p => ?_) (fun d c h hd p => n_spare_way (by omega) q rfl rfl h1 h2 h4 (by rw [p.1.1]; exact fr))
      refine e25 p (eX11_spare (wcV (x_hindrance (by omega)) ?_))
      rw [show hinR h (nI X) (nI Y) (nI P) (nI R) wt (if n < 8 then 1 else 0) = -3 by unfold hinR; rw [if_pos q, if_pos (Classical.byContradiction fun z => fr ((ft p).mpr z))]]
      exact And.intro (fun q2 => absurd q2 (by decide)) (fun q2 => wcV (x_refuse3 (by omega)) ⟨rfl, rfl⟩)
  · refine stp_ref (n := 1) (j := 0) (k := -1) (by decide) (Or.inl ⟨rfl, rfl⟩) wf (fun d a h hd p => ?_) (fun d c h hd p => n_spare_no (by omega) q)
    refine e25 p (eX11_spare (wcV (x_hindrance (by omega)) ?_))
    rw [show hinR h x y wd tl wt (if n < 8 then 1 else 0) = -1 by unfold hinR; rw [if_neg q]]
    exact And.intro (fun q2 => absurd q2 (by decide)) (fun q2 => wcV (x_refuse1 (by omega)) ⟨rfl, rfl⟩)
end T998
