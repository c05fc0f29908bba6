/-! row on both sides -/
section T9990
variable {cx : Cx} {d a c : Nat} {h g f : Hp} {w w' : Wd} {A A' : Ab} {n s t : Nat}
/-- the wall stays well formed -/
theorem rw_wf {B : Nat → Int32} {w0 : Wd} (ws : wfS w0 n s t) (wt : wfT w0) (wi : wfI w0) (wl : wfL w0 t) : ∀ i, (∃ n, wfS (rwF w0 B i).1 n s t ∧ wfT (rwF w0 B i).1 ∧ wfI (rwF w0 B i).1 ∧ wfL (rwF w0 B i).1 t) ∧ ∀ k, 160 ≤ k → (rwF w0 B i).1 k = w0 k := by
  intro i
  induction i with
  | zero => exact ⟨⟨n, ws, wt, wi, wl⟩, fun _ _ => rfl⟩
  | succ i ih =>
    obtain ⟨⟨n, ws, wt, wi, wl⟩, e⟩ := ih
    by_cases y : rwC (rwF w0 B i).1 (B (5 * i)) (B (5 * i + 1)) (B (5 * i + 2)) (B (5 * i + 3)) (B (5 * i + 4))
    · have en : (rwF w0 B i).1 157 = nI n := ws.2.2.2.1
      have n14 := lt14 en ws.1 y.2.1
      rw [rw_yes y, en, nI_clamp (by have := ws.1; omega)]
      obtain ⟨X, Y, P, R, e1, e2, e3, e4, h1, h2, h3, h4, h5, h6⟩ := can_xy y.1
      obtain ⟨-, -, fr⟩ := y
      rw [e1, e2, e3, e4, nI_clamp (by omega), nI_clamp (by omega)] at fr
      rw [e1, e2, e3, e4]
      exact ⟨⟨n + 1, wfW_add ws wt wi wl n14 h1 h2 h3 h4 h5 h6 fr⟩, fun k hk => (add_o (by omega) (by omega) (by omega)).trans (e k hk)⟩
    · rw [rw_no y]; exact ⟨⟨n, ws, wt, wi, wl⟩, e⟩
/-- what the class's row has changed -/
def rxK (h g : Hp) : Prop := g.2 = h.2 ∧ ∀ o k, o ≠ 65 → o ≠ 68 → ¬ (o = 64 ∧ k = 11) → hI g o k = hI h o k
theorem rxK_t (p : rxK h g) (q : rxK g f) : rxK h f := ⟨q.1.trans p.1, fun o k h1 h2 h3 => (q.2 o k h1 h2 h3).trans (p.2 o k h1 h2 h3)⟩
theorem five {k : Nat} : (5 : Int32) + nI k = nI (5 + k) := nI_add 5 k
theorem x_fromTape (hd : 5 ≤ d) {i T : Nat} {B : Nat → Int32} (et : hI h o_tape 1 = nI T) (hT : T ≤ 400) (hi : 5 * i < T) (hB : ∀ k, k < 400 → hI h o_tape_bytes k = B k) (qf : wFm w h) (ws : wfS w n s t) (wi : wfI w) : M cx jX11_addFromTape d a [.ref o_x, .int (nI (5 * i))] h (fun r g => (5 * i + 5 ≤ T ∧ rwC w (B (5 * i)) (B (5 * i + 1)) (B (5 * i + 2)) (B (5 * i + 3)) (B (5 * i + 4)) ∧ r = some (.int 1) ∧ g = addStoneH h n (B (5 * i)) (B (5 * i + 1)) (B (5 * i + 2)) (B (5 * i + 3)) (B (5 * i + 4))) ∨ (¬ (5 * i + 5 ≤ T ∧ rwC w (B (5 * i)) (B (5 * i + 1)) (B (5 * i + 2)) (B (5 * i + 3)) (B (5 * i + 4))) ∧ r = some (.int 0) ∧ g = h)) := by
  have en : w 157 = nI n := ws.2.2.2.1
  have hn : n ≤ 14 := ws.1
  have eS : hI h (ly_rf o_x 0) 3 = nI n := qf.2.2.1.trans en
  refine sX11_addFromTape rfl (And.intro (fun q1 => (eX11_addFromTape ?_)) (fun q1 => And.intro (Or.inl rfl) (Or.inr ⟨fun z => q1 ?_, rfl, rfl⟩)))
  · have h5 : 5 * i + 5 ≤ T := by
      have q1 : nI (5 * i) + 5 ≤ hI h o_tape 1 := q1
      rw [et, show (5 : Int32) = nI 5 from rfl, nI_add] at q1
      exact (nI_leI (by omega) (by omega)).mp q1
    have bt : ∀ (j : Nat) (v : Int32), j < 5 → v = nI (5 * i + j) → M cx jX8_byteAt (d - 1) 0 [.ref o_tape, .int v] h (RQ (.int (B (5 * i + j))) h) := fun j v hj ev => by
      refine M_mono m_byteAt ?_
      rintro r g ⟨rfl, rfl⟩
      refine ⟨?_, rfl⟩
      rw [ev, if_pos ⟨nI_pos' (by omega), nI_lt (b := 400) (by omega) (by decide)⟩, nI_clamp (by omega), hB _ (by omega)]
    refine wcV (bt 0 _ (by decide) rfl) (wcV (bt 1 _ (by decide) (nI_add (5 * i) 1)) (wcV (bt 2 _ (by decide) (nI_add (5 * i) 2)) (wcV (bt 3 _ (by decide) (nI_add (5 * i) 3)) (wcV (bt 4 _ (by decide) (nI_add (5 * i) 4)) ?_))))
    rw [show 5 * i + 0 = 5 * i from rfl]
    generalize B (5 * i) = x, B (5 * i + 1) = y, B (5 * i + 2) = wd, B (5 * i + 3) = tl, B (5 * i + 4) = wt
    have iff0 : hinR h x y wd tl wt (if n < 14 then 1 else 0) = 0 ↔ rwC w x y wd tl wt := by
      unfold hinR rwC
      rw [en]
      have l14 : nI n < 14 ↔ n < 14 := nI_ltI (b := 14) (by omega) (by decide)
      rw [l14]
      by_cases q : cCan x y wd tl wt
      · obtain ⟨X, Y, P, R, rfl, rfl, rfl, rfl, h1, h2, h3, h4, h5, h6⟩ := can_xy q
        have ft : cFree w (nI X) (nI Y) P R ↔ ¬ fTakenB h (nI X) (nI Y) (nI P) (nI R) 22 := free_taken qf ws wi ⟨X, rfl, by omega⟩ ⟨Y, rfl, by omega⟩ h1 h2 h3 h4
        rw [if_pos q, nI_clamp (by omega), nI_clamp (by omega), ft]
        by_cases tk : fTakenB h (nI X) (nI Y) (nI P) (nI R) 22
        · rw [if_pos tk]; exact ⟨fun z => absurd z (by decide), fun z => absurd tk z.2.2⟩
        · rw [if_neg tk]
          by_cases n14 : n < 14
          · rw [if_pos n14]; exact ⟨fun _ => ⟨q, n14, tk⟩, fun _ => rfl⟩
          · rw [if_neg n14]; exact ⟨fun z => absurd z (by decide), fun z => absurd z.2.1 n14⟩
      · rw [if_neg q]; exact ⟨fun z => absurd z (by decide), fun z => absurd z.1 q⟩
    have e97 : E cx jX11_addFromTape d a 97 [some (.ref o_x), some (.int (nI (5 * i))), some (.int x), some (.int y), some (.int wd), some (.int tl), some (.int wt)] [.int (if n < 14 then 1 else 0), .int wt, .int tl, .int wd, .int y, .int x, .ref o_x] h (fun r g => (5 * i + 5 ≤ T ∧ rwC w x y wd tl wt ∧ r = some (.int 1) ∧ g = addStoneH h n x y wd tl wt) ∨ (¬ (5 * i + 5 ≤ T ∧ rwC w x y wd tl wt) ∧ r = some (.int 0) ∧ g = h)) := by
      refine eX11_addFromTape (wcV (x_hindrance (by omega)) (And.intro (fun q3 => (eX11_addFromTape (wcV (m_addStone (by omega) (qf.2.2.1.trans en) (by omega)) (And.intro (Or.inr rfl) (Or.inl ⟨h5, iff0.mp q3, rfl, rfl⟩))))) (fun q3 => (And.intro (Or.inl rfl) (Or.inr ⟨fun z => q3 (iff0.mpr z.2), rfl, rfl⟩)))))
    refine And.intro (fun q2 => (eX11_addFromTape ?_)) (fun q2 => ?_)
    · rw [eS] at q2
      rw [if_neg (fun z => nI_ge (b := 14) z (by decide) q2)] at e97
      exact e97
    · rw [eS] at q2
      rw [if_pos (Classical.byContradiction fun z => q2 (nI_le (a := 14) (by omega) (by omega)))] at e97
      exact e97
  · show nI (5 * i) + 5 ≤ hI h o_tape 1
    rw [et, show (5 : Int32) = nI 5 from rfl, nI_add]; exact nI_le z.1 (by omega)
theorem up2_id {o k : Nat} {v : Int32} (e : A o k = v) : up2 A o k v = A := by
  funext i j; unfold up2
  by_cases z : i = o
  · rw [if_pos z]
    by_cases y : j = k
    · rw [if_pos y, z, y, e]
    · rw [if_neg y]
  · rw [if_neg z]
noncomputable def rowA (A : Ab) (T : Nat) : Ab := up2 (up2 (up1 A 0 (rwF (A 0) (A 4) (T / 5)).1) 5 0 0) 5 2 (rw0 T + (rwF (A 0) (A 4) (T / 5)).2.2)
theorem rwA_1 {T k : Nat} (hk : k < 2) : rowA A T (1 + k) = A (1 + k) := by
  unfold rowA; rw [up2_o (by omega), up2_o (by omega)]; exact if_neg (by omega)
theorem rwA_o {T k : Nat} (h0 : k ≠ 0) (h5 : k ≠ 5) : rowA A T k = A k := by
  unfold rowA; rw [up2_o h5, up2_o h5]; exact if_neg h0
theorem rwA_0 {T : Nat} : rowA A T 0 = (rwF (A 0) (A 4) (T / 5)).1 := by
  unfold rowA; rw [up2_o (by decide), up2_o (by decide)]; exact if_pos rfl
theorem rwA_5 {T : Nat} : rowA A T 5 0 = 0 ∧ rowA A T 5 1 = A 5 1 ∧ rowA A T 5 2 = rw0 T + (rwF (A 0) (A 4) (T / 5)).2.2 ∧ rowA A T 5 3 = A 5 3 := by
  unfold rowA
  refine ⟨?_, ?_, up2_s, ?_⟩
  · rw [up2_n (by decide), up2_s]
  · rw [up2_n (by decide), up2_n (by decide)]; exact congrFun (if_neg (by decide)) 1
  · rw [up2_n (by decide), up2_n (by decide)]; exact congrFun (if_neg (by decide)) 3
theorem s_row (wf : wfA A) : stp cx jX11_row jX12_row [] A := by
  obtain ⟨n, s, t, ws, wt, wi, wl⟩ := id wf.1
  obtain ⟨T, hT, eT⟩ := wf.2.2.1
  by_cases z0 : T = 0
  · subst z0
    refine ⟨-6, refA A (-6) 6, wfA_ref wf, fun d a h hd _ p => ?_, fun d c h hd hc p => ?_⟩
    · have p5 : hI h o_tape 1 = 0 := p.1.2.2.2.2.1.trans eT
      refine M_mono (Q := RQ (.int (-6)) (xrefH h (-6) 4)) (sX11_row rfl (And.intro (fun q1 => absurd p5 q1) (fun q1 => wcV (x_refuse6 (by omega)) ⟨rfl, rfl⟩))) ?_
      rintro r g ⟨rfl, rfl⟩
      exact ⟨rfl, RX_ref (Or.inr (Or.inr (Or.inr (Or.inr ⟨rfl, rfl⟩)))) p, xref_md⟩
    · have e10 : hI h o_m 10 = 0 := p.1.2.2.2.2.1.trans eT
      refine M_mono (n_row_no (by omega) e10) ?_
      rintro r g ⟨rfl, rfl⟩
      have q : RM c A (wI h o_m 10 0) := by
        have := RMd_m10 (v := 0) p.1
        rw [up2_id (show A 5 0 = 0 from eT)] at this
        exact ⟨this, mC_c p.2 (fun o k h1 h2 => rd_o (by show o ≠ 104; omega)) (fun k hk => rd_k (by omega))⟩
      exact ⟨rfl, RM_ref (by decide) q, keepC_t (keepC_w (by decide)) keepC_ref⟩
  · have hw := rw_wf (B := A 4) ws wt wi wl
    have wf' : wfA (goodA (rowA A T)) := by
      refine wfA_good ?_
      obtain ⟨q1, q2, q3, q4, q5⟩ := wf
      refine ⟨by rw [rwA_0]; obtain ⟨⟨n', a1, a2, a3, a4⟩, -⟩ := hw (T / 5); exact ⟨n', s, t, a1, a2, a3, a4⟩, fun k hk => ?_, ⟨0, by omega, rwA_5.1⟩, by rw [rwA_o (by decide) (by decide)]; exact q4, by rw [rwA_o (by decide) (by decide)]; exact q5⟩
      rw [rwA_o (by decide) (by decide), rwA_1 hk]; exact q2 k hk
    refine ⟨(rwF (A 0) (A 4) (T / 5)).2.1, goodA (rowA A T), wf', fun d a h hd _ p => ?_, fun d c h hd hc p => ?_⟩
    · obtain ⟨-, -, -, p4, p5, p6, p7, p8, p9, p14, p15⟩ := id p.1
      have e1 : hI h o_tape 1 = nI T := p5.trans eT
      -- the end of the loop
      have fin : ∀ G u, rxK h G → wFm (rwF (A 0) (A 4) (T / 5)).1 G → hI G o_x 11 = rw0 T + (rwF (A 0) (A 4) (T / 5)).2.2 → T ≤ 5 * u → u ≤ 100 → E cx jX11_row d a 26 [some (.ref o_x), some (.int (rwF (A 0) (A 4) (T / 5)).2.1), some (.int (nI (5 * u)))] [] G (xQ (goodA (rowA A T)) (rwF (A 0) (A 4) (T / 5)).2.1 h) := fun G u kq qf er hu hu2 => by
        have eG : hI G o_tape 1 = nI T := (kq.2 _ _ (by decide) (by decide) (by decide)).trans e1
        refine eX11_row (And.intro (fun q1 => (eX11_row (And.intro (Or.inr rfl) (wcV x_accept ⟨rfl, ?_, fun o k h1 h2 => ?_⟩)))) (fun q1 => absurd ?_ q1))
        · show RX (goodA (rowA A T)) (wI (wI (wI G o_tape 1 0) o_x 12 1) o_x 9 0)
          generalize eg : wI (wI (wI G o_tape 1 0) o_x 12 1) o_x 9 0 = g
          have cg : ∀ o k, o ≠ 65 → o ≠ 68 → ¬ (o = 64 ∧ (k = 9 ∨ k = 11 ∨ k = 12)) → ¬ (o = 79 ∧ k = 1) → hI g o k = hI h o k := fun o k h1 h2 h3 h4 => by
            rw [← eg, rd_any, if_neg (fun z => h3 ⟨z.1, Or.inl z.2⟩), rd_any, if_neg (fun z => h3 ⟨z.1, Or.inr (Or.inr z.2)⟩), rd_any, if_neg h4]
            exact kq.2 o k h1 h2 (fun z => h3 ⟨z.1, Or.inr (Or.inl z.2)⟩)
          have g12 : hI g o_x 12 = 1 := by rw [← eg, rd_k (by decide), rd_same]
          have g9 : hI g o_x 9 = 0 := by rw [← eg, rd_same]
          have g11 : hI g o_x 11 = rw0 T + (rwF (A 0) (A 4) (T / 5)).2.2 := by rw [← eg, rd_k (by decide), rd_k (by decide), rd_o (by decide)]; exact er
          have g1 : hI g o_tape 1 = 0 := by rw [← eg, rd_o (by decide), rd_o (by decide), rd_same]
          have g2 : g.2 = h.2 := by rw [← eg]; exact kq.1
          have gf : wFm (rwF (A 0) (A 4) (T / 5)).1 g := by
            rw [← eg]
            exact wF_x (wF_x (wF_c (fun o k ho => rd_o (by rcases ho with z | z | z <;> subst z <;> decide)) qf))
          have back : RX (goodA (up1 A 0 (rwF (A 0) (A 4) (T / 5)).1)) (wI (wI g o_tape 1 (hI h o_tape 1)) o_x 11 (hI h o_x 11)) := by
            refine RX_wall (fun k hk _ => (hw (T / 5)).2 k hk) p.1 p.2.1.2 (wF_x (wF_c (fun o k ho => rd_o (by rcases ho with z | z | z <;> subst z <;> decide)) gf)) ?_ ?_ (congrArg (fun z => z.2) g2) (fun o k z1 z2 z3 => ?_)
            · rw [rd_k (by decide), rd_o (by decide)]; exact g9
            · rw [rd_k (by decide), rd_o (by decide)]; exact g12
            · rw [rd_any]
              by_cases y1 : o = 64 ∧ k = 11
              · rw [if_pos y1, y1.1, y1.2]
              · rw [if_neg y1, rd_any]
                by_cases y2 : o = 79 ∧ k = 1
                · rw [if_pos y2, y2.1, y2.2]
                · rw [if_neg y2]; exact cg o k (fun z => z1 (Or.inl z)) (fun z => z1 (Or.inr (Or.inl z))) (by omega) y2
          refine ⟨?_, ⟨⟨Or.inr g12, imR_e (congrArg (fun z => z.2) g2) p.2.1.2⟩, fun z => absurd (g12.symm.trans z) (by decide)⟩⟩
          have e0 : goodA (rowA A T) 0 = goodA (up1 A 0 (rwF (A 0) (A 4) (T / 5)).1) 0 := by
            unfold goodA; rw [up2_o (by decide), up2_o (by decide), rwA_0]; rfl
          refine RXd_c back.1 e0 (fun k hk => ?_) ?_ rfl (fun o k ho => ?_) (fun k hk => ?_) ?_ ?_ ?_ g9 ?_ (fun k hk => ?_) ?_
          · unfold goodA; rw [up2_o (by omega), up2_o (by omega), rwA_1 hk]; exact (if_neg (by omega)).symm
          · unfold goodA; rw [up2_o (by decide), up2_o (by decide), rwA_o (by decide) (by decide)]; rfl
          · exact ((rd_o (by show o ≠ 64; omega)).trans (rd_o (by show o ≠ 79; omega))).symm
          · unfold goodA; rw [up2_o (by decide), rwA_o (by decide) (by decide), cg _ _ (by decide) (by decide) (fun z => absurd z.1 (by decide)) (fun z => absurd z.1 (by decide))]; exact p4 k hk
          · unfold goodA; rw [up2_n (by decide), rwA_5.1]; exact g1
          · unfold goodA; rw [up2_n (by decide), rwA_5.2.1, cg _ _ (by decide) (by decide) (by decide) (by decide)]; exact p6
          · unfold goodA; rw [up2_n (by decide), rwA_5.2.2.1]; exact g11
          · unfold goodA; rw [up2_o (by decide), rwA_o (by decide) (by decide), cg _ _ (by decide) (by decide) (by decide) (by decide), cg _ _ (by decide) (by decide) (by decide) (by decide), cg _ _ (by decide) (by decide) (by decide) (by decide), cg _ _ (by decide) (by decide) (by decide) (by decide), cg _ _ (by decide) (by decide) (by decide) (by decide)]; exact p9
          · unfold goodA; rw [up2_o (by decide), rwA_o (by decide) (by decide), cg _ _ (by decide) (by decide) (fun z => absurd z.1 (by decide)) (fun z => absurd z.1 (by decide))]; exact p14 k hk
          · unfold goodA; rw [up2_o (by decide), rwA_o (by decide) (by decide), cg _ _ (by decide) (by decide) (by decide) (by decide)]; exact p15
        · exact (rd_o (by show o ≠ 64; omega)).trans ((rd_o (by show o ≠ 64; omega)).trans ((rd_o (by show o ≠ 79; omega)).trans (kq.2 o k (by omega) (by omega) (by omega))))
        · show hI G o_tape 1 ≤ nI (5 * u)
          rw [eG]; exact nI_le hu (by omega)
      -- one stone that is not laid
      have miss : ∀ G i, i ≤ 80 → rxK h G → (∀ v, v = hI G o_x 11 + 1 → E cx jX11_row d a 26 [some (.ref o_x), some (.int (rwF (A 0) (A 4) i).2.1), some (.int (nI (5 * (i + 1))))] [] (wI G o_x 11 v) (xQ (goodA (rowA A T)) (rwF (A 0) (A 4) (T / 5)).2.1 h)) → E cx jX11_row d a 51 [some (.ref o_x), some (.int (rwF (A 0) (A 4) i).2.1), some (.int (nI (5 * i)))] [] G (xQ (goodA (rowA A T)) (rwF (A 0) (A 4) (T / 5)).2.1 h) := fun G i hi kq k => by
        have := k _ rfl
        rw [show 5 * (i + 1) = 5 * i + 5 by omega, ← nI_add (5 * i) 5] at this
        exact eX11_row (eX11_row this)
      have call : ∀ {G i}, 5 * i < T → rxK h G → wFm (rwF (A 0) (A 4) i).1 G → ∃ n', n' ≤ 14 ∧ (rwF (A 0) (A 4) i).1 157 = nI n' ∧ M cx jX11_addFromTape (d - 1) 0 [.ref o_x, .int (nI (5 * i))] G (fun r g => (5 * i + 5 ≤ T ∧ rwC (rwF (A 0) (A 4) i).1 (A 4 (5 * i)) (A 4 (5 * i + 1)) (A 4 (5 * i + 2)) (A 4 (5 * i + 3)) (A 4 (5 * i + 4)) ∧ r = some (.int 1) ∧ g = addStoneH G n' (A 4 (5 * i)) (A 4 (5 * i + 1)) (A 4 (5 * i + 2)) (A 4 (5 * i + 3)) (A 4 (5 * i + 4))) ∨ (¬ (5 * i + 5 ≤ T ∧ rwC (rwF (A 0) (A 4) i).1 (A 4 (5 * i)) (A 4 (5 * i + 1)) (A 4 (5 * i + 2)) (A 4 (5 * i + 3)) (A 4 (5 * i + 4))) ∧ r = some (.int 0) ∧ g = G)) := fun {G i} hi kq qf => by
        obtain ⟨⟨n', a1, a2, a3, a4⟩, -⟩ := hw i
        exact ⟨n', a1.1, a1.2.2.2.1, x_fromTape (by omega) ((kq.2 _ _ (by decide) (by decide) (by decide)).trans e1) hT hi (fun k hk => (kq.2 _ _ (by decide) (by decide) (fun z => absurd z.1 (by decide))).trans (p4 k hk)) qf a1 a3⟩
      have loop : ∀ m i, m + i = T / 5 → ∀ G, rxK h G → wFm (rwF (A 0) (A 4) i).1 G → hI G o_x 11 = (rwF (A 0) (A 4) i).2.2 → E cx jX11_row d a 26 [some (.ref o_x), some (.int (rwF (A 0) (A 4) i).2.1), some (.int (nI (5 * i)))] [] G (xQ (goodA (rowA A T)) (rwF (A 0) (A 4) (T / 5)).2.1 h) := by
        intro m
        induction m with
        | zero =>
          intro i hi G kq qf er
          obtain rfl : i = T / 5 := by omega
          by_cases t5 : T % 5 = 0
          · refine fin G (T / 5) kq qf ?_ (by omega) (by omega)
            rw [er]; unfold rw0; rw [if_pos t5, Int32.zero_add]
          · obtain ⟨n', -, -, cl⟩ := call (G := G) (i := T / 5) (by omega) kq qf
            have eG : hI G o_tape 1 = nI T := (kq.2 _ _ (by decide) (by decide) (by decide)).trans e1
            refine eX11_row (And.intro (fun q1 => absurd (show hI G o_tape 1 ≤ nI (5 * (T / 5)) from q1) (by rw [eG]; exact nI_ge (by omega) (by omega))) (fun q1 => wcQ cl (fun u g z => ?_) (fun u g z => ?_)))
            · obtain ⟨z1, z2⟩ | ⟨z1, rfl, rfl⟩ := z
              · omega
              · refine And.intro (fun _ => miss g (T / 5) (by omega) kq fun v ev => fin _ (T / 5 + 1) (rxK_t kq ⟨rfl, fun o k h1 h2 h3 => by rw [rd_any, if_neg h3]⟩) (wF_x qf) ?_ (by omega) (by omega)) (fun q => absurd rfl q)
                rw [rd_same, ev, er]; unfold rw0; rw [if_neg t5, Int32.add_comm]
            · obtain ⟨-, -, -, rfl⟩ | ⟨-, -, rfl⟩ := z <;> rfl
        | succ m ih =>
          intro i hi G kq qf er
          obtain ⟨n', hn', en', cl⟩ := call (G := G) (i := i) (by omega) kq qf
          have eG : hI G o_tape 1 = nI T := (kq.2 _ _ (by decide) (by decide) (by decide)).trans e1
          have i2 := ih (i + 1) (by omega)
          refine eX11_row (And.intro (fun q1 => absurd (show hI G o_tape 1 ≤ nI (5 * i) from q1) (by rw [eG]; exact nI_ge (by omega) (by omega))) (fun q1 => wcQ cl (fun u g z => ?_) (fun u g z => ?_)))
          · obtain ⟨z1, z2, rfl, rfl⟩ | ⟨z1, rfl, rfl⟩ := z
            · rw [rw_yes z2, en', nI_clamp (by omega)] at i2
              have n14 := lt14 en' hn' z2.2.1
              have i3 := i2 (addStoneH G n' _ _ _ _ _) (rxK_t kq ⟨rfl, fun o k h1 h2 h3 => addS_I h1 h2⟩) (wF_add n14 qf) ((addS_I (by decide) (by decide)).trans er)
              rw [show 5 * (i + 1) = 5 * i + 5 by omega, ← nI_add (5 * i) 5] at i3
              exact And.intro (fun q => absurd q (by decide)) (fun q => eX11_row i3)
            · have z2 := fun y => z1 ⟨by omega, y⟩
              rw [rw_no z2] at i2
              refine And.intro (fun _ => miss g i (by omega) kq fun v ev => i2 _ (rxK_t kq ⟨rfl, fun o k h1 h2 h3 => by rw [rd_any, if_neg h3]⟩) (wF_x qf) ?_) (fun q => absurd rfl q)
              rw [rd_same, ev, er]
          · obtain ⟨-, -, -, rfl⟩ | ⟨-, -, rfl⟩ := z <;> rfl
      have n0 : ¬ hI h o_tape 1 = 0 := by rw [e1]; exact fun z => z0 ((nI_eq (b := 0) (by omega) (by decide)).mp z)
      refine sX11_row rfl (And.intro (fun q1 => (eX11_row (loop (T / 5) 0 rfl _ ⟨rfl, fun o k h1 h2 h3 => by rw [rd_any, if_neg h3]⟩ (wF_x p.1.1.1) rd_same))) (fun q1 => absurd q1 n0))
    · obtain ⟨p1, p2, p3, p4, p5, p6, p7, p8, p9, p10, p11, p12⟩ := id p.1
      refine M_mono (n_row_ok (by omega) (p5.trans eT) (by omega) hT wf.2.2.2.1 p4 ⟨n, ws.1, by rw [p1]; exact ws.2.2.2.1⟩) ?_
      rintro r g ⟨rfl, G, ⟨k1, k2⟩, eW, e10, e6, rfl⟩
      rw [p1] at eW e6
      have cg : ∀ o k, o ≠ 106 → ¬ (o = 104 ∧ (k = 6 ∨ k = 10)) → hI G o k = hI h o k := k2
      refine ⟨by rw [p1], RM_good hc p.2 (fun k hk => cg _ _ (by decide) (by omega)) ?_, keepC_t ⟨k1, fun o k ho => cg o k (by omega) (by omega)⟩ keepC_good⟩
      refine ⟨eW.trans rwA_0.symm, fun k i hk hi => ?_, fun k hk => ?_, fun k hk => ?_, e10.trans rwA_5.1.symm, ?_, e6.trans rwA_5.2.2.1.symm, ?_, fun k hk => ?_, fun k hk => ?_, ?_, fun k hk => ?_⟩
      · rw [rwA_1 hk, cg _ _ (by decide) (fun z => absurd z.1 (by decide))]; exact p2 k i hk hi
      · rw [rwA_o (by decide) (by decide), cg _ _ (by decide) (fun z => absurd z.1 (by decide))]; exact p3 k hk
      · rw [rwA_o (by decide) (by decide), cg _ _ (by decide) (fun z => absurd z.1 (by decide))]; exact p4 k hk
      · rw [rwA_5.2.1, cg _ _ (by decide) (by decide)]; exact p6
      · rw [rwA_5.2.2.2, cg _ _ (by decide) (by decide)]; exact p8
      · rw [rwA_o (by decide) (by decide), cg _ _ (by decide) (fun z => absurd z.1 (by decide))]; exact p9 k hk
      · rw [rwA_o (by decide) (by decide), cg _ _ (by decide) (fun z => absurd z.1 (by decide))]; exact p10 k hk
      · rw [rwA_o (by decide) (by decide), cg _ _ (by decide) (by decide)]; exact p11
      · rw [cg _ _ (by decide) (fun z => absurd z.1 (by decide))]; exact p12 k hk
end T9990
