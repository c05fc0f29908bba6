/-! back on both sides -/
def bkW (w u : Wd) : Wd := fun j => if j < 4968 then u j else w j
section T9994
variable {cx : Cx} {d a c : Nat} {h g f : Hp} {w u : Wd} {A A' : Ab} {n s t k : Nat}
theorem bk_j {j : Nat} (hj : j < 4968) : bkW w u j = u j := if_pos hj
theorem bk_cs {f : Nat} (hf : f < 6) (h4 : nOf u f ≤ 400) : nOf (bkW w u) f = nOf u f ∧ cOf (bkW w u) f = cOf u f ∧ vOf (bkW w u) f = vOf u f ∧ csOf (bkW w u) f = csOf u f := by
  have e1 : nOf (bkW w u) f = nOf u f := by unfold nOf; rw [bk_j (by omega)]
  have e2 : cOf (bkW w u) f = cOf u f := funext fun k => by
    unfold cOf; rw [e1]
    by_cases z : k < nOf u f
    · rw [if_pos z, if_pos z, bk_j (by omega)]
    · rw [if_neg z, if_neg z]
  have e3 : vOf (bkW w u) f = vOf u f := funext fun k => by
    unfold vOf; rw [e1]
    by_cases z : k < nOf u f
    · rw [if_pos z, if_pos z, bk_j (by omega)]
    · rw [if_neg z, if_neg z]
  exact ⟨e1, e2, e3, by unfold csOf; rw [e1, e2, e3]⟩
theorem bk_wf (ws : wfS u n s t) (wt : wfT u) (wi : wfI u) (wl : wfL u t) : wfS (bkW w u) n s t ∧ wfT (bkW w u) ∧ wfI (bkW w u) ∧ wfL (bkW w u) t := by
  refine ⟨wfS_same (fun k h1 h2 => bk_j (by omega)) ws, wfT_same (fun k h1 h2 => bk_j (by omega)) wt, wfI_same (fun i j hi hj => bk_j (by omega)) (bk_j (by decide)) (bk_j (by decide)) wi, fun f hf => ?_⟩
  have ht := ws.2.2.1
  obtain ⟨l1, l2, l3, l4, l5⟩ := wl f hf
  obtain ⟨e1, e2, e3, -⟩ := bk_cs (w := w) (u := u) (f := f) (by omega) l2
  rw [e1, e2, e3]
  exact ⟨(bk_j (by omega)).trans l1, l2, fun k hk => ⟨(bk_j (by omega)).trans (l3 k hk).1, (bk_j (by omega)).trans (l3 k hk).2⟩, l4, l5⟩
theorem RX_back (hk : k < 2) (p : RX A h) (w3 : A 3 k = 1) (wu : wfW (A (1 + k))) (b : becG 65 68 69 70 (66 + k) (71 + 3 * k) (72 + 3 * k) (73 + 3 * k) h g) : RX (goodA (up1 A 0 (bkW (A 0) (A (1 + k))))) (wI (wI g o_x 12 1) o_x 9 0) ∧ keepMd h (wI (wI g o_x 12 1) o_x 9 0) := by
  obtain ⟨⟨⟨p1, p1'⟩, p2, p3, p4, p5, p6, p7, p8, ⟨r1, r2, r3, r4, r5⟩, p14, p15⟩, pc⟩ := id p
  obtain ⟨b1, b2, b3, b4, b5, b6, b7, b8⟩ := b
  obtain ⟨pf, pl⟩ := p2 k hk w3
  have c : ∀ o i, o ≠ 65 → o ≠ 68 → o ≠ 69 → ¬ (o = 64 ∧ (i = 9 ∨ i = 12)) → hI (wI (wI g o_x 12 1) o_x 9 0) o i = hI h o i := fun o i n1 n2 n3 n4 => by rw [rd_any, if_neg (fun z => n4 ⟨z.1, Or.inl z.2⟩), rd_any, if_neg (fun z => n4 ⟨z.1, Or.inr z.2⟩)]; exact b3 o i n1 n2 n3
  have eL : ∀ o, hL (wI (wI g o_x 12 1) o_x 9 0) o = hL h o := fun o => congrArg (fun z => z.1 o) b2
  have eN : hN h ≤ hN (wI (wI g o_x 12 1) o_x 9 0) := Nat.le_of_eq (congrArg (fun z => z.2) b2).symm
  have lw : ∀ w ol, ol ≠ 70 → wL w h ol → wL w (wI (wI g o_x 12 1) o_x 9 0) ol := fun w ol no z => wL_c (fun i => b7 ol i no) (fun q i hq => c q i (by omega) (by omega) (by omega) (by omega)) eL eN z
  have c2 : ∀ o i, 77 ≤ o → hI (wI (wI g o_x 12 1) o_x 9 0) o i = hI h o i := fun o i ho => c o i (by omega) (by omega) (by omega) (by omega)
  have gI : ∀ o i, o ≠ 64 → hI (wI (wI g o_x 12 1) o_x 9 0) o i = hI g o i := fun o i h1 => by rw [rd_o h1, rd_o h1]
  have e12 : hI (wI (wI g o_x 12 1) o_x 9 0) o_x 12 = 1 := by rw [rd_k (by decide), rd_same]
  have g0 : goodA (up1 A 0 (bkW (A 0) (A (1 + k)))) 0 = bkW (A 0) (A (1 + k)) := by unfold goodA; rw [up2_o (by decide)]; exact if_pos rfl
  have go : ∀ i, i ≠ 0 → i ≠ 5 → goodA (up1 A 0 (bkW (A 0) (A (1 + k)))) i = A i := fun i h1 h2 => by unfold goodA; rw [up2_o h2]; exact if_neg h1
  have g5 : ∀ i, i ≠ 3 → goodA (up1 A 0 (bkW (A 0) (A (1 + k)))) 5 i = A 5 i := fun i h1 => by unfold goodA; rw [up2_n h1]; rfl
  refine ⟨⟨⟨⟨?_, ?_⟩, fun j hj z => ?_, fun j hj => ?_, fun i hi => ?_, ?_, ?_, ?_, rd_same, ⟨?_, ?_, ?_, ?_, ?_⟩, fun i hi => ?_, ?_⟩, ⟨Or.inr e12, fun j hj => (b7 77 j (by decide)).trans (pc.1.2.1 j hj), fun i hi j hj o ho => by
      have nn : hN (wI (wI g o_x 12 1) o_x 9 0) = hN h := congrArg (fun z => z.2) b2
      have ho : hR g (73 + 3 * i) j = some o := ho
      have l : lawp h o := pc.1.2.2 i hi j hj o ((b7 _ _ (by omega)).symm.trans ho)
      unfold lawp at *
      rw [nn]; exact l⟩, fun z => absurd (e12.symm.trans z) (by decide)⟩, fun o i h1 h2 => c2 o i (by omega)⟩
  · rw [g0]
    obtain ⟨f1, f2, f3, f4, f5, f6, f7⟩ := pf
    refine ⟨fun i hi => ?_, fun i hi => ?_, ?_, ?_, ?_, ?_, ?_⟩
    · rw [bk_j (by omega), gI _ _ (by decide), b4 i hi]; exact f1 i hi
    · rw [bk_j (by omega), gI _ _ (by decide), b5 i hi]; exact f2 i hi
    · rw [bk_j (by decide), gI _ _ (by decide), b6 3 (by decide) (by decide)]; exact f3
    · rw [bk_j (by decide), gI _ _ (by decide), b6 4 (by decide) (by decide)]; exact f4
    · rw [bk_j (by decide), gI _ _ (by decide), b6 5 (by decide) (by decide)]; exact f5
    · rw [bk_j (by decide), gI _ _ (by decide), b6 6 (by decide) (by decide)]; exact f6
    · rw [bk_j (by decide), gI _ _ (by decide), b6 7 (by decide) (by decide)]; exact f7
  · rw [g0]
    have q := wL_cp (g := wI (wI g o_x 12 1) o_x 9 0) (DL := 70) (fun i hi => b8 i hi) (fun q i hq => c q i (by omega) (by omega) (by omega) (by omega)) eL eN pl
    refine ⟨q.1, fun t et ht f hf => ?_⟩
    rw [bk_j (by decide)] at et
    obtain ⟨n', s', t', ws, wt, wi, wl⟩ := wu
    have tt : t = t' := (nI_eq (by omega) (by have := ws.2.2.1; omega)).mp (et.symm.trans ws.2.2.2.2.2.2.1)
    rw [(bk_cs (by omega) (wl f (by omega)).2.1).2.2.2]
    exact q.2 t et ht f hf
  · rw [go 3 (by decide) (by decide)] at z
    rw [go _ (by omega) (by omega)]
    exact ⟨wF_c (fun o i ho => c o i (by omega) (by omega) (by omega) (by omega)) (p2 j hj z).1, lw _ _ (by omega) (p2 j hj z).2⟩
  · rw [go 3 (by decide) (by decide), c2 _ _ (by decide)]; exact p3 j hj
  · rw [go 4 (by decide) (by decide), c2 _ _ (by decide)]; exact p4 i hi
  · rw [g5 0 (by decide), c2 _ _ (by decide)]; exact p5
  · rw [g5 1 (by decide), c 64 10 (by decide) (by decide) (by decide) (by decide)]; exact p6
  · rw [g5 2 (by decide), c 64 11 (by decide) (by decide) (by decide) (by decide)]; exact p7
  · rw [go 6 (by decide) (by decide), c2 _ _ (by decide)]; exact r1
  · rw [go 6 (by decide) (by decide), c2 _ _ (by decide)]; exact r2
  · rw [go 6 (by decide) (by decide), c2 _ _ (by decide)]; exact r3
  · rw [go 6 (by decide) (by decide), c2 _ _ (by decide)]; exact r4
  · rw [go 6 (by decide) (by decide), c2 _ _ (by decide)]; exact r5
  · rw [go 7 (by decide) (by decide), c2 _ _ (by decide)]; exact p14 i hi
  · rw [go 8 (by decide) (by decide), c2 _ _ (by decide)]; exact p15
theorem s_back (wf : wfA A) {v : Int32} : stp cx jX11_back jX12_back [.int v] A := by
  by_cases y : (0 : Int32) ≤ v ∧ v ≤ 1
  · obtain ⟨k, hk', rfl⟩ := rng (m := 1) (by decide) y
    have hk : k < 2 := by omega
    obtain ⟨ib, wu⟩ := wf.2.1 k hk
    by_cases z : A 3 k = 0
    · refine stp_ref (n := 2) (j := 1) (k := -2) (by decide) (Or.inr (Or.inl ⟨rfl, rfl⟩)) wf (fun d a h hd p => ?_) (fun d c h hd p => n_back_such (by omega) hk ((p.1.2.2.1 k hk).trans z))
      have ek : hI h o_kept (nI k).toNatClampNeg = 0 := by rw [nI_clamp (by omega)]; exact (p.1.2.2.1 k hk).trans z
      exact sX11_back rfl (wcS m_isWithin (And.intro (fun q1 => (eX11_back (And.intro (vp_in_nI (N := 2) hk (by decide)) (And.intro (fun q2 => absurd ek q2) (fun q2 => (wcV (x_refuse2 (by omega)) ⟨rfl, rfl⟩)))))) (fun q1 => absurd y (b2i_0.mp q1))))
    · have z1 : A 3 k = 1 := ib.resolve_left z
      have wu := wu z1
      have ww : wfW (bkW (A 0) (A (1 + k))) := by
        obtain ⟨n, s, t, a1, a2, a3, a4⟩ := wu
        exact ⟨n, s, t, bk_wf a1 a2 a3 a4⟩
      refine ⟨0, goodA (up1 A 0 (bkW (A 0) (A (1 + k)))), wfA_wall wf ww, fun d a h hd _ p => ?_, fun d c h hd hc p => ?_⟩
      · have im := p.2.1.2
        have lw := (p.1.2.1 k hk z1).2.1
        have ek : ¬ hI h o_kept (nI k).toNatClampNeg = 0 := by rw [nI_clamp (by omega)]; exact fun q => z ((p.1.2.2.1 k hk).symm.trans q)
        refine sX11_back rfl (wcS m_isWithin (And.intro (fun q1 => (eX11_back (And.intro (vp_in_nI (N := 2) hk (by decide)) (And.intro (fun q2 => (eX11_back (And.intro (vp_in_nI (N := 2) hk (by decide)) ?_))) (fun q2 => absurd q2 ek))))) (fun q1 => absurd y (b2i_0.mp q1))))
        obtain rfl | rfl : k = 0 ∨ k = 1 := by omega
        · rw [show hR h (ly_rf o_x 1) (nI 0).toNatClampNeg = some 66 from im.1 0 (by decide)]
          refine wcQ (m_become_65_66 lw) (fun u G z => ?_) (fun u G z => congrArg (fun z => z.2) z.2.2.1)
          obtain ⟨rfl, b⟩ := z
          have := RX_back (k := 0) (by decide) p z1 wu b
          exact And.intro (Or.inr rfl) (wcV x_accept ⟨rfl, this⟩)
        · rw [show hR h (ly_rf o_x 1) (nI 1).toNatClampNeg = some 67 from im.1 1 (by decide)]
          refine wcQ (m_become_65_67 lw) (fun u G z => ?_) (fun u G z => congrArg (fun z => z.2) z.2.2.1)
          obtain ⟨rfl, b⟩ := z
          have := RX_back (k := 1) (by decide) p z1 wu b
          exact And.intro (Or.inr rfl) (wcV x_accept ⟨rfl, this⟩)
      · obtain ⟨p1, p2, p3, -⟩ := id p.1
        refine M_mono (n_back_ok (by omega) hk (by rw [p3 k hk]; exact z)) ?_
        rintro r g ⟨rfl, G, ⟨i1, i2, i3⟩, rfl⟩
        have eW : kW G = bkW (A 0) (A (1 + k)) := funext fun j => by
          rw [i3 j]; unfold bkW
          by_cases hj : j < 4968
          · rw [if_pos hj, if_pos hj]; exact p2 k j hk hj
          · rw [if_neg hj, if_neg hj, p1]
        have := RM_wall (c := c) hc p.1 keepM_r p.2 eW i1 i2
        exact ⟨rfl, this⟩
  · refine stp_ref (n := 1) (j := 0) (k := -1) (by decide) (Or.inl ⟨rfl, rfl⟩) wf (fun d a h hd p => ?_) (fun d c h hd p => n_back_no (by omega) y)
    exact sX11_back rfl (wcS m_isWithin (And.intro (fun q1 => absurd (b2i_n q1) y) (fun q1 => wcV (x_refuse1 (by omega)) ⟨rfl, rfl⟩)))
end T9994
