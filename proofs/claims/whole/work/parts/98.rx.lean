/-! the class's cells hold the state -/
def RXd (A : Ab) (h : Hp) : Prop := (wFm (A 0) h ∧ wL (A 0) h o_wall_laws) ∧ (∀ k, k < 2 → A 3 k = 1 → wF (A (1 + k)) h (66 + k) (71 + 3 * k) (72 + 3 * k) ∧ wL (A (1 + k)) h (73 + 3 * k)) ∧ (∀ k, k < 2 → hI h o_kept k = A 3 k) ∧ (∀ k, k < 400 → hI h o_tape_bytes k = A 4 k) ∧ hI h o_tape 1 = A 5 0 ∧ hI h o_x 10 = A 5 1 ∧ hI h o_x 11 = A 5 2 ∧ hI h o_x 9 = A 5 3 ∧ (hI h o_refused 0 = A 6 1 ∧ hI h o_refused 1 = A 6 2 ∧ hI h o_refused 2 = A 6 3 ∧ hI h o_refused 3 = A 6 5 ∧ hI h o_refused 4 = A 6 6) ∧ (∀ k, k < 40 → hI h o_se_left k = A 7 k) ∧ hI h o_seasons 1 = A 8 0
/-- the class's caches are as its flag says -/
def imR (h : Hp) : Prop := (∀ k, k < 2 → hR h o_images k = some (66 + k)) ∧ ∀ k, k < 2 → ∀ j, j < 6 → ∀ o, hR h (73 + 3 * k) j = some o → lawp h o
theorem imR_e {h g : Hp} (e : g.2.2 = h.2.2) (q : imR h) : imR g := by
  have eR : ∀ o k, hR g o k = hR h o k := fun o k => congrArg (fun z => z.1 o k) e
  have eN : hN g = hN h := congrArg (fun z => z.2.2) e
  refine ⟨fun k hk => (eR _ _).trans (q.1 k hk), fun k hk j hj o ho => ?_⟩
  have := q.2 k hk j hj o ((eR _ _).symm.trans ho)
  unfold lawp at *
  rw [eN]; exact this
def cX (w : Wd) (h : Hp) : Prop := (isB (hI h o_x 12) ∧ imR h) ∧ (hI h o_x 12 = 0 → fOk w (lawOf w) h ∧ ∀ n s t, wfS w n s t → thOk w (aU w (lawOf w)) n s h)
def RX (A : Ab) (h : Hp) : Prop := RXd A h ∧ cX (A 0) h
def keepMd (h g : Hp) : Prop := ∀ o k, 104 ≤ o → o ≤ 125 → hI g o k = hI h o k
def xQ (A : Ab) (r : Int32) (h : Hp) : Option Value → Hp → Prop := fun q g => q = some (.int r) ∧ RX A g ∧ keepMd h g
/-- a question changes no more than this -/
def keepQ (h g : Hp) : Prop := (∀ o k, ¬ (84 ≤ o ∧ o ≤ 100) → ¬ (o = 64 ∧ k = 12) → hI g o k = hI h o k) ∧ g.2.2 = h.2.2
/-- one call on both sides -/
def stp (cx : Cx) (jx jm : Nat) (vs : List Value) (A : Ab) : Prop := ∃ r A', wfA A' ∧ (∀ d a h, 200 ≤ d → 1 ≤ a → RX A h → M cx jx d a (.ref o_x :: vs) h (xQ A' r h)) ∧ (∀ d c h, 200 ≤ d → c < 1000 → RM c A h → M cx jm d 0 (.ref o_m :: vs) h (mQ (c + 1) A' r h))
section T98
variable {cx : Cx} {d a c : Nat} {h g f : Hp} {w : Wd} {A : Ab} {n s t : Nat}
theorem keepQ_r : keepQ h h := ⟨fun _ _ _ _ => rfl, rfl⟩
theorem keepQ_t (p : keepQ h g) (q : keepQ g f) : keepQ h f := ⟨fun o k n1 n2 => (q.1 o k n1 n2).trans (p.1 o k n1 n2), q.2.trans p.2⟩
theorem keepQ_N (p : keepQ h g) : hN g = hN h := congrArg (fun z => z.2.2) p.2
theorem keepQ_L (p : keepQ h g) (o : Nat) : hL g o = hL h o := congrArg (fun z => z.2.1 o) p.2
theorem keepQ_R (p : keepQ h g) (o k : Nat) : hR g o k = hR h o k := congrArg (fun z => z.1 o k) p.2
theorem keepTh_Q (p : keepTh h g) : keepQ h g := ⟨fun o k n1 _ => p.1 o k (by omega), p.2.1⟩
theorem keepQ_Md (p : keepQ h g) : keepMd h g := fun o k h1 h2 => p.1 o k (by omega) (by omega)
/-- laws stay as they were made -/
theorem mean_c {o : Nat} {cs : List CS} (e1 : ∀ p k, 126 ≤ p → hI g p k = hI h p k) (e2 : ∀ p, hL g p = hL h p) (e3 : hN h ≤ hN g) (q : lawMean h o cs) : lawMean g o cs := by
  obtain ⟨⟨⟨⟨l1, l2, l3⟩, l4, l5⟩, l6, l7, l8⟩, m⟩ := q
  have fS : ∀ i, fStep g o i = fStep h o i := fun i => by unfold fStep; rw [e2, e1 _ _ (by omega)]
  have fT : ∀ i, fStart g o i = fStart h o i := fun i => by unfold fStart; rw [e2, e2, e1 _ _ (by omega)]
  refine ⟨⟨⟨⟨l1, by omega, l3⟩, by rw [e2]; exact l4, by rw [e2]; exact l5⟩, l6, by rw [e1 _ _ l1]; exact l7, fun k hk => by rw [fT]; exact l8 k hk⟩, fun c hc => ?_⟩
  have := m c hc
  unfold clM sEmp avP at *
  simp only [fT]
  rw [show fStep g o = fStep h o from funext fS]
  exact this
theorem wL_c {ol : Nat} (e0 : ∀ k, hR g ol k = hR h ol k) (e1 : ∀ p k, 126 ≤ p → hI g p k = hI h p k) (e2 : ∀ p, hL g p = hL h p) (e3 : hN h ≤ hN g) (q : wL w h ol) : wL w g ol := by
  refine ⟨fun k hk o ho => ?_, fun t et ht f hf => ?_⟩
  · rw [e0] at ho
    obtain ⟨l1, l2, l3⟩ := q.1 k hk o ho
    exact ⟨l1, by omega, l3⟩
  · obtain ⟨o, ho, lm⟩ := q.2 t et ht f hf
    exact ⟨o, by rw [e0]; exact ho, mean_c e1 e2 e3 lm⟩
theorem wF_c {ow of ot : Nat} (e : ∀ o k, (o = ow ∨ o = of ∨ o = ot) → hI g o k = hI h o k) (q : wF w h ow of ot) : wF w g ow of ot := by
  obtain ⟨q1, q2, q3, q4, q5, q6, q7⟩ := q
  exact ⟨fun k hk => (e _ _ (by simp)).trans (q1 k hk), fun k hk => (e _ _ (by simp)).trans (q2 k hk), (e _ _ (by simp)).trans q3, (e _ _ (by simp)).trans q4, (e _ _ (by simp)).trans q5, (e _ _ (by simp)).trans q6, (e _ _ (by simp)).trans q7⟩
theorem RXd_Q (p : RXd A h) (q : keepQ h g) : RXd A g := by
  obtain ⟨⟨p1, p1'⟩, p2, p3, p4, p5, p6, p7, p8, ⟨p9, p10, p11, p12, p13⟩, p14, p15⟩ := p
  have e : ∀ o k, ¬ (84 ≤ o ∧ o ≤ 100) → ¬ (o = 64 ∧ k = 12) → hI g o k = hI h o k := q.1
  have lw : ∀ w ol, wL w h ol → wL w g ol := fun w ol z => wL_c (fun k => keepQ_R q _ k) (fun p k hp => e p k (by omega) (by omega)) (keepQ_L q) (by rw [keepQ_N q]; exact Nat.le_refl _) z
  refine ⟨⟨wF_c (fun o k ho => e o k (by rcases ho with z | z | z <;> subst z <;> decide) (by rcases ho with z | z | z <;> subst z <;> exact fun y => absurd y.1 (by decide))) p1, lw _ _ p1'⟩, fun k hk z => ⟨wF_c (fun o j ho => e o j (by omega) (by omega)) (p2 k hk z).1, lw _ _ (p2 k hk z).2⟩, fun k hk => (e _ _ (by decide) (fun y => absurd y.1 (by decide))).trans (p3 k hk), fun k hk => (e _ _ (by decide) (fun y => absurd y.1 (by decide))).trans (p4 k hk), (e _ _ (by decide) (by decide)).trans p5, (e _ _ (by decide) (by decide)).trans p6, (e _ _ (by decide) (by decide)).trans p7, (e _ _ (by decide) (by decide)).trans p8, ⟨(e _ _ (by decide) (by decide)).trans p9, (e _ _ (by decide) (by decide)).trans p10, (e _ _ (by decide) (by decide)).trans p11, (e _ _ (by decide) (by decide)).trans p12, (e _ _ (by decide) (by decide)).trans p13⟩, fun k hk => (e _ _ (by decide) (fun y => absurd y.1 (by decide))).trans (p14 k hk), (e _ _ (by decide) (by decide)).trans p15⟩
/-- the cache is right, and the flag says so -/
def frs (w : Wd) (n s t : Nat) (g : Hp) : Prop := hI g o_x 12 = 0 ∧ wX w n s t g ∧ thOk w (aU w (lawOf w)) n s g
theorem wfS_one {n' s' t' : Nat} (p : wfS w n s t) (q : wfS w n' s' t') : n' = n ∧ s' = s ∧ t' = t := by
  obtain ⟨a1, a2, a3, a4, a5, -, a7, -⟩ := p
  obtain ⟨b1, b2, b3, b4, b5, -, b7, -⟩ := q
  exact ⟨(nI_eq (by omega) (by omega)).mp (b4.symm.trans a4), (nI_eq (by omega) (by omega)).mp (b5.symm.trans a5), (nI_eq (by omega) (by omega)).mp (b7.symm.trans a7)⟩
theorem frs_RX (p : RX A h) (q : keepQ h g) (wf : wfS (A 0) n s t) (fr : frs (A 0) n s t g) : RX A g := ⟨RXd_Q p.1 q, ⟨by rw [fr.1]; exact Or.inl rfl, imR_e q.2 p.2.1.2⟩, fun _ => ⟨fr.2.1.2.2.2, fun n' s' t' wf' => by obtain ⟨rfl, rfl, rfl⟩ := wfS_one wf wf'; exact fr.2.2⟩⟩
theorem x_refresh (hd : 7 ≤ d) (p : RX A h) (wf : wfS (A 0) n s t) (wt : wfT (A 0)) (wi : wfI (A 0)) : M cx jX11_refresh d a [.ref o_x] h (fun r g => r = none ∧ keepQ h g ∧ frs (A 0) n s t g) := by
  obtain ⟨p1, p2, p3⟩ := p
  refine sX11_refresh rfl (And.intro (fun q1 => (eX11_refresh ⟨rfl, keepQ_r, q1, ⟨p1.1.1, wf, wt, (p3 q1).1⟩, (p3 q1).2 n s t wf⟩)) (fun q1 => ?_))
  refine wcQ (m_renew (by omega) p1.1.1 p1.1.2 wf wi) (fun v G z => ?_) (fun v G z => W_N (sameF_W z.2.1))
  obtain ⟨rfl, sf, fo⟩ := z
  refine wcV0 m_forget (And.intro (Or.inl rfl) (eX11_refresh ⟨rfl, ?_, rd_same, ⟨?_, wf, wt, ?_⟩, ?_⟩))
  · refine ⟨fun o k n1 n2 => ?_, sf.2.2⟩
    rw [rd_any, if_neg n2, rd_o (by show o ≠ 91; omega)]
    exact sf.1 o k (by omega)
  · refine wF_c (fun o k ho => ?_) p1.1.1
    rw [rd_any, if_neg (fun y => by rcases ho with z | z | z <;> subst z <;> exact absurd y.1 (by decide)), rd_o (by rcases ho with z | z | z <;> subst z <;> decide)]
    exact sf.1 o k (by rcases ho with z | z | z <;> subst z <;> decide)
  · intro i hi ci
    have := fo i hi ci
    rw [rd_o (by decide), rd_o (by decide), rd_o (by decide), rd_o (by decide), rd_o (by decide), rd_o (by decide), rd_o (by decide), rd_o (by decide), rd_o (by decide), rd_o (by decide)]
    exact this
  · have z : ∀ K, ¬ kb (wI (wI G o_thieves 13 0) o_x 12 0) K := fun K y => y (by
      rw [rd_o (by decide), rd_same]
      apply b_ext; intro i hi; rw [b_and, b_0]; rfl)
    exact ⟨fun y => absurd y (z 1), fun y => absurd y (z 2), fun y => absurd y (z 4), fun y => absurd y (z 8), fun y => absurd y (z 16), fun y => absurd y (z 32)⟩
/-! refusing and accepting -/
def xrefH (h : Hp) (k : Int32) (j : Nat) : Hp := wI (wI h o_x 9 k) o_refused j (hI h o_refused j + 1)
theorem x_refuse (hd : 1 ≤ d) {k : Int32} {j : Nat} (hj : j < 5) (e1 : -3 ≤ k → -1 - k = nI j) (e2 : ¬ -3 ≤ k → -2 - k = nI j) : M cx jX11_refuse d a [.ref o_x, .int k] h (RQ (.int k) (xrefH h k j)) := by
  have vj : vp_in (nI j) 5 := vp_in_nI hj (by decide)
  have cj : (nI j).toNatClampNeg = j := nI_clamp (by omega)
  have wi : (0 : Int32) ≤ nI j ∧ nI j ≤ 4 := ⟨nI_pos' (by omega), nI_le (b := 4) (by omega) (by decide)⟩
  have e21 : ∀ v, v = nI j → E cx jX11_refuse d a 21 [some (.ref o_x), some (.int k), none] [.int v] (wI h o_x 9 k) (RQ (.int k) (xrefH h k j)) := fun v ev => by
    subst ev
    refine eX11_refuse (wcS m_isWithin (And.intro (fun q => absurd wi (b2i_0.mp q)) (fun q => (And.intro vj (And.intro vj (eX11_refuse ⟨rfl, ?_⟩))))))
    rw [cj]; unfold xrefH
    show wI (wI h o_x 9 k) o_refused j (hI (wI h o_x 9 k) o_refused j + 1) = _
    rw [rd_o (by decide)]
  refine sX11_refuse rfl (And.intro (fun q1 => (eX11_refuse (e21 _ (e2 (fun z => absurd q1 (Int32.not_lt.mpr z)))))) (fun q1 => (e21 _ (e1 (Int32.not_lt.mp q1)))))
theorem x_refuse1 (hd : 1 ≤ d) : M cx jX11_refuse d a [.ref o_x, .int (-1)] h (RQ (.int (-1)) (xrefH h (-1) 0)) := x_refuse hd (by decide) (fun _ => by decide) (fun z => absurd (by decide) z)
theorem x_refuse2 (hd : 1 ≤ d) : M cx jX11_refuse d a [.ref o_x, .int (-2)] h (RQ (.int (-2)) (xrefH h (-2) 1)) := x_refuse hd (by decide) (fun _ => by decide) (fun z => absurd (by decide) z)
theorem x_refuse3 (hd : 1 ≤ d) : M cx jX11_refuse d a [.ref o_x, .int (-3)] h (RQ (.int (-3)) (xrefH h (-3) 2)) := x_refuse hd (by decide) (fun _ => by decide) (fun z => absurd (by decide) z)
theorem x_refuse5 (hd : 1 ≤ d) : M cx jX11_refuse d a [.ref o_x, .int (-5)] h (RQ (.int (-5)) (xrefH h (-5) 3)) := x_refuse hd (by decide) (fun z => absurd z (by decide)) (fun _ => by decide)
theorem x_refuse6 (hd : 1 ≤ d) : M cx jX11_refuse d a [.ref o_x, .int (-6)] h (RQ (.int (-6)) (xrefH h (-6) 4)) := x_refuse hd (by decide) (fun z => absurd z (by decide)) (fun _ => by decide)
theorem x_accept {v : Int32} : M cx jX11_accept d a [.ref o_x, .int v] h (RQ (.int v) (wI h o_x 9 0)) := sX11_accept rfl ⟨rfl, rfl⟩
end T98
