/-! one call on both sides: refusals, questions that only read -/
section T99
variable {cx : Cx} {d a c : Nat} {h g f : Hp} {w : Wd} {A : Ab} {n s t : Nat}
theorem cX_c (q : cX w h) (e : ∀ o k, ((84 ≤ o ∧ o ≤ 100) ∨ (o = 64 ∧ k = 12)) → hI g o k = hI h o k) (eJ : ∀ o k, hJ g o k = hJ h o k) (eR : imR h → imR g) : cX w g := by
  have e12 : hI g o_x 12 = hI h o_x 12 := e _ _ (Or.inr ⟨rfl, rfl⟩)
  refine ⟨⟨by rw [e12]; exact q.1.1, eR q.1.2⟩, fun z => ?_⟩
  rw [e12] at z
  obtain ⟨q1, q2⟩ := q.2 z
  have c : ∀ o k, 84 ≤ o → o ≤ 100 → hI g o k = hI h o k := fun o k h1 h2 => e o k (Or.inl ⟨h1, h2⟩)
  refine ⟨fun i hi ci => ?_, fun n s t wf => ?_⟩
  · rw [c _ _ (by decide) (by decide), c _ _ (by decide) (by decide), c _ _ (by decide) (by decide), c _ _ (by decide) (by decide), c _ _ (by decide) (by decide)]; exact q1 i hi ci
  · have fl : hI g o_thieves 13 = hI h o_thieves 13 ||| 0 := by rw [c _ _ (by decide) (by decide), or_0]
    exact th_of (K := 0) (q2 n s t wf) fl (fun y => lwX_c ((q2 n s t wf).1 (((kb_or fl).mp y).resolve_right fun x => x (by decide))) (c _ _ (by decide) (by decide)) (fun k => eJ _ k)) (Or.inl ⟨by decide, fun k => c _ _ (by decide) (by decide)⟩) (Or.inl ⟨by decide, fun k => c _ _ (by decide) (by decide), c _ _ (by decide) (by decide), fun k => c _ _ (by decide) (by decide)⟩) (Or.inl ⟨by decide, fun k => c _ _ (by decide) (by decide)⟩) (Or.inl ⟨by decide, fun k => c _ _ (by decide) (by decide)⟩) (Or.inl ⟨by decide, c _ _ (by decide) (by decide), c _ _ (by decide) (by decide)⟩)
/-- the state but for status and refusals -/
theorem wfA_c {A' : Ab} (q : wfA A) (e0 : A' 0 = A 0) (e1 : ∀ k, k < 2 → A' (1 + k) = A (1 + k)) (e3 : A' 3 = A 3) (e4 : A' 4 = A 4) (e5 : A' 5 0 = A 5 0) (e8 : A' 8 0 = A 8 0) : wfA A' := by
  obtain ⟨q1, q2, q3, q4, q5⟩ := q
  refine ⟨by rw [e0]; exact q1, fun k hk => ?_, by rw [e5]; exact q3, by rw [e4]; exact q4, by rw [e8]; exact q5⟩
  rw [e3, e1 k hk]; exact q2 k hk
theorem wfA_ref {k : Int32} {n : Nat} (q : wfA A) : wfA (refA A k n) := by
  unfold refA
  refine wfA_c q rfl (fun k hk => ?_) rfl rfl rfl rfl
  rw [up2_o (by omega), up2_o (by omega)]
theorem wfA_good (q : wfA A) : wfA (goodA A) := by
  unfold goodA
  refine wfA_c q rfl (fun k hk => ?_) rfl rfl rfl rfl
  rw [up2_o (by omega)]
/-- other data, the walls as they were -/
theorem RXd_c {A' : Ab} (p : RXd A h) (e0 : A' 0 = A 0) (e1 : ∀ k, k < 2 → A' (1 + k) = A (1 + k)) (e3 : A' 3 = A 3) (eR : g.2.2 = h.2.2) (eI : ∀ o k, (65 ≤ o ∧ o ≤ 78) ∨ 126 ≤ o → hI g o k = hI h o k)
    (e4 : ∀ k, k < 400 → hI g o_tape_bytes k = A' 4 k) (e5 : hI g o_tape 1 = A' 5 0) (e6 : hI g o_x 10 = A' 5 1) (e7 : hI g o_x 11 = A' 5 2) (e8 : hI g o_x 9 = A' 5 3) (e9 : hI g o_refused 0 = A' 6 1 ∧ hI g o_refused 1 = A' 6 2 ∧ hI g o_refused 2 = A' 6 3 ∧ hI g o_refused 3 = A' 6 5 ∧ hI g o_refused 4 = A' 6 6) (e10 : ∀ k, k < 40 → hI g o_se_left k = A' 7 k) (e11 : hI g o_seasons 1 = A' 8 0) : RXd A' g := by
  obtain ⟨⟨p1, p1'⟩, p2, p3, -, -, -, -, -, -, -, -⟩ := p
  have lw : ∀ w ol, wL w h ol → wL w g ol := fun w ol z => wL_c (fun k => congrArg (fun z => z.1 ol k) eR) (fun p k hp => eI p k (Or.inr hp)) (fun p => congrArg (fun z => z.2.1 p) eR) (Nat.le_of_eq (congrArg (fun z => z.2.2) eR).symm) z
  refine ⟨⟨?_, ?_⟩, fun k hk z => ?_, fun k hk => ?_, e4, e5, e6, e7, e8, e9, e10, e11⟩
  · rw [e0]; exact wF_c (fun o k ho => eI o k (Or.inl (by rcases ho with z | z | z <;> subst z <;> decide))) p1
  · rw [e0]; exact lw _ _ p1'
  · rw [e3] at z; rw [e1 k hk]
    exact ⟨wF_c (fun o j ho => eI o j (Or.inl (by omega))) (p2 k hk z).1, lw _ _ (p2 k hk z).2⟩
  · rw [e3, eI _ _ (Or.inl (by decide))]; exact p3 k hk
theorem RXd_9 {v : Int32} (p : RXd A h) : RXd (up2 A 5 3 v) (wI h o_x 9 v) := by
  obtain ⟨-, -, -, p4, p5, p6, p7, p8, p9, p14, p15⟩ := id p
  refine RXd_c p rfl (fun k hk => by rw [up2_o (by omega)]) rfl rfl (fun o k ho => rd_o (by show o ≠ 64; omega)) (fun k hk => (rd_o (by decide)).trans (p4 k hk)) ((rd_o (by decide)).trans p5) ((rd_k (by decide)).trans p6) ((rd_k (by decide)).trans p7) rd_same ?_ (fun k hk => (rd_o (by decide)).trans (p14 k hk)) ((rd_o (by decide)).trans p15)
  rw [rd_o (by decide), rd_o (by decide), rd_o (by decide), rd_o (by decide), rd_o (by decide)]; exact p9
/-- the refusals' numbers on both sides -/
def rfs (n j : Nat) : Prop := (n = 1 ∧ j = 0) ∨ (n = 2 ∧ j = 1) ∨ (n = 3 ∧ j = 2) ∨ (n = 5 ∧ j = 3) ∨ (n = 6 ∧ j = 4)
theorem RXd_ref {k : Int32} {n j : Nat} (hr : rfs n j) (p : RXd A h) : RXd (refA A k n) (xrefH h k j) := by
  have p' := RXd_9 (v := k) p
  obtain ⟨-, -, -, p4, p5, p6, p7, p8, p9, p14, p15⟩ := id p'
  have ev : hI h o_refused j + 1 = A 6 n + 1 := by
    obtain ⟨-, -, -, -, -, -, -, -, ⟨r1, r2, r3, r4, r5⟩, -, -⟩ := p
    rcases hr with ⟨rfl, rfl⟩ | ⟨rfl, rfl⟩ | ⟨rfl, rfl⟩ | ⟨rfl, rfl⟩ | ⟨rfl, rfl⟩
    · rw [r1]
    · rw [r2]
    · rw [r3]
    · rw [r4]
    · rw [r5]
  unfold refA xrefH
  rw [ev]
  refine RXd_c p' rfl (fun k hk => by rw [up2_o (by omega)]) rfl rfl (fun o k ho => rd_o (by show o ≠ 103; omega)) (fun k hk => (rd_o (by decide)).trans (p4 k hk)) ((rd_o (by decide)).trans p5) ((rd_o (by decide)).trans p6) ((rd_o (by decide)).trans p7) ((rd_o (by decide)).trans p8) ?_ (fun k hk => (rd_o (by decide)).trans (p14 k hk)) ((rd_o (by decide)).trans p15)
  obtain ⟨r1, r2, r3, r4, r5⟩ := p9
  rcases hr with ⟨rfl, rfl⟩ | ⟨rfl, rfl⟩ | ⟨rfl, rfl⟩ | ⟨rfl, rfl⟩ | ⟨rfl, rfl⟩
  · rw [rd_same, rd_k (by decide), rd_k (by decide), rd_k (by decide), rd_k (by decide), up2_s, up2_n (by decide), up2_n (by decide), up2_n (by decide), up2_n (by decide)]; exact ⟨rfl, r2, r3, r4, r5⟩
  · rw [rd_same, rd_k (by decide), rd_k (by decide), rd_k (by decide), rd_k (by decide), up2_s, up2_n (by decide), up2_n (by decide), up2_n (by decide), up2_n (by decide)]; exact ⟨r1, rfl, r3, r4, r5⟩
  · rw [rd_same, rd_k (by decide), rd_k (by decide), rd_k (by decide), rd_k (by decide), up2_s, up2_n (by decide), up2_n (by decide), up2_n (by decide), up2_n (by decide)]; exact ⟨r1, r2, rfl, r4, r5⟩
  · rw [rd_same, rd_k (by decide), rd_k (by decide), rd_k (by decide), rd_k (by decide), up2_s, up2_n (by decide), up2_n (by decide), up2_n (by decide), up2_n (by decide)]; exact ⟨r1, r2, r3, rfl, r5⟩
  · rw [rd_same, rd_k (by decide), rd_k (by decide), rd_k (by decide), rd_k (by decide), up2_s, up2_n (by decide), up2_n (by decide), up2_n (by decide), up2_n (by decide)]; exact ⟨r1, r2, r3, r4, rfl⟩
theorem xref_o {k : Int32} {j o i : Nat} (n1 : ¬ (o = 64 ∧ i = 9)) (n2 : o ≠ 103) : hI (xrefH h k j) o i = hI h o i := by unfold xrefH; rw [rd_o n2, rd_any, if_neg n1]
theorem RX_ref {k : Int32} {n j : Nat} (hr : rfs n j) (p : RX A h) : RX (refA A k n) (xrefH h k j) := ⟨RXd_ref hr p.1, cX_c p.2 (fun o i ho => xref_o (by omega) (by omega)) (fun _ _ => rfl) (imR_e rfl)⟩
theorem xref_md {k : Int32} {j : Nat} : keepMd h (xrefH h k j) := fun o i h1 h2 => xref_o (by omega) (by omega)
/-! how a call's two sides are put together -/
theorem stp_ref {jx jm : Nat} {vs : List Value} {k : Int32} {n j : Nat} (hn : n < 7) (hr : rfs n j) (wf : wfA A) (X : ∀ d a h, 200 ≤ d → RX A h → M cx jx d a (.ref o_x :: vs) h (RQ (.int k) (xrefH h k j))) (Y : ∀ d c h, 200 ≤ d → RM c A h → M cx jm d 0 (.ref o_m :: vs) h (RQ (.int k) (nrefH h k n))) : stp cx jx jm vs A := by
  refine ⟨k, refA A k n, wfA_ref wf, fun d a h hd _ p => M_mono (X d a h hd p) ?_, fun d c h hd hc p => M_mono (Y d c h hd p) ?_⟩
  · rintro r g ⟨rfl, rfl⟩; exact ⟨rfl, RX_ref hr p, xref_md⟩
  · rintro r g ⟨rfl, rfl⟩; exact ⟨rfl, RM_ref hn p, keepC_ref⟩
theorem stp_same {jx jm : Nat} {vs : List Value} {k : Int32} (wf : wfA A) (X : ∀ d a h, 200 ≤ d → RX A h → M cx jx d a (.ref o_x :: vs) h (RQ (.int k) h)) (Y : ∀ d c h, 200 ≤ d → RM c A h → M cx jm d 0 (.ref o_m :: vs) h (RQ (.int k) h)) : stp cx jx jm vs A := by
  refine ⟨k, A, wf, fun d a h hd _ p => M_mono (X d a h hd p) ?_, fun d c h hd hc p => M_mono (Y d c h hd p) ?_⟩
  · rintro r g ⟨rfl, rfl⟩; exact ⟨rfl, p, fun _ _ _ _ => rfl⟩
  · rintro r g ⟨rfl, rfl⟩; exact ⟨rfl, RM_le p (by omega), keepC_r⟩
theorem stp_q {jx jm : Nat} {vs : List Value} {k : Int32} (wf : wfA A) (X : ∀ d a h, 200 ≤ d → RX A h → M cx jx d a (.ref o_x :: vs) h (xQ A k h)) (Y : ∀ d c h, 200 ≤ d → RM c A h → M cx jm d 0 (.ref o_m :: vs) h (qM c (A 0) h k)) : stp cx jx jm vs A := by
  refine ⟨k, A, wf, fun d a h hd _ p => X d a h hd p, fun d c h hd hc p => M_mono (Y d c h hd p) ?_⟩
  intro r g q
  have := qM_RM p q
  exact ⟨this.1, RM_le this.2.1 (by omega), this.2.2⟩
/-- a question of the model that changes nothing -/
theorem qM_same {r : Int32} (q : mC c w h) : ∀ v g, RQ (.int r) h v g → qM c w h r v g := fun v g ⟨e1, e2⟩ => by subst e2; exact ⟨e1, keepM_r, q⟩
theorem xQ_same {r : Int32} (p : RX A h) : ∀ v g, RQ (.int r) h v g → xQ A r h v g := fun v g ⟨e1, e2⟩ => by subst e2; exact ⟨e1, p, fun _ _ _ _ => rfl⟩
/-! calls that only read -/
theorem s_there (wf : wfA A) : stp cx jX11_there jX12_there [] A := stp_same (k := A 0 159) wf (fun d a h _ p => sX11_there rfl (RQ_eq p.1.1.1.2.2.2.2.1)) (fun d c h _ p => by rw [← p.1.1]; exact n_there)
theorem s_rubble (wf : wfA A) : stp cx jX11_rubble jX12_rubble [] A := stp_same (k := A 5 2) wf (fun d a h _ p => sX11_rubble rfl (RQ_eq p.1.2.2.2.2.2.2.1)) (fun d c h _ p => by rw [← p.1.2.2.2.2.2.2.1]; exact n_rubble)
theorem s_fault (wf : wfA A) : stp cx jX11_fault jX12_fault [] A := stp_same (k := A 5 1) wf (fun d a h _ p => sX11_fault rfl (RQ_eq p.1.2.2.2.2.2.1)) (fun d c h _ p => by rw [← p.1.2.2.2.2.2.1]; exact n_fault)
theorem s_status (wf : wfA A) : stp cx jX11_status jX12_status [] A := stp_same (k := A 5 3) wf (fun d a h _ p => sX11_status rfl (RQ_eq p.1.2.2.2.2.2.2.2.1)) (fun d c h _ p => by rw [← p.1.2.2.2.2.2.2.2.1]; exact n_status)
theorem s_winter (wf : wfA A) {i : Int32} : stp cx jX11_winter jX12_winter [.int i] A := by
  obtain ⟨m, hm, em⟩ := wf.2.2.2.2
  have ec : ((0 : Int32) ≤ i ∧ i < nI m) ↔ (0 ≤ i ∧ i ≤ nI m - 1) := by
    simp only [Int32.le_iff_toInt_le, Int32.lt_iff_toInt_lt]
    rw [show (1 : Int32) = nI 1 from rfl, pk_sub_toInt (by omega) (by decide), nI_toInt (by omega)]
    omega
  refine stp_same (k := if 0 ≤ i ∧ i < nI m then A 7 i.toNatClampNeg else -1) wf (fun d a h hd p => ?_) (fun d c h hd p => ?_)
  · have := m_leftBehind (cx := cx) (d := d - 1) (a := 0) (h := h) (i := i) (by omega) (p.1.2.2.2.2.2.2.2.2.2.2.trans em) hm
    refine sX11_winter rfl (wcV this (RQ_eq ?_))
    by_cases z : 0 ≤ i ∧ i < nI m
    · rw [if_pos z, if_pos z]
      obtain ⟨k, hk, rfl⟩ := nI_of (x := i) (Int32.not_lt.mpr z.1)
      have : k < m := (nI_ltI hk (by omega)).mp z.2
      rw [nI_clamp hk]; exact p.1.2.2.2.2.2.2.2.2.2.1 k (by omega)
    · rw [if_neg z, if_neg z]
  · have := n_winter (cx := cx) (d := d) (a := 0) (h := h) (i := i) (by omega) (p.1.2.2.2.2.2.2.2.2.2.2.1.trans em) hm
    refine M_mono this ?_
    rintro r g ⟨rfl, rfl⟩
    refine ⟨?_, rfl⟩
    by_cases z : 0 ≤ i ∧ i < nI m
    · rw [if_pos z, if_pos (ec.mp z)]
      obtain ⟨k, hk, rfl⟩ := nI_of (x := i) (Int32.not_lt.mpr z.1)
      have : k < m := (nI_ltI hk (by omega)).mp z.2
      rw [nI_clamp hk, p.1.2.2.2.2.2.2.2.2.2.1 k (by omega)]
    · rw [if_neg z, if_neg (fun y => z (ec.mpr y))]
end T99
