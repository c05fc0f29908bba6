/-! image on both sides -/
def imA (A : Ab) (k : Nat) : Ab := up2 (up1 A (1 + k) (A 0)) 3 k 1
section T9993
variable {cx : Cx} {d a c : Nat} {h g f : Hp} {w w' : Wd} {A A' : Ab} {n s t k : Nat}
theorem imA_w (hk : k < 2) : imA A k (1 + k) = A 0 := by unfold imA; rw [up2_o (by omega)]; exact if_pos rfl
theorem imA_o {o : Nat} (h1 : o ≠ 1 + k) (h3 : o ≠ 3) : imA A k o = A o := by unfold imA; rw [up2_o h3]; exact if_neg h1
theorem imA_3 (hk : k < 2) {j : Nat} : imA A k 3 j = if j = k then 1 else A 3 j := by
  unfold imA
  by_cases e : j = k
  · rw [if_pos e, e, up2_s]
  · rw [if_neg e, up2_n e]; exact congrFun (if_neg (by omega)) j
theorem wL_cp {SL DL : Nat} (e0 : ∀ k, k < 6 → hR g DL k = hR h SL k) (e1 : ∀ p k, 126 ≤ p → hI g p k = hI h p k) (e2 : ∀ p, hL g p = hL h p) (e3 : hN h ≤ hN g) (q : wL w h SL) : wL w g DL := by
  refine ⟨fun k hk o ho => ?_, fun t et ht f hf => ?_⟩
  · rw [e0 k hk] at ho
    obtain ⟨l1, l2, l3⟩ := q.1 k hk o ho
    exact ⟨l1, by omega, l3⟩
  · obtain ⟨o, ho, lm⟩ := q.2 t et ht f hf
    exact ⟨o, by rw [e0 f (by omega)]; exact ho, mean_c e1 e2 e3 lm⟩
theorem wfA_image (hk : k < 2) (wf : wfA A) : wfA (goodA (imA A k)) := by
  refine wfA_good ?_
  obtain ⟨q1, q2, q3, q4, q5⟩ := wf
  refine ⟨by rw [imA_o (by omega) (by decide)]; exact q1, fun j hj => ?_, by rw [imA_o (by omega) (by decide)]; exact q3, by rw [imA_o (by omega) (by decide)]; exact q4, by rw [imA_o (by omega) (by decide)]; exact q5⟩
  rw [imA_3 hk]
  by_cases e : j = k
  · rw [if_pos e, e, imA_w hk]; exact ⟨Or.inr rfl, fun _ => q1⟩
  · rw [if_neg e, imA_o (by omega) (by omega)]; exact q2 j hj
theorem RX_image (hk : k < 2) (p : RX A h) (b : becG (66 + k) (71 + 3 * k) (72 + 3 * k) (73 + 3 * k) 65 68 69 70 h g) : RX (goodA (imA A k)) (wI (wI g o_kept k 1) o_x 9 0) ∧ keepMd h (wI (wI g o_kept k 1) o_x 9 0) := by
  obtain ⟨⟨⟨p1, p1'⟩, p2, p3, p4, p5, p6, p7, p8, ⟨r1, r2, r3, r4, r5⟩, p14, p15⟩, pc⟩ := id p
  obtain ⟨b1, b2, b3, b4, b5, b6, b7, b8⟩ := b
  have c : ∀ o i, o ≠ 66 + k → o ≠ 71 + 3 * k → o ≠ 72 + 3 * k → ¬ (o = 78 ∧ i = k) → ¬ (o = 64 ∧ i = 9) → hI (wI (wI g o_kept k 1) o_x 9 0) o i = hI h o i := fun o i n1 n2 n3 n4 n5 => by rw [rd_any, if_neg n5, rd_any, if_neg n4]; exact b3 o i n1 n2 n3
  have eL : ∀ o, hL (wI (wI g o_kept k 1) o_x 9 0) o = hL h o := fun o => congrArg (fun z => z.1 o) b2
  have eN : hN h ≤ hN (wI (wI g o_kept k 1) o_x 9 0) := Nat.le_of_eq (congrArg (fun z => z.2) b2).symm
  have lw : ∀ w ol, ol ≠ 73 + 3 * k → wL w h ol → wL w (wI (wI g o_kept k 1) o_x 9 0) ol := fun w ol no z => wL_c (fun i => b7 ol i no) (fun q i hq => c q i (by omega) (by omega) (by omega) (by omega) (by omega)) eL eN z
  have c2 : ∀ o i, 79 ≤ o → hI (wI (wI g o_kept k 1) o_x 9 0) o i = hI h o i := fun o i ho => c o i (by omega) (by omega) (by omega) (by omega) (by omega)
  have c3 : ∀ i, i ≠ 9 → hI (wI (wI g o_kept k 1) o_x 9 0) o_x i = hI h o_x i := fun i hi => c 64 i (by omega) (by omega) (by omega) (by omega) (by omega)
  have gI : ∀ o i, 66 ≤ o → o ≠ 78 → hI (wI (wI g o_kept k 1) o_x 9 0) o i = hI g o i := fun o i h1 h2 => by rw [rd_o (by show o ≠ 64; omega), rd_o (by show o ≠ 78; omega)]
  have g0 : goodA (imA A k) 0 = A 0 := by unfold goodA; rw [up2_o (by decide), imA_o (by omega) (by decide)]
  refine ⟨⟨⟨⟨?_, ?_⟩, fun j hj z => ?_, fun j hj => ?_, fun i hi => ?_, ?_, ?_, ?_, rd_same, ⟨?_, ?_, ?_, ?_, ?_⟩, fun i hi => ?_, ?_⟩, ?_⟩, fun o i h1 h2 => c o i (by omega) (by omega) (by omega) (by omega) (by omega)⟩
  · rw [g0]; exact wF_c (fun o i ho => have ho : o = 65 ∨ o = 68 ∨ o = 69 := ho; c o i (by omega) (by omega) (by omega) (by omega) (by omega)) p1
  · rw [g0]; exact lw _ _ (by show (70 : Nat) ≠ _; omega) p1'
  · have z : imA A k 3 j = 1 := z
    have e1 : goodA (imA A k) (1 + j) = imA A k (1 + j) := by unfold goodA; rw [up2_o (by omega)]
    rw [e1]
    by_cases e : j = k
    · subst e
      rw [imA_w hk]
      refine ⟨⟨fun i hi => ?_, fun i hi => ?_, ?_, ?_, ?_, ?_, ?_⟩, wL_cp (fun i hi => b8 i hi) (fun q i hq => c q i (by omega) (by omega) (by omega) (by omega) (by omega)) eL eN p1'⟩
      · rw [gI _ _ (by omega) (by omega), b4 i hi]; exact p1.1 i hi
      · rw [gI _ _ (by omega) (by omega), b5 i hi]; exact p1.2.1 i hi
      · rw [gI _ _ (by omega) (by omega), b6 3 (by decide) (by decide)]; exact p1.2.2.1
      · rw [gI _ _ (by omega) (by omega), b6 4 (by decide) (by decide)]; exact p1.2.2.2.1
      · rw [gI _ _ (by omega) (by omega), b6 5 (by decide) (by decide)]; exact p1.2.2.2.2.1
      · rw [gI _ _ (by omega) (by omega), b6 6 (by decide) (by decide)]; exact p1.2.2.2.2.2.1
      · rw [gI _ _ (by omega) (by omega), b6 7 (by decide) (by decide)]; exact p1.2.2.2.2.2.2
    · rw [imA_3 hk, if_neg e] at z
      rw [imA_o (by omega) (by omega)]
      exact ⟨wF_c (fun o i ho => c o i (by omega) (by omega) (by omega) (by omega) (by omega)) (p2 j hj z).1, lw _ _ (by omega) (p2 j hj z).2⟩
  · show _ = imA A k 3 j
    rw [imA_3 hk, rd_o (by decide), rd_any]
    by_cases e : j = k
    · rw [if_pos ⟨rfl, e⟩, if_pos e]
    · rw [if_neg (fun z => e z.2), if_neg e]; exact (b3 78 j (by omega) (by omega) (by omega)).trans (p3 j hj)
  · unfold goodA; rw [up2_o (by decide), imA_o (by omega) (by decide), c2 _ _ (by decide)]; exact p4 i hi
  · unfold goodA; rw [up2_n (by decide), imA_o (by omega) (by decide), c2 _ _ (by decide)]; exact p5
  · unfold goodA; rw [up2_n (by decide), imA_o (by omega) (by decide), c3 _ (by decide)]; exact p6
  · unfold goodA; rw [up2_n (by decide), imA_o (by omega) (by decide), c3 _ (by decide)]; exact p7
  · unfold goodA; rw [up2_o (by decide), imA_o (by omega) (by decide), c2 _ _ (by decide)]; exact r1
  · unfold goodA; rw [up2_o (by decide), imA_o (by omega) (by decide), c2 _ _ (by decide)]; exact r2
  · unfold goodA; rw [up2_o (by decide), imA_o (by omega) (by decide), c2 _ _ (by decide)]; exact r3
  · unfold goodA; rw [up2_o (by decide), imA_o (by omega) (by decide), c2 _ _ (by decide)]; exact r4
  · unfold goodA; rw [up2_o (by decide), imA_o (by omega) (by decide), c2 _ _ (by decide)]; exact r5
  · unfold goodA; rw [up2_o (by decide), imA_o (by omega) (by decide), c2 _ _ (by decide)]; exact p14 i hi
  · unfold goodA; rw [up2_o (by decide), imA_o (by omega) (by decide), c2 _ _ (by decide)]; exact p15
  · rw [g0]
    exact cX_c pc (fun o i ho => c o i (by omega) (by omega) (by omega) (by omega) (by omega)) (fun o i => congrFun (congrFun b1 o) i) (fun im => ⟨fun i hi => (b7 _ i (by show (77 : Nat) ≠ _; omega)).trans (im.1 i hi), fun i hi j hj o ho => by
      have nn : hN (wI (wI g o_kept k 1) o_x 9 0) = hN h := congrArg (fun z => z.2) b2
      have ho : hR g (73 + 3 * i) j = some o := ho
      have l : lawp h o := by
        by_cases e : i = k
        · rw [e, b8 j hj] at ho; exact p1'.1 j hj o ho
        · rw [b7 _ _ (by omega)] at ho; exact im.2 i hi j hj o ho
      unfold lawp at *
      rw [nn]; exact l⟩)
theorem s_image (wf : wfA A) {v : Int32} : stp cx jX11_image jX12_image [.int v] A := by
  by_cases y : (0 : Int32) ≤ v ∧ v ≤ 1
  · obtain ⟨k, hk', rfl⟩ := rng (m := 1) (by decide) y
    have hk : k < 2 := by omega
    refine ⟨0, goodA (imA A k), wfA_image hk wf, fun d a h hd _ p => ?_, fun d c h hd hc p => ?_⟩
    · have im := p.2.1.2
      have lw := p.1.1.2.1
      obtain rfl | rfl : k = 0 ∨ k = 1 := by omega
      · refine sX11_image rfl (wcS m_isWithin (And.intro (fun q1 => (eX11_image (And.intro (vp_in_nI (n := 0) (N := 2) (by decide) (by decide)) ?_))) (fun q1 => absurd y (b2i_0.mp q1))))
        rw [show hR h (ly_rf o_x 1) (nI 0).toNatClampNeg = some 66 from im.1 0 (by decide)]
        refine wcQ (m_become_66_65 lw) (fun u G z => ?_) (fun u G z => congrArg (fun z => z.2) z.2.2.1)
        obtain ⟨rfl, b⟩ := z
        have := RX_image (k := 0) (by decide) p b
        exact And.intro (vp_in_nI (n := 0) (N := 2) (by decide) (by decide)) (wcV x_accept ⟨rfl, this⟩)
      · refine sX11_image rfl (wcS m_isWithin (And.intro (fun q1 => (eX11_image (And.intro (vp_in_nI (n := 1) (N := 2) (by decide) (by decide)) ?_))) (fun q1 => absurd y (b2i_0.mp q1))))
        rw [show hR h (ly_rf o_x 1) (nI 1).toNatClampNeg = some 67 from im.1 1 (by decide)]
        refine wcQ (m_become_67_65 lw) (fun u G z => ?_) (fun u G z => congrArg (fun z => z.2) z.2.2.1)
        obtain ⟨rfl, b⟩ := z
        have := RX_image (k := 1) (by decide) p b
        exact And.intro (vp_in_nI (n := 1) (N := 2) (by decide) (by decide)) (wcV x_accept ⟨rfl, this⟩)
    · refine M_mono (n_image_ok (by omega) hk) ?_
      rintro r g ⟨rfl, G, ⟨i1, i2, i3⟩, rfl⟩
      obtain ⟨p1, p2, p3, p4, p5, p6, p7, p8, p9, p10, p11, p12⟩ := id p.1
      have cg : ∀ o j, o ≠ 107 → ¬ (o = 108 ∧ j = k) → hI (wI G o_m_hasImage k 1) o j = hI h o j := fun o j n1 n2 => by rw [rd_any, if_neg n2]; exact i2 o j n1
      have n8 : ∀ {o j : Nat}, o ≠ 108 → ¬ (o = 108 ∧ j = k) := fun h z => h z.1
      refine ⟨rfl, RM_good hc p.2 (fun j _ => cg _ _ (by decide) (n8 (by decide))) ⟨?_, fun j i hj hi => ?_, fun j hj => ?_, fun j hj => ?_, ?_, ?_, ?_, ?_, fun j hj => ?_, fun j hj => ?_, ?_, fun j hj => ?_⟩, keepC_t ⟨i1, fun o j ho => i2 o j (by omega)⟩ (keepC_t (keepC_w (by decide)) keepC_good)⟩
      · rw [imA_o (by omega) (by decide), ← p1]; exact funext fun j => cg _ _ (by decide) (n8 (by decide))
      · rw [rd_o (by decide), i3]
        by_cases e : j = k
        · rw [if_pos (by omega), e, imA_w hk, Nat.add_sub_cancel_left, p1]
        · rw [if_neg (by omega), imA_o (by omega) (by omega)]; exact p2 j i hj hi
      · rw [imA_3 hk, rd_any]
        by_cases e : j = k
        · rw [if_pos ⟨rfl, e⟩, if_pos e]
        · rw [if_neg (fun z => e z.2), if_neg e, i2 _ _ (by decide)]; exact p3 j hj
      · rw [imA_o (by omega) (by decide), cg _ _ (by decide) (n8 (by decide))]; exact p4 j hj
      · rw [imA_o (by omega) (by decide), cg _ _ (by decide) (n8 (by decide))]; exact p5
      · rw [imA_o (by omega) (by decide), cg _ _ (by decide) (n8 (by decide))]; exact p6
      · rw [imA_o (by omega) (by decide), cg _ _ (by decide) (n8 (by decide))]; exact p7
      · rw [imA_o (by omega) (by decide), cg _ _ (by decide) (n8 (by decide))]; exact p8
      · rw [imA_o (by omega) (by decide), cg _ _ (by decide) (n8 (by decide))]; exact p9 j hj
      · rw [imA_o (by omega) (by decide), cg _ _ (by decide) (n8 (by decide))]; exact p10 j hj
      · rw [imA_o (by omega) (by decide), cg _ _ (by decide) (n8 (by decide))]; exact p11
      · rw [cg _ _ (by decide) (n8 (by decide))]; exact p12 j hj
  · refine stp_ref (n := 1) (j := 0) (k := -1) (by decide) (Or.inl ⟨rfl, rfl⟩) wf (fun d a h hd p => ?_) (fun d c h hd p => n_image_no (by omega) y)
    exact sX11_image rfl (wcS m_isWithin (And.intro (fun q1 => absurd (b2i_n q1) y) (fun q1 => wcV (x_refuse1 (by omega)) ⟨rfl, rfl⟩)))
end T9993
