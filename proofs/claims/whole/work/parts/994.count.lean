/-! count on both sides -/
section T994
variable {cx : Cx} {d a c : Nat} {h g f : Hp} {w : Wd} {A : Ab} {n s t : Nat}
theorem rng2 {q : Int32} {l m : Nat} (hl : l < 2 ^ 31) (hm : m < 2 ^ 31) (z : nI l ≤ q ∧ q ≤ nI m) : ∃ k, l ≤ k ∧ k ≤ m ∧ q = nI k := by
  obtain ⟨k, hk, rfl⟩ := rng hm ⟨Int32.le_trans (nI_pos' hl) z.1, z.2⟩
  exact ⟨k, (nI_leI hl (by omega)).mp z.1, hk, rfl⟩
theorem s_count (wf : wfA A) {q : Int32} : stp cx jX11_count jX12_count [.int q] A := by
  obtain ⟨n, s, t, ws, wt, wi, wl⟩ := id wf.1
  obtain ⟨hn, en, lT⟩ := wfS_n ws
  refine stp_same (k := cntQ A q) wf (fun d a h hd p => ?_) (fun d c h hd p => n_count (by omega) p.1)
  obtain ⟨⟨p1, p1'⟩, p2, p3, p4, p5, p6, p7, p8, ⟨r1, r2, r3, r4, r5⟩, p14, p15⟩ := id p.1
  refine sX11_count rfl (wcS m_isWithin (And.intro (fun q1 => (eX11_count (wcS m_isWithin (And.intro (fun q2 => (eX11_count ?sw)) (fun q2 => (wcV (m_term (by omega)) ?r1)))))) (fun q1 => ?r3)))
  case r3 =>
    obtain ⟨k, h1, h2, rfl⟩ := rng2 (l := 5) (m := 9) (by decide) (by decide) (b2i_n q1)
    obtain rfl | rfl | rfl | rfl | rfl : k = 5 ∨ k = 6 ∨ k = 7 ∨ k = 8 ∨ k = 9 := by omega
    · exact And.intro (vp_in_nI (n := 0) (N := 5) (by decide) (by decide)) (RQ_eq r1)
    · exact And.intro (vp_in_nI (n := 1) (N := 5) (by decide) (by decide)) (RQ_eq r2)
    · exact And.intro (vp_in_nI (n := 2) (N := 5) (by decide) (by decide)) (RQ_eq r3)
    · exact And.intro (vp_in_nI (n := 3) (N := 5) (by decide) (by decide)) (RQ_eq r4)
    · exact And.intro (vp_in_nI (n := 4) (N := 5) (by decide) (by decide)) (RQ_eq r5)
  case r1 =>
    obtain ⟨k, h1, h2, rfl⟩ := rng2 (l := 11) (m := 13) (by decide) (by decide) (b2i_n q2)
    obtain rfl | rfl | rfl : k = 11 ∨ k = 12 ∨ k = 13 := by omega
    · exact RQ_eq (term_w p1 (k := 0) (by decide))
    · exact RQ_eq (term_w p1 (k := 1) (by decide))
    · exact RQ_eq (term_w p1 (k := 2) (by decide))
  case sw =>
    have n1 : ∀ k, 5 ≤ k → k ≤ 9 → ¬ q = nI k := fun k h1 h2 e => b2i_0.mp q1 (by rw [e]; exact ⟨nI_le (a := 5) h1 (by omega), nI_le (b := 9) h2 (by decide)⟩)
    have n2 : ∀ k, 11 ≤ k → k ≤ 13 → ¬ q = nI k := fun k h1 h2 e => b2i_0.mp q2 (by rw [e]; exact ⟨nI_le (a := 11) h1 (by omega), nI_le (b := 13) h2 (by decide)⟩)
    refine And.intro (fun z => ?_) (And.intro (fun z => ?_) (And.intro (fun z => ?_) (And.intro (fun z => ?_) (And.intro (fun z => ?_) (And.intro (fun z => ?_) (And.intro (fun z => absurd z (n1 5 (by decide) (by decide))) (And.intro (fun z => absurd z (n1 6 (by decide) (by decide))) (And.intro (fun z => absurd z (n1 7 (by decide) (by decide))) (And.intro (fun z => absurd z (n1 8 (by decide) (by decide))) (And.intro (fun z => absurd z (n1 9 (by decide) (by decide))) (And.intro (fun z => ?_) trivial)))))))))))
    · refine eX11_count (RQ_eq ?_)
      unfold cntQ
      rw [if_neg (show ¬ q = 0 from z 0 (by decide)), if_neg (show ¬ q = 1 from z 1 (by decide)), if_neg (show ¬ q = 2 from z 2 (by decide)), if_neg (show ¬ q = 3 from z 3 (by decide)), if_neg (show ¬ q = 4 from z 4 (by decide)), if_neg (show ¬ q = 5 from z 5 (by decide)), if_neg (show ¬ q = 6 from z 6 (by decide)), if_neg (show ¬ q = 7 from z 7 (by decide)), if_neg (show ¬ q = 8 from z 8 (by decide)), if_neg (show ¬ q = 9 from z 9 (by decide)), if_neg (show ¬ q = 10 from z 10 (by decide)), if_neg (show ¬ q = 11 from n2 11 (by decide) (by decide)), if_neg (show ¬ q = 12 from n2 12 (by decide) (by decide)), if_neg (show ¬ q = 13 from n2 13 (by decide) (by decide))]
    · subst z; exact eX11_count (RQ_eq p1.2.2.1)
    · subst z; refine eX11_count (wcS m_bitCount (RQ_eq ?_))
      rw [show hI h (ly_rf o_x 0) 5 = A 0 159 from p1.2.2.2.2.1, bcw_ones (low_le (by omega) lT)]; rfl
    · subst z; exact eX11_count (RQ_eq p1.2.2.2.1)
    · subst z; exact eX11_count (RQ_eq p1.2.2.2.2.2.1)
    · subst z; exact eX11_count (RQ_eq p5)
    · subst z; exact eX11_count (RQ_eq p1.2.2.2.2.2.2)
end T994
