/-! each side keeps what the other stands for -/
section T9996
variable {cx : Cx} {d a c : Nat} {h g f : Hp} {A : Ab}
theorem RX_keepC (p : RX A h) (q : keepC h g) : RX A g := by
  obtain ⟨⟨-, -, p3, p4, p5, p6, p7, p8, ⟨r1, r2, r3, r4, r5⟩, p14, p15⟩, pc⟩ := id p
  obtain ⟨q1, q2⟩ := q
  have c1 : ∀ o k, o < 104 → hI g o k = hI h o k := fun o k ho => q2 o k (by omega)
  refine ⟨RXd_c p.1 rfl (fun _ _ => rfl) rfl (congrArg (fun z => z.2) q1) (fun o k ho => q2 o k (by omega)) (fun k hk => (c1 _ _ (by decide)).trans (p4 k hk)) ((c1 _ _ (by decide)).trans p5) ((c1 _ _ (by decide)).trans p6) ((c1 _ _ (by decide)).trans p7) ((c1 _ _ (by decide)).trans p8) ⟨(c1 _ _ (by decide)).trans r1, (c1 _ _ (by decide)).trans r2, (c1 _ _ (by decide)).trans r3, (c1 _ _ (by decide)).trans r4, (c1 _ _ (by decide)).trans r5⟩ (fun k hk => (c1 _ _ (by decide)).trans (p14 k hk)) ((c1 _ _ (by decide)).trans p15), cX_c pc (fun o k ho => c1 o k (by omega)) (fun o k => congrArg (fun z => z.1 o k) q1) (imR_e (congrArg (fun z => z.2) q1))⟩
theorem RM_keepMd (p : RM c A h) (q : keepMd h g) : RM c A g := by
  obtain ⟨⟨p1, p2, p3, p4, p5, p6, p7, p8, p9, p10, p11, p12⟩, mc⟩ := p
  have e : ∀ o k, 104 ≤ o → o ≤ 125 → hI g o k = hI h o k := q
  refine ⟨⟨?_, fun k i hk hi => ?_, fun k hk => ?_, fun k hk => ?_, ?_, ?_, ?_, ?_, fun k hk => ?_, fun k hk => ?_, ?_, fun k hk => ?_⟩, mC_c mc (fun o k h1 h2 => e o k (by omega) h2) (fun k _ => e _ _ (by decide) (by decide))⟩
  · rw [← p1]; exact funext fun k => e _ _ (by decide) (by decide)
  · rw [e _ _ (by decide) (by decide)]; exact p2 k i hk hi
  · rw [e _ _ (by decide) (by decide)]; exact p3 k hk
  · rw [e _ _ (by decide) (by decide)]; exact p4 k hk
  · rw [e _ _ (by decide) (by decide)]; exact p5
  · rw [e _ _ (by decide) (by decide)]; exact p6
  · rw [e _ _ (by decide) (by decide)]; exact p7
  · rw [e _ _ (by decide) (by decide)]; exact p8
  · rw [e _ _ (by decide) (by decide)]; exact p9 k hk
  · rw [e _ _ (by decide) (by decide)]; exact p10 k hk
  · rw [e _ _ (by decide) (by decide)]; exact p11
  · rw [e _ _ (by decide) (by decide)]; exact p12 k hk
end T9996
