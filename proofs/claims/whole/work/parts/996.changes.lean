/-! put, terms, force, stand, take on both sides -/
section T996
variable {cx : Cx} {d a c : Nat} {h g f : Hp} {w w' : Wd} {A : Ab} {n s t : Nat}
theorem wfS_same (e : ∀ k, 157 ≤ k → k ≤ 161 → w' k = w k) (q : wfS w n s t) : wfS w' n s t := by
  unfold wfS
  rw [e 157 (by decide) (by decide), e 158 (by decide) (by decide), e 159 (by decide) (by decide), e 160 (by decide) (by decide), e 161 (by decide) (by decide)]
  exact q
theorem wfT_same (e : ∀ k, 154 ≤ k → k ≤ 156 → w' k = w k) (q : wfT w) : wfT w' := by
  unfold wfT
  rw [e 154 (by decide) (by decide), e 155 (by decide) (by decide), e 156 (by decide) (by decide)]
  exact q
theorem cPut_iff {w v : Int32} : cPut w v ↔ (w = 0 ∧ 1 ≤ v ∧ v ≤ 99) ∨ (w = 1 ∧ 0 ≤ v ∧ v ≤ 3) ∨ (w = 2 ∧ 0 ≤ v ∧ v ≤ 100) := by
  constructor
  · rintro ⟨z, l, u⟩
    obtain ⟨k, hk, rfl⟩ := rng (m := 2) (by decide) z
    obtain rfl | rfl | rfl : k = 0 ∨ k = 1 ∨ k = 2 := by omega
    · exact Or.inl ⟨rfl, l, u⟩
    · exact Or.inr (Or.inl ⟨rfl, l, u⟩)
    · exact Or.inr (Or.inr ⟨rfl, l, u⟩)
  · rintro (⟨rfl, z⟩ | ⟨rfl, z⟩ | ⟨rfl, z⟩)
    · exact ⟨by decide, z⟩
    · exact ⟨by decide, z⟩
    · exact ⟨by decide, z⟩
theorem e_xput {x w v : Int32} {Q : Option Value → Hp → Prop} (hd : 1 ≤ d) (k : E cx jX11_put d a 48 [some (.ref o_x), some (.int x), some (.int w), some (.int v), none] [.int (b2i (cPut w v))] h Q) : M cx jX11_put d a [.ref o_x, .int x, .int w, .int v] h Q := by
  have e47 : ¬ cPut w v → E cx jX11_put d a 47 [some (.ref o_x), some (.int x), some (.int w), some (.int v), none] [] h Q := fun z => by
    rw [b2i_f z] at k; exact eX11_put k
  have e43 : cPut w v → E cx jX11_put d a 43 [some (.ref o_x), some (.int x), some (.int w), some (.int v), none] [] h Q := fun z => by
    rw [b2i_t z] at k; exact eX11_put k
  have e28 : ¬ (w = 0 ∧ 1 ≤ v ∧ v ≤ 99) → ¬ (w = 1 ∧ 0 ≤ v ∧ v ≤ 3) → E cx jX11_put d a 28 [some (.ref o_x), some (.int x), some (.int w), some (.int v), none] [] h Q := fun n1 n2 =>
    eX11_put (And.intro (fun q => e47 fun z => (cPut_iff.mp z).elim n1 fun y => y.elim n2 fun y => q y.1) (fun q => wcS m_isWithin (And.intro (fun q2 => e47 fun z => (cPut_iff.mp z).elim n1 fun y => y.elim n2 fun y => b2i_0.mp q2 y.2) (fun q2 => e43 (cPut_iff.mpr (Or.inr (Or.inr ⟨q, b2i_n q2⟩)))))))
  have e14 : ¬ (w = 0 ∧ 1 ≤ v ∧ v ≤ 99) → E cx jX11_put d a 14 [some (.ref o_x), some (.int x), some (.int w), some (.int v), none] [] h Q := fun n1 =>
    eX11_put (And.intro (fun q => e28 n1 fun y => q y.1) (fun q => wcS m_isWithin (And.intro (fun q2 => e43 (cPut_iff.mpr (Or.inr (Or.inl ⟨q, b2i_n q2⟩)))) (fun q2 => e28 n1 fun y => b2i_0.mp q2 y.2))))
  exact sX11_put rfl (And.intro (fun q1 => e14 fun y => q1 y.1) (fun q1 => wcS m_isWithin (And.intro (fun q2 => e43 (cPut_iff.mpr (Or.inl ⟨q1, b2i_n q2⟩))) (fun q2 => e14 fun y => b2i_0.mp q2 y.2))))
theorem wallX_e {o k : Nat} {v r r' : Int32} (e : r' = r) (ho : o = 65 ∨ o = 68 ∨ o = 69) (q : wFm w' (wI (wI h o_x 12 1) o k v)) : wallX w' r h (some (.int r')) (wI (wI (wI h o_x 12 1) o k v) o_x 9 0) := by rw [e]; exact wallX_w ho q
theorem s_put (wf : wfA A) {x v u : Int32} : stp cx jX11_put jX12_put [.int x, .int v, .int u] A := by
  obtain ⟨n, s, t, ws, wt, wi, wl⟩ := id wf.1
  obtain ⟨hn, en, lT⟩ := wfS_n ws
  by_cases y : cPut v u
  · by_cases y2 : cStone (A 0) x
    · obtain ⟨k, hk, rfl⟩ := cStone_nI en hn y2
      obtain ⟨f, hf, rfl⟩ := rng (m := 2) (by decide) y.1
      have lt : 7 * k + (4 + f) < 154 := by omega
      refine stp_wall (w' := updW (A 0) (7 * k + (4 + f)) u) (r := A 0 (7 * k + (4 + f))) wf ⟨n, s, t, wfS_same (fun i h1 h2 => updW_n (by omega)) ws, wfT_same (fun i h1 h2 => updW_n (by omega)) wt, wfI_same (fun i j hi hj => updW_n (by omega)) (updW_n (by omega)) (updW_n (by omega)) wi, wfL_same (fun i h1 => updW_n (by omega)) wl⟩ (fun i h1 _ => updW_n (by omega)) (fun d a h hd p => ?_) (fun d c h hd p => ?_)
      · refine e_xput (by omega) ?_
        rw [b2i_t y]
        refine eX11_put (And.intro (fun q1 => ?_) (fun q1 => absurd q1 (by decide)))
        refine eX11_put (wcV (m_isStone (by omega)) (And.intro (fun q2 => ?_) (fun q2 => absurd ((x_stone p.1.1.1).mpr y2) (b2i_0.mp q2))))
        refine eX11_put (And.intro (Or.inr rfl) (wcV (m_change (k := k) (w := 4 + f) (by omega) rfl (nI_add 4 f) (by omega) (by omega)) (wcV x_accept (wallX_e ?_ (Or.inr (Or.inl rfl)) (wF_fact lt (wF_x p.1.1.1))))))
        rw [rd_o (by decide)]; exact p.1.1.1.1 _ lt
      · have := n_put_ok (cx := cx) (d := d) (a := 0) (h := h) (s := nI k) (w := nI f) (v := u) (by omega) y (by rw [p.1.1]; exact y2) rfl rfl (by omega) (by omega)
        rw [p.1.1] at this
        exact M_mono this (wallM_w p)
    · refine stp_ref (n := 2) (j := 1) (k := -2) (by decide) (Or.inr (Or.inl ⟨rfl, rfl⟩)) wf (fun d a h hd p => ?_) (fun d c h hd p => n_put_such (by omega) y (by rw [p.1.1]; exact y2))
      refine e_xput (by omega) ?_
      rw [b2i_t y]
      refine eX11_put (And.intro (fun q1 => ?_) (fun q1 => absurd q1 (by decide)))
      exact eX11_put (wcV (m_isStone (by omega)) (And.intro (fun q2 => absurd ((x_stone p.1.1.1).mp (b2i_n q2)) y2) (fun q2 => wcV (x_refuse2 (by omega)) ⟨rfl, rfl⟩)))
  · refine stp_ref (n := 1) (j := 0) (k := -1) (by decide) (Or.inl ⟨rfl, rfl⟩) wf (fun d a h hd p => ?_) (fun d c h hd p => n_put_no (by omega) y)
    refine e_xput (by omega) ?_
    rw [b2i_f y]
    exact eX11_put (And.intro (fun q1 => absurd rfl q1) (fun q1 => wcV (x_refuse1 (by omega)) ⟨rfl, rfl⟩))
/-! terms -/
theorem s_terms (wf : wfA A) {v u : Int32} : stp cx jX11_terms jX12_terms [.int v, .int u] A := by
  obtain ⟨n, s, t, ws, wt, wi, wl⟩ := id wf.1
  by_cases y : cTerm v u
  · obtain ⟨f, hf, rfl⟩ := rng (m := 2) (by decide) y.1
    have tt : wfT (updW (A 0) (154 + f) u) := by
      have y2 := y.2
      obtain ⟨t1, t2, t3⟩ := wt
      have mk : ∀ {m : Nat}, m < 2 ^ 31 → u ≤ nI m → inR 0 m u := fun {m} hm z => by
        obtain ⟨k, hk, e⟩ := rng hm ⟨y2.1, z⟩
        exact ⟨k, by omega, hk, e⟩
      obtain rfl | rfl | rfl : f = 0 ∨ f = 1 ∨ f = 2 := by omega
      · exact ⟨mk (m := 12) (by decide) y2.2, t2, t3⟩
      · exact ⟨t1, mk (m := 9) (by decide) y2.2, t3⟩
      · exact ⟨t1, t2, mk (m := 9) (by decide) y2.2⟩
    refine stp_wall (w' := updW (A 0) (154 + f) u) (r := A 0 (154 + f)) wf ⟨n, s, t, wfS_same (fun i h1 h2 => updW_n (by omega)) ws, tt, wfI_same (fun i j hi hj => updW_n (by omega)) (updW_n (by omega)) (updW_n (by omega)) wi, wfL_same (fun i h1 => updW_n (by omega)) wl⟩ (fun i h1 _ => updW_n (by omega)) (fun d a h hd p => ?_) (fun d c h hd p => ?_)
    · have e34 : E cx jX11_terms d a 34 [some (.ref o_x), some (.int (nI f)), some (.int u)] [] h (wallX (updW (A 0) (154 + f) u) (A 0 (154 + f)) h) := by
        refine eX11_terms (And.intro (Or.inr rfl) (wcV (m_changeTerm (k := f) (by omega) rfl (by omega)) (wcV x_accept (wallX_e ?_ (Or.inr (Or.inr rfl)) (wF_term (by omega) (wF_x p.1.1.1))))))
        rw [rd_o (by decide)]; exact p.1.1.1.2.1 _ (by omega)
      have e22 : E cx jX11_terms d a 22 [some (.ref o_x), some (.int (nI f)), some (.int u)] [.int (teHi (nI f)), .int 0, .int u] h (wallX (updW (A 0) (154 + f) u) (A 0 (154 + f)) h) := eX11_terms (wcS m_isWithin (And.intro (fun _ => e34) (fun q => absurd y.2 (b2i_0.mp q))))
      refine sX11_terms rfl (wcS m_isWithin (And.intro (fun q1 => absurd y.1 (b2i_0.mp q1)) (fun q1 => (And.intro (fun q2 => (eX11_terms ?_)) (fun q2 => ?_)))))
      · rw [show teHi (nI f) = 9 from if_neg q2] at e22; exact e22
      · rw [show teHi (nI f) = 12 from if_pos q2] at e22; exact e22
    · have := n_terms_ok (cx := cx) (d := d) (a := 0) (h := h) (w := nI f) (v := u) (by omega) y rfl (by omega)
      rw [p.1.1] at this
      exact M_mono this (wallM_w p)
  · refine stp_ref (n := 1) (j := 0) (k := -1) (by decide) (Or.inl ⟨rfl, rfl⟩) wf (fun d a h hd p => ?_) (fun d c h hd p => n_terms_no (by omega) y)
    have e28 : E cx jX11_terms d a 28 [some (.ref o_x), some (.int v), some (.int u)] [] h (RQ (.int (-1)) (xrefH h (-1) 0)) := eX11_terms (wcV (x_refuse1 (by omega)) ⟨rfl, rfl⟩)
    have e22 : (0 : Int32) ≤ v ∧ v ≤ 2 → E cx jX11_terms d a 22 [some (.ref o_x), some (.int v), some (.int u)] [.int (teHi v), .int 0, .int u] h (RQ (.int (-1)) (xrefH h (-1) 0)) := fun z => eX11_terms (wcS m_isWithin (And.intro (fun q => absurd ⟨z, b2i_n q⟩ y) (fun q => e28)))
    refine sX11_terms rfl (wcS m_isWithin (And.intro (fun q1 => e28) (fun q1 => (And.intro (fun q2 => (eX11_terms ?_)) (fun q2 => ?_)))))
    · have := e22 (b2i_n q1); rw [show teHi v = 9 from if_neg q2] at this; exact this
    · have := e22 (b2i_n q1); rw [show teHi v = 12 from if_pos q2] at this; exact this
end T996
