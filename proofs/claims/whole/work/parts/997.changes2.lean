/-! force, stand, take, end on both sides -/
section T997
variable {cx : Cx} {d a c : Nat} {h g f : Hp} {w w' : Wd} {A : Ab} {n s t : Nat}
theorem wallX_f {k : Nat} {v r r' : Int32} (kq : keepQ h g) (e : r' = r) (q : wFm w' (wI g o_wall k v)) : wallX w' r h (some (.int r')) (wI (wI (wI g o_wall k v) o_x 12 1) o_x 9 0) := by
  rw [e]
  exact ⟨rfl, wF_x (wF_x q), rd_same, by rw [rd_k (by decide), rd_same], kq.2, fun p i h1 h2 h3 => by rw [rd_any, if_neg (fun z => h2 ⟨z.1, Or.inl z.2⟩), rd_any, if_neg (fun z => h2 ⟨z.1, Or.inr z.2⟩), rd_o (fun z => h1 (Or.inl z))]; exact kq.1 p i h3 fun z => h2 ⟨z.1, Or.inr z.2⟩⟩
theorem s_force (wf : wfA A) {v : Int32} : stp cx jX11_force jX12_force [.int v] A := by
  obtain ⟨n, s, t, ws, wt, wi, wl⟩ := id wf.1
  have ht : t ≤ 6 := ws.2.2.1
  have et : A 0 160 = nI t := ws.2.2.2.2.2.2.1
  have iff1 : ((-1 : Int32) ≤ v ∧ v ≤ A 0 160 - 1) ↔ (v = -1 ∨ (0 ≤ v ∧ v ≤ A 0 160 - 1)) := by
    rw [et]
    simp only [Int32.le_iff_toInt_le]
    rw [show (1 : Int32) = nI 1 from rfl, pk_sub_toInt (by omega) (by decide)]
    have e0 : (0 : Int32).toInt = 0 := rfl
    have e1 : (-(nI 1) : Int32).toInt = -1 := rfl
    have e2 : v = -(nI 1) ↔ v.toInt = -1 := by rw [← Int32.toInt_inj, e1]
    rw [e2, e0, e1]
    omega
  by_cases y : (-1 : Int32) ≤ v ∧ v ≤ A 0 160 - 1
  · have y' := iff1.mp y
    have ww : wfS (updW (A 0) 161 v) n s t := by
      obtain ⟨b1, b2, b3, b4, b5, b6, b7, b8⟩ := ws
      refine ⟨b1, b2, b3, b4, b5, b6, b7, ?_⟩
      rw [updW_s]
      rcases y' with z | z
      · exact Or.inl z
      · obtain ⟨k, hk, rfl⟩ := nI_of (x := v) (Int32.not_lt.mpr z.1)
        refine Or.inr ⟨k, ?_, rfl⟩
        have := Int32.le_iff_toInt_le.mp z.2
        rw [et, show (1 : Int32) = nI 1 from rfl, pk_sub_toInt (by omega) (by decide), nI_toInt hk] at this
        omega
    refine stp_wall (w' := updW (A 0) 161 v) (r := A 0 161) wf ⟨n, s, t, ww, wfT_same (fun i h1 h2 => updW_n (by omega)) wt, wfI_same (fun i j hi hj => updW_n (by omega)) (updW_n (by omega)) (updW_n (by omega)) wi, wfL_same (fun i h1 => updW_n (by omega)) wl⟩ (fun i h1 h2 => updW_n (by omega)) (fun d a h hd p => ?_) (fun d c h hd p => ?_)
    · have e29 : E cx jX11_force d a 29 [some (.ref o_x), some (.int v), none] [] h (wallX (updW (A 0) 161 v) (A 0 161) h) := by
        exact eX11_force (And.intro (Or.inr rfl) (wcV x_accept (wallX_f keepQ_r p.1.1.1.2.2.2.2.2.2 (wF_num (k := 7) (by decide) p.1.1.1))))
      have e6 : hI h (ly_rf o_x 0) 6 = A 0 160 := p.1.1.1.2.2.2.2.2.1
      refine sX11_force rfl (And.intro (fun q1 => e29) (fun q1 => (wcS m_isWithin (And.intro (fun q2 => e29) (fun q2 => absurd ?_ (b2i_0.mp q2))))))
      rw [e6]; exact y'.resolve_left q1
    · have := n_force_ok (cx := cx) (d := d) (a := 0) (h := h) (n := v) (by omega) (by rw [p.1.1]; exact y)
      rw [p.1.1] at this
      exact M_mono this (wallM_w p)
  · refine stp_ref (n := 2) (j := 1) (k := -2) (by decide) (Or.inr (Or.inl ⟨rfl, rfl⟩)) wf (fun d a h hd p => ?_) (fun d c h hd p => n_force_no (by omega) (by rw [p.1.1]; exact y))
    have e6 : hI h (ly_rf o_x 0) 6 = A 0 160 := p.1.1.1.2.2.2.2.2.1
    exact sX11_force rfl (And.intro (fun q1 => absurd (iff1.mpr (Or.inl q1)) y) (fun q1 => (wcS m_isWithin (And.intro (fun q2 => absurd (iff1.mpr (Or.inr (by have := b2i_n q2; rw [e6] at this; exact this))) y) (fun q2 => wcV (x_refuse2 (by omega)) ⟨rfl, rfl⟩)))))
/-! stand -/
theorem all_low {x : Int32} (hn : n ≤ 14) : (0 ≤ x ∧ x ≤ one n - 1) ↔ x &&& ((one n - 1) ^^^ -1) = 0 := by
  have p1 : 0 < 2 ^ n := Nat.two_pow_pos n
  have p2 : 2 ^ n ≤ 2 ^ 14 := Nat.pow_le_pow_right (by decide) hn
  have e : one n - 1 = nI (2 ^ n - 1) := by rw [one_nI (by omega), show (1 : Int32) = nI 1 from rfl, pk_sub (by omega)]
  rw [e, ← sub_iff]
  constructor
  · intro z
    obtain ⟨m, hm, rfl⟩ := rng (m := 2 ^ n - 1) (by omega) z
    intro k hk b
    have : k < n := nI_low (n := n) (by omega) k hk b
    rw [bt_nI hk, Nat.testBit_two_pow_sub_one]
    simp [this]
  · intro z
    obtain ⟨m, hm, rfl⟩ := low_nI (n := n) (by omega) (low_sub z (nI_low (by omega)))
    exact rng_of (by omega) (by omega)
theorem s_stand (wf : wfA A) {v : Int32} : stp cx jX11_stand jX12_stand [.int v] A := by
  obtain ⟨n, s, t, ws, wt, wi, wl⟩ := id wf.1
  obtain ⟨hn, en, lT⟩ := wfS_n ws
  have ca : cAll (A 0) = one n - 1 := by unfold cAll; rw [en]
  have p1 : 0 < 2 ^ n := Nat.two_pow_pos n
  have p2 : 2 ^ n ≤ 2 ^ 14 := Nat.pow_le_pow_right (by decide) hn
  have ea : one n - 1 = nI (2 ^ n - 1) := by rw [one_nI (by omega), show (1 : Int32) = nI 1 from rfl, pk_sub (by omega)]
  by_cases y : (0 : Int32) ≤ v ∧ v ≤ one n - 1
  · have ww : wfS (updW (A 0) 159 v) n s t := by
      obtain ⟨b1, b2, b3, b4, b5, b6, b7, b8⟩ := ws
      refine ⟨b1, b2, b3, b4, b5, ?_, b7, b8⟩
      rw [updW_s]
      rw [ea] at y
      obtain ⟨m, hm, rfl⟩ := rng (m := 2 ^ n - 1) (by omega) y
      exact nI_low (by omega)
    refine stp_wall (w' := updW (A 0) 159 v) (r := A 0 159) wf ⟨n, s, t, ww, wfT_same (fun i h1 h2 => updW_n (by omega)) wt, wfI_same (fun i j hi hj => updW_n (by omega)) (updW_n (by omega)) (updW_n (by omega)) wi, wfL_same (fun i h1 => updW_n (by omega)) wl⟩ (fun i h1 h2 => updW_n (by omega)) (fun d a h hd p => ?_) (fun d c h hd p => ?_)
    · have e3 : hI h o_wall 3 = nI n := p.1.1.1.2.2.1.trans en
      refine sX11_stand rfl (wcV m_allStones (wcS m_isPart (And.intro (fun q1 => eX11_stand (And.intro (Or.inr rfl) (wcV x_accept (wallX_f keepQ_r p.1.1.1.2.2.2.2.1 (wF_num (k := 5) (by decide) p.1.1.1))))) (fun q1 => absurd ?_ (b2i_0.mp q1)))))
      rw [e3]; exact (all_low hn).mp y
    · have := n_stand_ok (cx := cx) (d := d) (a := 0) (h := h) (s := v) (by omega) (by rw [p.1.1, ca]; exact y)
      rw [p.1.1] at this
      exact M_mono this (wallM_w p)
  · refine stp_ref (n := 1) (j := 0) (k := -1) (by decide) (Or.inl ⟨rfl, rfl⟩) wf (fun d a h hd p => ?_) (fun d c h hd p => n_stand_no (by omega) (by rw [p.1.1, ca]; exact y))
    have e3 : hI h o_wall 3 = nI n := p.1.1.1.2.2.1.trans en
    refine sX11_stand rfl (wcV m_allStones (wcS m_isPart (And.intro (fun q1 => absurd ((all_low hn).mpr (by have := b2i_n q1; rw [e3] at this; exact this)) y) (fun q1 => wcV (x_refuse1 (by omega)) ⟨rfl, rfl⟩))))
/-! take -/
theorem s_take (wf : wfA A) {x : Int32} : stp cx jX11_take jX12_take [.int x] A := by
  obtain ⟨n, s, t, ws, wt, wi, wl⟩ := id wf.1
  obtain ⟨hn, en, lT⟩ := wfS_n ws
  have px := part_x (x := x) hn lT
  by_cases y : cPart (A 0) x
  · generalize eF : fallA (aU (A 0) (lawOf (A 0))) (dif (A 0 159) x) = F
    have sF : sub F (A 0 159) := by rw [← eF]; exact sub_t (it_sub 22 _) sub_dif
    have ww : wfS (updW (A 0) 159 F) n s t := by
      obtain ⟨b1, b2, b3, b4, b5, b6, b7, b8⟩ := ws
      exact ⟨b1, b2, b3, b4, b5, low_sub sF lT, b7, b8⟩
    refine stp_wall (w' := updW (A 0) 159 F) (r := onesR (A 0 159) 22 - onesR F 22) wf ⟨n, s, t, ww, wfT_same (fun i h1 h2 => updW_n (by omega)) wt, wfI_same (fun i j hi hj => updW_n (by omega)) (updW_n (by omega)) (updW_n (by omega)) wi, wfL_same (fun i h1 => updW_n (by omega)) wl⟩ (fun i h1 h2 => updW_n (by omega)) (fun d a h hd p => ?_) (fun d c h hd p => ?_)
    · have eT0 : hI h (ly_rf o_x 0) 5 = A 0 159 := p.1.1.1.2.2.2.2.1
      refine sX11_take rfl (wcS m_isPart (And.intro (fun q1 => (eX11_take (wcQ (x_refresh (by omega) p ws wt wi) (fun u G z => ?_) (fun u G z => keepQ_N z.2.1)))) (fun q1 => absurd (by rw [eT0]; exact px.mp y) (b2i_0.mp q1))))
      obtain ⟨rfl, kq, fr⟩ := z
      have eT : hI G (ly_rf o_x 0) 5 = A 0 159 := (wX_T fr.2.1).1
      have ll : low n (dif (A 0 159) x) := low_sub sub_dif lT
      have se : M cx jX2_settled (d - 1) 0 [.ref o_frame, .int (hI G (ly_rf o_x 0) 5 &&& (x ^^^ -1))] G (RQ (.int F) G) := by
        rw [eT, ← eF, ← set_fall fr.2.1 ll]; exact m_settled (by omega)
      refine wcV se (And.intro (Or.inr rfl) (wcS m_bitCount (wcV x_accept (wallX_f kq ?_ (wF_num (k := 5) (by decide) fr.2.1.1)))))
      have e5 : hI (wI (wI G o_wall 5 F) o_x 12 1) (ly_rf o_x 0) 5 = F := by rw [rd_o (by decide)]; exact rd_same
      show bcw (hI G (ly_rf o_x 0) 5 &&& (hI (wI (wI G o_wall 5 F) o_x 12 1) (ly_rf o_x 0) 5 ^^^ -1)) = _
      rw [eT, e5, bcw_ones (low_le (by omega) (low_sub sub_dif lT)), ones_sz, ones_sz, ones_sz, pk_sub (sz_sub sF), ← sz_dif sF, Nat.add_sub_cancel]
    · refine M_mono (n_take_ok (by omega) p.1.1 wf.1 p.2 en hn lT y) ?_
      rintro v g ⟨G, k1, k2, rfl, rfl⟩
      rw [eF]
      exact ⟨rfl, G, wI G o_m_kept 159 F, k1, k2, by rw [kW_w, keepM_W k1, p.1.1], rfl, fun o k ho => rd_o ho, rfl⟩
  · refine stp_ref (n := 1) (j := 0) (k := -1) (by decide) (Or.inl ⟨rfl, rfl⟩) wf (fun d a h hd p => ?_) (fun d c h hd p => n_take_no (by omega) (by rw [p.1.1]; exact y))
    have eT0 : hI h (ly_rf o_x 0) 5 = A 0 159 := p.1.1.1.2.2.2.2.1
    exact sX11_take rfl (wcS m_isPart (And.intro (fun q1 => absurd (px.mpr (by have := b2i_n q1; rw [eT0] at this; exact this)) y) (fun q1 => wcV (x_refuse1 (by omega)) ⟨rfl, rfl⟩)))
end T997
