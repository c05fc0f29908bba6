/-! gate and count on both sides -/
section T993
variable {cx : Cx} {d a c : Nat} {h g f : Hp} {w : Wd} {A : Ab} {n s t : Nat}
theorem sz_dif {T x : Int32} (q : sub x T) : sz (dif T x) + sz x = sz T := by
  have : ∀ m, m ≤ 22 → fb_ct (bt (dif T x)) m + fb_ct (bt x) m = fb_ct (bt T) m := by
    intro m
    induction m with
    | zero => intro _; rfl
    | succ m ih =>
      intro hm
      have i := ih (by omega)
      rw [fb_ct_succ, fb_ct_succ, fb_ct_succ, bt_dif (by omega)]
      cases b : bt x m
      · cases bt T m <;> simp <;> omega
      · rw [q m (by omega) b]; simp; omega
  exact this 22 (by decide)
theorem gate_cov {k : Nat} {X Y U V : Nat} (qf : wFm w h) (bk : box w k) (hk : k < 22) (h1 : X ≤ U) (h2 : U ≤ 11) (h3 : Y ≤ V) (h4 : V ≤ 7) : fCov h (nI k) (nI X) (nI Y) (nI U - nI X + 1) (nI V - nI Y + 1) ↔ gtP w (nI X) (nI Y) (nI U) (nI V) k := by
  rw [pk_sub h1, pk_sub h3, show (1 : Int32) = nI 1 from rfl, nI_add, nI_add]
  rw [fcov_int qf bk hk (nI_toInt (by omega)) (nI_toInt (by omega)) (nI_toInt (by omega)) (nI_toInt (by omega)) (by omega) (by omega)]
  obtain ⟨x1, x2, x3, x4, x5, x6, x7, x8, x9, x10⟩ := box_X bk
  unfold gtP
  rw [x1, x2, x3, x4, nI_add, nI_add, nI_leI (by omega) (by omega), nI_ltI (by omega) (by omega), nI_leI (by omega) (by omega), nI_ltI (by omega) (by omega)]
  omega
theorem s_gate (wf : wfA A) {x y u v q : Int32} : stp cx jX11_gate jX12_gate [.int x, .int y, .int u, .int v, .int q] A := by
  obtain ⟨n, s, t, ws, wt, wi, wl⟩ := id wf.1
  obtain ⟨hn, en, lT⟩ := wfS_n ws
  by_cases yb : (0 ≤ x ∧ x ≤ u ∧ u ≤ 11) ∧ (0 ≤ y ∧ y ≤ v ∧ v ≤ 7)
  · obtain ⟨⟨b1, b2, b3⟩, b4, b5, b6⟩ := yb
    obtain ⟨U, hU, rfl⟩ := rng (m := 11) (by decide) ⟨Int32.le_trans b1 b2, b3⟩
    obtain ⟨X, hX, rfl⟩ := rng (m := U) (by omega) ⟨b1, b2⟩
    obtain ⟨V, hV, rfl⟩ := rng (m := 7) (by decide) ⟨Int32.le_trans b4 b5, b6⟩
    obtain ⟨Y, hY, rfl⟩ := rng (m := V) (by omega) ⟨b4, b5⟩
    have X : ∀ r d a h, 200 ≤ d → (0 ≤ q ∧ q ≤ 2 → gatA (A 0) (aU (A 0) (lawOf (A 0))) n (nI X) (nI Y) (nI U) (nI V) q = r) → (¬ (0 ≤ q ∧ q ≤ 2) → (-1 : Int32) = r) → RX A h → M cx jX11_gate d a [.ref o_x, .int (nI X), .int (nI Y), .int (nI U), .int (nI V), .int q] h (xQ A r h) := fun r d a h hd hr hr2 p => by
      have eT0 : hI h (ly_rf o_x 0) 5 = A 0 159 := p.1.1.1.2.2.2.2.1
      have eS : hI h (ly_rf o_x 0) 3 = nI n := p.1.1.1.2.2.1.trans en
      generalize eP : gtP (A 0) (nI X) (nI Y) (nI U) (nI V) = P
      have eB : bitsR P n &&& A 0 159 = bitsR (fun k => P k ∧ bt (A 0 159) k = true) n := b_ext fun i hi => by
        rw [Bool.eq_iff_iff, b_and, Bool.and_eq_true, bit_of_bitsR n i (by omega) hi, bit_of_bitsR n i (by omega) hi]
        exact ⟨fun z => ⟨z.1.1, z.1.2, z.2⟩, fun z => ⟨⟨z.1, z.2.1⟩, z.2.2⟩⟩
      have loop : ∀ m k, m + k = n → E cx jX11_gate d a 40 [some (.ref o_x), some (.int (nI X)), some (.int (nI Y)), some (.int (nI U)), some (.int (nI V)), some (.int q), some (.int (bitsR P k)), some (.int (nI k))] [] h (xQ A r h) := by
        intro m
        induction m with
        | zero =>
          intro k hk
          obtain rfl : k = n := by omega
          refine eX11_gate (And.intro (fun _ => ?_) (fun z => absurd (by rw [eS]; exact Int32.le_refl _) z))
          refine eX11_gate (wcQ (x_refresh (by omega) p ws wt wi) (fun u G z => ?_) (fun u G z => keepQ_N z.2.1))
          obtain ⟨rfl, kq, fr⟩ := z
          have eT : hI G (ly_rf o_x 0) 5 = A 0 159 := (wX_T fr.2.1).1
          have lb : sub (bitsR (fun k => P k ∧ bt (A 0 159) k = true) k) (A 0 159) := fun i hi z => ((bit_of_bitsR k i (by omega) hi).mp z).2.2
          rw [eT0, eB]
          generalize eb : bitsR (fun k => P k ∧ bt (A 0 159) k = true) k = B at lb ⊢
          have ll : low k (dif (A 0 159) B) := low_sub sub_dif lT
          have se : M cx jX2_settled (d - 1) 0 [.ref o_frame, .int (hI G (ly_rf o_x 0) 5 &&& (B ^^^ -1))] G (RQ (.int (fallA (aU (A 0) (lawOf (A 0))) (dif (A 0 159) B))) G) := by
            rw [eT, ← set_fall fr.2.1 ll]; exact m_settled (by omega)
          have eg : ∀ v, v = (if q = 0 then onesR (A 0 159) 22 - onesR (fallA (aU (A 0) (lawOf (A 0))) (dif (A 0 159) B)) 22 else if q = 1 then onesR B 22 else fallA (aU (A 0) (lawOf (A 0))) (dif (A 0 159) B)) → 0 ≤ q ∧ q ≤ 2 → v = r := fun v ev hq => by
            rw [← hr hq, ev]; unfold gatA; rw [eP, eb]
          have sf : sub (fallA (aU (A 0) (lawOf (A 0))) (dif (A 0 159) B)) (A 0 159) := sub_t (it_sub 22 _) sub_dif
          refine wcV se (And.intro (fun z => ?_) (And.intro (fun z => ?_) (And.intro (fun z => ?_) (And.intro (fun z => ?_) trivial))))
          · have nq : ¬ (0 ≤ q ∧ q ≤ 2) := fun y => by
              obtain ⟨j, hj, ej⟩ := rng (m := 2) (by decide) y
              exact z j (Nat.lt_succ_of_le hj) ej
            exact eX11_gate (x_fin' (hr2 nq) p ws kq fr)
          · subst z
            refine eX11_gate (wcS m_bitCount (x_fin' (eg _ ?_ (by decide)) p ws kq fr))
            rw [eT, if_pos (by decide), bcw_ones (low_le (by omega) (low_sub sub_dif lT)), ones_sz, ones_sz, ones_sz, pk_sub (sz_sub sf), ← sz_dif sf, Nat.add_sub_cancel]
          · subst z
            refine eX11_gate (wcS m_bitCount (x_fin' (eg _ ?_ (by decide)) p ws kq fr))
            rw [if_neg (by decide), if_pos (by decide), bcw_ones (low_le (by omega) (low_sub lb lT))]
          · subst z
            exact eX11_gate (x_fin' (eg _ (by rw [if_neg (by decide), if_neg (by decide)]) (by decide)) p ws kq fr)
        | succ m ih =>
          intro k hk
          have i := ih (k + 1) (by omega)
          rw [nI_succ] at i
          have cv := gate_cov p.1.1.1 (wi.1 k (by omega) (stone_item en hn (by omega))) (by omega) hX hU hY hV
          rw [eP] at cv
          refine eX11_gate (And.intro (fun z => absurd z (by rw [eS]; exact nI_ge (by omega) (by omega))) (fun _ => wcV (m_covers (by omega)) (And.intro (fun q2 => ?_) (fun q2 => ?_))))
          · rw [bitsR_f fun z => b2i_0.mp q2 (cv.mpr z)] at i
            exact eX11_gate i
          · rw [bitsR_t (cv.mp (b2i_n q2))] at i
            exact eX11_gate i
      refine sX11_gate rfl (And.intro (fun q1 => absurd q1 (Int32.not_lt.mpr b1)) (fun q1 => (And.intro (fun q2 => absurd q2 (Int32.not_lt.mpr b2)) (fun q2 => (And.intro (fun q3 => absurd q3 (nI_ge (b := 12) (by omega) (by decide))) (fun q3 => (And.intro (fun q4 => absurd q4 (Int32.not_lt.mpr b4)) (fun q4 => (And.intro (fun q5 => absurd q5 (Int32.not_lt.mpr b5)) (fun q5 => (And.intro (fun q6 => (eX11_gate (loop n 0 rfl))) (fun q6 => absurd (nI_lt (b := 8) (by omega) (by decide)) q6))))))))))))
    by_cases hq : 0 ≤ q ∧ q ≤ 2
    · exact stp_q (k := gatA (A 0) (aU (A 0) (lawOf (A 0))) n (nI _) (nI Y) (nI U) (nI V) q) wf (fun d a h hd p => X _ d a h hd (fun _ => rfl) (fun z => absurd hq z) p) (fun d c h hd p => n_gate_ok (by omega) p.1.1 wf.1 p.2 en hn lT ⟨⟨b1, Int32.le_trans b2 b3⟩, ⟨b2, b3⟩, ⟨b4, Int32.le_trans b5 b6⟩, ⟨b5, b6⟩, hq⟩)
    · exact stp_q (k := -1) wf (fun d a h hd p => X _ d a h hd (fun z => absurd z hq) (fun _ => rfl) p) (fun d c h hd p => M_mono (n_gate_no (by omega) fun z => hq z.2.2.2.2) (qM_same p.2))
  · refine stp_same (k := -1) wf (fun d a h hd p => ?_) (fun d c h hd p => n_gate_no (by omega) fun z => yb ⟨⟨z.1.1, z.2.1⟩, z.2.2.1.1, z.2.2.2.1⟩)
    have lt12 : ∀ {u : Int32}, ¬ 12 ≤ u → u ≤ 11 := fun {u} z => by
      have := Int32.lt_iff_toInt_lt.mp (Int32.not_le.mp z)
      rw [Int32.le_iff_toInt_le]
      have e1 : (12 : Int32).toInt = 12 := rfl
      have e2 : (11 : Int32).toInt = 11 := rfl
      omega
    have lt8 : ∀ {u : Int32}, u < 8 → u ≤ 7 := fun {u} z => by
      have := Int32.lt_iff_toInt_lt.mp z
      rw [Int32.le_iff_toInt_le]
      have e1 : (8 : Int32).toInt = 8 := rfl
      have e2 : (7 : Int32).toInt = 7 := rfl
      omega
    exact sX11_gate rfl (And.intro (fun q1 => (eX11_gate ⟨rfl, rfl⟩)) (fun q1 => (And.intro (fun q2 => (eX11_gate ⟨rfl, rfl⟩)) (fun q2 => (And.intro (fun q3 => (eX11_gate ⟨rfl, rfl⟩)) (fun q3 => (And.intro (fun q4 => (eX11_gate ⟨rfl, rfl⟩)) (fun q4 => (And.intro (fun q5 => (eX11_gate ⟨rfl, rfl⟩)) (fun q5 => (And.intro (fun q6 => absurd ⟨⟨Int32.not_lt.mp q1, Int32.not_lt.mp q2, lt12 q3⟩, Int32.not_lt.mp q4, Int32.not_lt.mp q5, lt8 q6⟩ yb) (fun q6 => (eX11_gate ⟨rfl, rfl⟩)))))))))))))
end T993
