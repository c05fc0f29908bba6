/-! law on both sides: one theorem -/
noncomputable def rdQx (h1 : Hp) (b : Nat → Int32) (n N : Nat) : Option Value → Hp → Prop := fun v g => ((pLaw (tC b n) (tV b n) N).1 = false ∧ v = some .null ∧ keepG h1 g ∧ hI g o_reader 9 = nI (tkS b n (pLaw (tC b n) (tV b n) N).2.1)) ∨ ((pLaw (tC b n) (tV b n) N).1 = true ∧ v = some (.ref (126 + 3 * hN h1)) ∧ ∃ g0 m, g = newH g0 m (pLaw (tC b n) (tV b n) N).2.2.length ∧ keepG h1 g0 ∧ hI g0 o_reader 9 = -1 ∧ m ≤ 400 ∧ clsI (hI g0 o_reader_steps) (hI g0 o_reader_starts) m (pLaw (tC b n) (tV b n) N).2.2 ∧ (pLaw (tC b n) (tV b n) N).2.2.length ≤ 12)
theorem sk_ref : ∀ o, o < 126 → (ly_sk o = 24 ∨ ly_sk o = 25) → (o = 77 ∧ ly_al o = 2) ∨ ((o = 70 ∨ o = 73 ∨ o = 76) ∧ ly_al o = 6) := by decide +kernel
section T999996
variable {cx : Cx} {d a c : Nat} {h g f : Hp} {w w' : Wd} {A : Ab} {n s t N : Nat} {b : Nat → Int32}
theorem keepG_N (q : keepG h g) : hN g = hN h := congrArg (fun z => z.2.2.2) q.1
theorem keepG_R (q : keepG h g) (o k : Nat) : hR g o k = hR h o k := congrArg (fun z => z.2.1 o k) q.1
theorem ref_RX (p : RX A h) : refOk h := fun o ho hk k hkl v hv => by
  rcases sk_ref o ho hk with ⟨rfl, e⟩ | ⟨e1, e⟩
  · rw [e] at hkl
    have := p.2.1.2.1 k hkl
    have hv : hR h o_images k = some v := hv
    rw [this] at hv; cases hv; omega
  · rw [e] at hkl
    rcases e1 with rfl | rfl | rfl
    · have l : lawp h v := p.1.1.2.1 k hkl v hv
      exact l.2.1
    · exact (p.2.1.2.2 0 (by decide) k hkl v hv).2.1
    · exact (p.2.1.2.2 1 (by decide) k hkl v hv).2.1
theorem x_read (hd : 46 ≤ d) (hn : n ≤ 400) (hB : ∀ j, j < 400 → hI h o_tape_bytes j = b j) (hb : isBy b) (hN' : N ≤ n) (tN : tkS b n N = n) (tl : ∀ t, t < N → tkS b n t < n) (rf : refOk h) : M cx jX5_read d 1 [.ref o_reader, .int (nI n)] h (rdQx h b n N) := by
  refine rk_read hd hn hB hb hN' tN tl (fun g k e z => Or.inl ⟨z, rfl, k, e⟩) (fun g m l4 k e6 hm e9 ok ci c1 c12 => ?_)
  have eN := keepG_N k
  refine e_newLaw (by omega) (Nat.le_refl _) e6 (by omega) c12 (fun o ho hk j hj v hv => ?_) (Or.inr ⟨ok, by rw [eN], g, m, rfl, k, e9, by omega, ci, c12⟩)
  rw [eN]; exact rf o ho hk j hj v ((keepG_R k o j).symm.trans hv)
theorem wfA_t0 (wf : wfA A) : wfA (up2 A 5 0 0) := by
  obtain ⟨q1, q2, q3, q4, q5⟩ := wf
  refine ⟨q1, fun k hk => ?_, ⟨0, by decide, by rw [up2_s]; rfl⟩, q4, q5⟩
  rw [up2_o (by omega), up2_o (by omega)]; exact q2 k hk
theorem wfA_f1 {v : Int32} (wf : wfA A) : wfA (up2 A 5 1 v) := by
  refine wfA_c wf (by rw [up2_o (by decide)]) (fun k hk => by rw [up2_o (by omega)]) (by rw [up2_o (by decide)]) (by rw [up2_o (by decide)]) (by rw [up2_n (by decide)]) (by rw [up2_o (by decide)])
theorem RX_t0 (p : RX A h) : RX (up2 A 5 0 0) (wI h o_tape 1 0) := by
  obtain ⟨-, -, -, p4, p5, p6, p7, p8, p9, p14, p15⟩ := id p.1
  refine ⟨RXd_c p.1 (by rw [up2_o (by decide)]) (fun k hk => by rw [up2_o (by omega)]) (by rw [up2_o (by decide)]) rfl (fun o k ho => rd_o (by show o ≠ 79; omega)) (fun k hk => (rd_o (by decide)).trans (p4 k hk)) rd_same ((rd_o (by decide)).trans p6) ((rd_o (by decide)).trans p7) ((rd_o (by decide)).trans p8) ?_ (fun k hk => (rd_o (by decide)).trans (p14 k hk)) ((rd_o (by decide)).trans p15), ?_⟩
  · rw [rd_o (by decide), rd_o (by decide), rd_o (by decide), rd_o (by decide), rd_o (by decide)]; exact p9
  · rw [up2_o (by decide)]
    exact cX_c p.2 (fun o k ho => rd_o (by show o ≠ 79; omega)) (fun _ _ => rfl) (imR_e rfl)
/-- a text that is no law: the fault is kept -/
theorem RX_bad {v : Int32} (p : RX A h) (k : keepG h g) : RX (up2 A 5 1 v) (wI g o_x 10 v) := by
  obtain ⟨-, -, -, p4, p5, p6, p7, p8, ⟨r1, r2, r3, r4, r5⟩, p14, p15⟩ := id p.1
  have e : ∀ o j, ¬ (o = 64 ∧ j = 10) → o ≠ 81 → o ≠ 82 → o ≠ 83 → hI (wI g o_x 10 v) o j = hI h o j := fun o j n1 n2 n3 n4 => by rw [rd_any, if_neg n1]; exact k.2 o j n2 n3 n4
  refine ⟨RXd_c p.1 (by rw [up2_o (by decide)]) (fun k hk => by rw [up2_o (by omega)]) (by rw [up2_o (by decide)]) (congrArg (fun z => z.2) k.1) (fun o k ho => e o k (by omega) (by omega) (by omega) (by omega)) (fun k hk => (e _ _ (fun z => absurd z.1 (by decide)) (by decide) (by decide) (by decide)).trans (p4 k hk)) ?_ ?_ ?_ ?_ ⟨?_, ?_, ?_, ?_, ?_⟩ (fun k hk => (e _ _ (fun z => absurd z.1 (by decide)) (by decide) (by decide) (by decide)).trans (p14 k hk)) ((e _ _ (by decide) (by decide) (by decide) (by decide)).trans p15), ?_⟩
  · rw [up2_n (by decide), e _ _ (by decide) (by decide) (by decide) (by decide)]; exact p5
  · rw [up2_s, rd_same]
  · rw [up2_n (by decide), e _ _ (by decide) (by decide) (by decide) (by decide)]; exact p7
  · rw [up2_n (by decide), e _ _ (by decide) (by decide) (by decide) (by decide)]; exact p8
  · rw [up2_o (by decide), e _ _ (by decide) (by decide) (by decide) (by decide)]; exact r1
  · rw [up2_o (by decide), e _ _ (by decide) (by decide) (by decide) (by decide)]; exact r2
  · rw [up2_o (by decide), e _ _ (by decide) (by decide) (by decide) (by decide)]; exact r3
  · rw [up2_o (by decide), e _ _ (by decide) (by decide) (by decide) (by decide)]; exact r4
  · rw [up2_o (by decide), e _ _ (by decide) (by decide) (by decide) (by decide)]; exact r5
  · rw [up2_o (by decide)]
    exact cX_c p.2 (fun o j ho => e o j (by omega) (by omega) (by omega) (by omega)) (fun o j => congrArg (fun z => z.1 o j) k.1) (imR_e (congrArg (fun z => z.2) k.1))
def goodG (g0 : Hp) (m c t : Nat) : Hp := wI (wI (wR (wI (newH g0 m c) o_x 10 (-1)) o_wall_laws t (some (126 + 3 * hN g0))) o_wall 6 (nI (t + 1))) o_x 9 0
/-- a law that is one: it stands in the wall -/
theorem RX_new {C V : Nat → Int32} {g0 : Hp} {m : Nat} (p : RX A h) (k : keepG h g0) (ht : t < 6) (hN' : N ≤ 400) (hC : ∀ k, N ≤ k → C k = 0) (hV : ∀ k, N ≤ k → V k = 0) (ws : wfS (A 0) n s t) (wl : wfL (A 0) t) (hm : m ≤ 400) (h12 : (pLaw C V N).2.2.length ≤ 12) (ci : clsI (hI g0 o_reader_steps) (hI g0 o_reader_starts) m (pLaw C V N).2.2) : RX (goodA (up1 (up2 A 5 1 (-1)) 0 (lawW (A 0) t N C V))) (goodG g0 m (pLaw C V N).2.2.length t) ∧ keepMd h (goodG g0 m (pLaw C V N).2.2.length t) := by
  obtain ⟨⟨⟨p1, p1'⟩, p2, p3, p4, p5, p6, p7, p8, ⟨r1, r2, r3, r4, r5⟩, p14, p15⟩, pc⟩ := id p
  generalize hcs : (pLaw C V N).2.2 = cs at *
  have eN : hN g0 = hN h := keepG_N k
  generalize hG : goodG g0 m cs.length t = G
  have lo : ∀ o j, o < 126 + 3 * hN h → o ≠ 81 → o ≠ 82 → o ≠ 83 → ¬ (o = 64 ∧ (j = 9 ∨ j = 10)) → ¬ (o = 65 ∧ j = 6) → hI G o j = hI h o j := fun o j h1 n1 n2 n3 n4 n5 => by
    rw [← hG]; unfold goodG
    rw [rd_any, if_neg (fun z => n4 ⟨z.1, Or.inl z.2⟩), rd_any, if_neg n5]
    show hI (wI (newH g0 m cs.length) o_x 10 (-1)) o j = _
    rw [rd_any, if_neg (fun z => n4 ⟨z.1, Or.inr z.2⟩), newH_I (by omega)]
    exact k.2 o j n1 n2 n3
  have x9 : hI G o_x 9 = 0 := by rw [← hG]; unfold goodG; exact rd_same
  have x10 : hI G o_x 10 = -1 := by
    rw [← hG]; unfold goodG
    rw [rd_k (by decide), rd_o (by decide)]
    show hI (wI (newH g0 m cs.length) o_x 10 (-1)) o_x 10 = _
    exact rd_same
  have w6 : hI G o_wall 6 = nI (t + 1) := by rw [← hG]; unfold goodG; rw [rd_o (by decide), rd_same]
  have R : ∀ o j, hR G o j = if o = 70 ∧ j = t then some (126 + 3 * hN h) else hR h o j := fun o j => by
    rw [← hG]; unfold goodG
    show up2 (newH g0 m cs.length).2.2.1 o_wall_laws t (some (126 + 3 * hN g0)) o j = _
    unfold up2
    by_cases e1 : o = 70
    · rw [if_pos e1]
      by_cases e2 : j = t
      · rw [if_pos e2, if_pos ⟨e1, e2⟩, eN]
      · rw [if_neg e2, if_neg (fun z => e2 z.2)]; exact keepG_R k o j
    · rw [if_neg e1, if_neg (fun z => e1 z.1)]; exact keepG_R k o j
  have L : ∀ o, o < 126 + 3 * hN h → hL G o = hL h o := fun o ho => by
    rw [← hG]; unfold goodG
    show hL (newH g0 m cs.length) o = _
    rw [newH_L (by omega)]
    exact congrArg (fun z => z.2.2.1 o) k.1
  have NN : hN G = hN h + 1 := by rw [← hG]; show hN g0 + 1 = _; rw [eN]
  have J : ∀ o j, hJ G o j = hJ h o j := fun o j => by rw [← hG]; exact congrArg (fun z => z.1 o j) k.1
  have lp : ∀ o, lawp h o → lawp G o := fun o l => ⟨l.1, by rw [NN]; have := l.2.1; omega, l.2.2⟩
  have mn : ∀ o cs, lawMean h o cs → lawMean G o cs := fun o cs q => mean_n (fun p j h1 h2 => lo p j h2 (by omega) (by omega) (by omega) (by omega) (by omega)) (fun p h1 h2 => L p h2) (by omega) q
  -- the new law's cells
  have n0 : ∀ j, hI G (126 + 3 * hN h) j = if j = 2 then nI cs.length else 0 := fun j => by
    rw [← hG, ← eN]; unfold goodG
    rw [rd_o (by show 126 + 3 * hN g0 ≠ 64; omega), rd_o (by show 126 + 3 * hN g0 ≠ 65; omega)]
    show hI (wI (newH g0 m cs.length) o_x 10 (-1)) (126 + 3 * hN g0) j = _
    rw [rd_o (by show 126 + 3 * hN g0 ≠ 64; omega)]; exact newH_0
  have n1 : ∀ j, hI G (127 + 3 * hN h) j = cpy (hI g0 o_reader_steps) m j := fun j => by
    rw [← hG, ← eN]; unfold goodG
    rw [rd_o (by show 127 + 3 * hN g0 ≠ 64; omega), rd_o (by show 127 + 3 * hN g0 ≠ 65; omega)]
    show hI (wI (newH g0 m cs.length) o_x 10 (-1)) (127 + 3 * hN g0) j = _
    rw [rd_o (by show 127 + 3 * hN g0 ≠ 64; omega)]; exact newH_1
  have n2 : ∀ j, hI G (128 + 3 * hN h) j = upd (cpy (hI g0 o_reader_starts) (2 * cs.length)) (2 * cs.length) (nI m) j := fun j => by
    rw [← hG, ← eN]; unfold goodG
    rw [rd_o (by show 128 + 3 * hN g0 ≠ 64; omega), rd_o (by show 128 + 3 * hN g0 ≠ 65; omega)]
    show hI (wI (newH g0 m cs.length) o_x 10 (-1)) (128 + 3 * hN g0) j = _
    rw [rd_o (by show 128 + 3 * hN g0 ≠ 64; omega)]; exact newH_2
  have l1 : hL G (127 + 3 * hN h) = m := by rw [← hG, ← eN]; exact newH_L1
  have l2 : hL G (128 + 3 * hN h) = 2 * cs.length + 1 := by rw [← hG, ← eN]; exact newH_L2
  have lnew : lawp G (126 + 3 * hN h) := ⟨by omega, by rw [NN]; omega, by omega⟩
  have mnew : lawMean G (126 + 3 * hN h) cs := by
    refine law_mean (T := hI g0 o_reader_steps) (ST := hI g0 o_reader_starts) (m := m) lnew (by rw [show 126 + 3 * hN h + 1 = 127 + 3 * hN h by omega]; exact l1) (by rw [show 126 + 3 * hN h + 2 = 128 + 3 * hN h by omega]; exact l2) hm h12 (fun i hi => ?_) (fun i hi => ?_) ?_ (by rw [n0, if_pos rfl]) ci
    · rw [show 126 + 3 * hN h + 1 = 127 + 3 * hN h by omega, n1]; unfold cpy; rw [if_pos hi]
    · rw [show 126 + 3 * hN h + 2 = 128 + 3 * hN h by omega, n2]; unfold upd cpy; rw [if_neg (by omega), if_pos hi]
    · rw [show 126 + 3 * hN h + 2 = 128 + 3 * hN h by omega, n2]; unfold upd; rw [if_pos rfl]
  have w0 : goodA (up1 (up2 A 5 1 (-1)) 0 (lawW (A 0) t N C V)) 0 = lawW (A 0) t N C V := by unfold goodA; rw [up2_o (by decide)]; exact if_pos rfl
  have wo : ∀ i, i ≠ 0 → i ≠ 5 → goodA (up1 (up2 A 5 1 (-1)) 0 (lawW (A 0) t N C V)) i = A i := fun i h1 h2 => by
    unfold goodA; rw [up2_o h2]; show (if i = 0 then _ else _) = _; rw [if_neg h1, up2_o h2]
  have w5 : ∀ j, j ≠ 3 → goodA (up1 (up2 A 5 1 (-1)) 0 (lawW (A 0) t N C V)) 5 j = up2 A 5 1 (-1) 5 j := fun j hj => by
    unfold goodA; rw [up2_n hj]; rfl
  have lwe : ∀ k, k < 160 → lawW (A 0) t N C V k = A 0 k := fun k hk => lw_lo ht (Or.inl hk)
  obtain ⟨a1, a2, a3, a4, a5, a6, a7, a8⟩ := id ws
  have oldw : ∀ f, f < t → nOf (A 0) f ≤ 400 := fun f hf => (wl f hf).2.1
  refine ⟨⟨⟨⟨?_, ?_⟩, fun j hj z => ?_, fun j hj => ?_, fun j hj => ?_, ?_, ?_, ?_, ?_, ⟨?_, ?_, ?_, ?_, ?_⟩, fun j hj => ?_, ?_⟩, ?_⟩, fun o j h1 h2 => lo o j (by omega) (by omega) (by omega) (by omega) (by omega) (by omega)⟩
  · rw [w0]
    obtain ⟨f1, f2, f3, f4, f5, f6, f7⟩ := p1
    refine ⟨fun j hj => ?_, fun j hj => ?_, ?_, ?_, ?_, ?_, ?_⟩
    · rw [lwe _ (by omega), lo _ _ (by show 68 < _; omega) (by decide) (by decide) (by decide) (fun z => absurd z.1 (by decide)) (fun z => absurd z.1 (by decide))]; exact f1 j hj
    · rw [lwe _ (by omega), lo _ _ (by show 69 < _; omega) (by decide) (by decide) (by decide) (fun z => absurd z.1 (by decide)) (fun z => absurd z.1 (by decide))]; exact f2 j hj
    · rw [lwe _ (by decide), lo _ _ (by show 65 < _; omega) (by decide) (by decide) (by decide) (fun z => absurd z.1 (by decide)) (by decide)]; exact f3
    · rw [lwe _ (by decide), lo _ _ (by show 65 < _; omega) (by decide) (by decide) (by decide) (fun z => absurd z.1 (by decide)) (by decide)]; exact f4
    · rw [lwe _ (by decide), lo _ _ (by show 65 < _; omega) (by decide) (by decide) (by decide) (fun z => absurd z.1 (by decide)) (by decide)]; exact f5
    · rw [w6]; unfold lawW; rw [updW_s]
    · rw [lw_lo ht (Or.inr rfl), lo _ _ (by show 65 < _; omega) (by decide) (by decide) (by decide) (fun z => absurd z.1 (by decide)) (by decide)]; exact f7
  · rw [w0]
    refine ⟨fun j hj o ho => ?_, fun t' et' ht' f hf => ?_⟩
    · have ho : hR G 70 j = some o := ho
      rw [R] at ho
      by_cases e : j = t
      · rw [if_pos ⟨rfl, e⟩] at ho; cases ho; exact lnew
      · rw [if_neg (fun z => e z.2)] at ho; exact lp _ (p1'.1 j hj o ho)
    · have tt : t' = t + 1 := by
        have e : lawW (A 0) t N C V 160 = nI (t + 1) := by unfold lawW; rw [updW_s]
        exact (nI_eq (by omega) (by omega)).mp (et'.symm.trans e)
      by_cases e : f = t
      · subst e
        refine ⟨126 + 3 * hN h, by show hR G 70 f = _; rw [R, if_pos ⟨rfl, rfl⟩], ?_⟩
        obtain ⟨e1, e2, e3⟩ := lw_new (w := A 0) ht hN' hC hV
        unfold csOf; rw [e1, e2, e3, hcs]; exact mnew
      · obtain ⟨o, ho, lm⟩ := p1'.2 t a7 a3 f (by omega)
        refine ⟨o, by show hR G 70 f = _; rw [R, if_neg (fun z => e z.2)]; exact ho, ?_⟩
        rw [lw_cs ht (by omega) hN' (oldw f (by omega))]; exact mn o _ lm
  · rw [wo 3 (by decide) (by decide)] at z
    rw [wo (1 + j) (by omega) (by omega)]
    obtain ⟨q1, q2⟩ := p2 j hj z
    refine ⟨wF_c (fun o i ho => lo o i (by omega) (by omega) (by omega) (by omega) (by omega) (by omega)) q1, fun i hi o ho => ?_, fun t' et' ht' f hf => ?_⟩
    · rw [R, if_neg (by omega)] at ho; exact lp _ (q2.1 i hi o ho)
    · obtain ⟨o, ho, lm⟩ := q2.2 t' et' ht' f hf
      exact ⟨o, by rw [R, if_neg (by omega)]; exact ho, mn o _ lm⟩
  · rw [wo 3 (by decide) (by decide), lo _ _ (by show 78 < _; omega) (by decide) (by decide) (by decide) (fun z => absurd z.1 (by decide)) (fun z => absurd z.1 (by decide))]; exact p3 j hj
  · rw [wo 4 (by decide) (by decide), lo _ _ (by show 80 < _; omega) (by decide) (by decide) (by decide) (fun z => absurd z.1 (by decide)) (fun z => absurd z.1 (by decide))]; exact p4 j hj
  · rw [w5 0 (by decide), up2_n (by decide), lo _ _ (by show 79 < _; omega) (by decide) (by decide) (by decide) (fun z => absurd z.1 (by decide)) (fun z => absurd z.1 (by decide))]; exact p5
  · rw [w5 1 (by decide), up2_s]; exact x10
  · rw [w5 2 (by decide), up2_n (by decide), lo _ _ (by show 64 < _; omega) (by decide) (by decide) (by decide) (by decide) (fun z => absurd z.1 (by decide))]; exact p7
  · rw [x9]; exact up2_s.symm
  · rw [wo 6 (by decide) (by decide), lo _ _ (by show 103 < _; omega) (by decide) (by decide) (by decide) (fun z => absurd z.1 (by decide)) (fun z => absurd z.1 (by decide))]; exact r1
  · rw [wo 6 (by decide) (by decide), lo _ _ (by show 103 < _; omega) (by decide) (by decide) (by decide) (fun z => absurd z.1 (by decide)) (fun z => absurd z.1 (by decide))]; exact r2
  · rw [wo 6 (by decide) (by decide), lo _ _ (by show 103 < _; omega) (by decide) (by decide) (by decide) (fun z => absurd z.1 (by decide)) (fun z => absurd z.1 (by decide))]; exact r3
  · rw [wo 6 (by decide) (by decide), lo _ _ (by show 103 < _; omega) (by decide) (by decide) (by decide) (fun z => absurd z.1 (by decide)) (fun z => absurd z.1 (by decide))]; exact r4
  · rw [wo 6 (by decide) (by decide), lo _ _ (by show 103 < _; omega) (by decide) (by decide) (by decide) (fun z => absurd z.1 (by decide)) (fun z => absurd z.1 (by decide))]; exact r5
  · rw [wo 7 (by decide) (by decide), lo _ _ (by show 102 < _; omega) (by decide) (by decide) (by decide) (fun z => absurd z.1 (by decide)) (fun z => absurd z.1 (by decide))]; exact p14 j hj
  · rw [wo 8 (by decide) (by decide), lo _ _ (by show 101 < _; omega) (by decide) (by decide) (by decide) (fun z => absurd z.1 (by decide)) (fun z => absurd z.1 (by decide))]; exact p15
  · rw [w0]
    have im : imR G := by
      refine ⟨fun j hj => ?_, fun i hi j hj o ho => ?_⟩
      · show hR G 77 j = _; rw [R, if_neg (by omega)]; exact pc.1.2.1 j hj
      · rw [R, if_neg (by omega)] at ho; exact lp _ (pc.1.2.2 i hi j hj o ho)
    have hfl : ∀ cs', lawOf (A 0) = some cs' → ∃ o, lawMean h o cs' := fun cs' z => by
      rcases force_law p1 p1' ws with ⟨-, -, y⟩ | ⟨o, cs2, -, y, lm⟩
      · rw [y] at z; cases z
      · rw [y] at z; cases z; exact ⟨o, lm⟩
    have same : cX (A 0) (wI h o_x 12 (hI h o_x 12)) → cX (A 0) G := fun q => cX_c q (fun o j ho => ?_) (fun o j => J o j) (fun _ => im)
    · have ih : wI h o_x 12 (hI h o_x 12) = h := by
        unfold wI
        show (up2 h.1 o_x 12 (h.1 o_x 12), h.2) = h
        have : up2 h.1 o_x 12 (h.1 o_x 12) = h.1 := by
          funext p q; unfold up2
          by_cases e1 : p = o_x
          · by_cases e2 : q = 12
            · rw [if_pos e1, if_pos e2, e1, e2]
            · rw [if_pos e1, if_neg e2]
          · rw [if_neg e1]
        rw [this]
      rw [ih] at same
      have q := same pc
      refine ⟨q.1, fun z => ?_⟩
      obtain ⟨q1, q2⟩ := q.2 z
      rw [lw_force ht hN' ws wl, aU_e lwe hfl]
      refine ⟨fOk_e lwe hfl q1, fun n' s' t' wf' => ?_⟩
      have wn : n' = n ∧ s' = s := by
        have b4 := wf'.2.2.2.1
        have b5 := wf'.2.2.2.2.1
        rw [lwe _ (by decide)] at b4 b5
        have h1 := wf'.1
        have h2 := wf'.2.1
        exact ⟨(nI_eq (by omega) (by omega)).mp (b4.symm.trans a4), (nI_eq (by omega) (by omega)).mp (b5.symm.trans a5)⟩
      obtain ⟨rfl, rfl⟩ := wn
      exact thOk_e lwe a1 (q2 n' s' t ws)
    · rw [rd_any]
      by_cases e : o = o_x ∧ j = 12
      · rw [if_pos e, e.1, e.2]; exact lo _ _ (by show 64 < _; omega) (by decide) (by decide) (by decide) (by decide) (fun z => absurd z.1 (by decide))
      · rw [if_neg e]; exact lo o j (by omega) (by omega) (by omega) (by omega) (by omega) (by omega)
end T999996
