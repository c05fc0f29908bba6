/-! end and feed on both sides -/
section T999
variable {cx : Cx} {d a c : Nat} {h g f : Hp} {w w' : Wd} {A A' : Ab} {n s t : Nat}
/-- other bytes; all else as it was, on the model's side -/
theorem RMd_c (p : RMd A h) (e0 : A' 0 = A 0) (e1 : ∀ k, k < 2 → A' (1 + k) = A (1 + k)) (e3 : A' 3 = A 3) (e6 : A' 6 = A 6) (e7 : A' 7 = A 7) (e8 : A' 8 0 = A 8 0) (eI : ∀ o k, 105 ≤ o → o ≤ 125 → o ≠ 110 → o ≠ 111 → hI g o k = hI h o k) (e4 : ∀ k, k < 400 → hI g o_m_tape k = sg (A' 4 k)) (e10 : hI g o_m 10 = A' 5 0) (e11 : hI g o_m 11 = A' 5 1) (e12 : hI g o_m 6 = A' 5 2) (e13 : hI g o_m 0 = A' 5 3) (e37 : hI g o_m 37 = hI h o_m 37) : RMd A' g := by
  obtain ⟨p1, p2, p3, p4, p5, p6, p7, p8, p9, p10, p11, p12⟩ := p
  refine ⟨?_, fun k i hk hi => ?_, fun k hk => ?_, e4, e10, e11, e12, e13, fun k hk => ?_, fun k hk => ?_, ?_, fun k hk => ?_⟩
  · rw [e0, ← p1]; exact funext fun k => eI _ _ (by decide) (by decide) (by decide) (by decide)
  · rw [e1 k hk, eI _ _ (by decide) (by decide) (by decide) (by decide)]; exact p2 k i hk hi
  · rw [e3, eI _ _ (by decide) (by decide) (by decide) (by decide)]; exact p3 k hk
  · rw [e6, eI _ _ (by decide) (by decide) (by decide) (by decide)]; exact p9 k hk
  · rw [e7, eI _ _ (by decide) (by decide) (by decide) (by decide)]; exact p10 k hk
  · rw [e8, e37]; exact p11
  · rw [eI _ _ (by decide) (by decide) (by decide) (by decide)]; exact p12 k hk
theorem mC_c (q : mC c w h) (eI : ∀ o k, 112 ≤ o → o ≤ 125 → hI g o k = hI h o k) (em : ∀ k, (k = 1 ∨ k = 21 ∨ k = 27 ∨ k = 32) → hI g o_m k = hI h o_m k) : mC c w g := by
  unfold mC vLe at *
  rw [em 21 (by decide), em 1 (by decide), em 27 (by decide), em 32 (by decide)]
  exact ⟨q.1, q.2.1, fun z => lk_keep (q.2.2.1 z) fun o k h1 h2 => eI o k (by omega) (by omega), fun z => st_keep (q.2.2.2 z) fun o k h1 h2 => eI o k (by omega) (by omega)⟩
theorem s_end (wf : wfA A) {v : Int32} : stp cx jX11_end jX12_end [.int v] A := by
  obtain ⟨t, ht, et⟩ := wf.2.2.1
  by_cases y : (0 : Int32) ≤ v ∧ v ≤ A 5 0
  · have wf' : wfA (up2 A 5 0 v) := by
      obtain ⟨q1, q2, q3, q4, q5⟩ := wf
      refine ⟨q1, fun k hk => ?_, ?_, q4, q5⟩
      · rw [up2_o (by omega), up2_o (by omega)]; exact q2 k hk
      · rw [et] at y
        obtain ⟨m, hm, e⟩ := rng (m := t) (by omega) y
        exact ⟨m, by omega, by rw [up2_s]; exact e⟩
    refine ⟨v, up2 A 5 0 v, wf', fun d a h hd _ p => ?_, fun d c h hd hc p => ?_⟩
    · obtain ⟨-, -, -, p4, p5, p6, p7, p8, p9, p14, p15⟩ := id p.1
      refine sX11_end rfl (wcS m_isWithin (And.intro (fun q1 => (eX11_end ⟨rfl, ⟨?_, ?_⟩, fun o k h1 h2 => rd_o (by show o ≠ 79; omega)⟩)) (fun q1 => absurd (show (0 : Int32) ≤ v ∧ v ≤ hI h o_tape 1 by rw [p5]; exact y) (b2i_0.mp q1))))
      · refine RXd_c p.1 (by rw [up2_o (by decide)]) (fun k hk => by rw [up2_o (by omega)]) (by rw [up2_o (by decide)]) rfl (fun o k ho => rd_o (by show o ≠ 79; omega)) (fun k hk => (rd_o (by decide)).trans (p4 k hk)) rd_same ((rd_o (by decide)).trans p6) ((rd_o (by decide)).trans p7) ((rd_o (by decide)).trans p8) ?_ (fun k hk => (rd_o (by decide)).trans (p14 k hk)) ((rd_o (by decide)).trans p15)
        rw [rd_o (by decide), rd_o (by decide), rd_o (by decide), rd_o (by decide), rd_o (by decide)]; exact p9
      · rw [up2_o (by decide)]
        exact cX_c p.2 (fun o k ho => rd_o (by show o ≠ 79; omega)) (fun _ _ => rfl) (imR_e rfl)
    · have e10 : hI h o_m 10 = A 5 0 := p.1.2.2.2.2.1
      refine M_mono (n_end_ok (by omega) (by rw [e10]; exact y)) ?_
      rintro r g ⟨rfl, rfl⟩
      refine ⟨rfl, ⟨RMd_m10 p.1, ?_⟩, keepC_w (by decide)⟩
      rw [up2_o (by decide)]
      exact mC_le (mC_c p.2 (fun o k h1 h2 => rd_o (by show o ≠ 104; omega)) (fun k hk => rd_k (by omega))) (by omega)
  · refine stp_same (k := -1) wf (fun d a h hd p => ?_) (fun d c h hd p => n_end_no (by omega) (by rw [show hI h o_m 10 = A 5 0 from p.1.2.2.2.2.1]; exact y))
    have p5 : hI h o_tape 1 = A 5 0 := p.1.2.2.2.2.1
    exact sX11_end rfl (wcS m_isWithin (And.intro (fun q1 => absurd (show (0 : Int32) ≤ v ∧ v ≤ A 5 0 by rw [← p5]; exact b2i_n q1) y) (fun q1 => ⟨rfl, rfl⟩)))
/-! feed -/
def feedA (A : Ab) (V : Nat → Int32) (t : Nat) : Ab := up2 (fun i j => if i = 4 ∧ t ≤ j ∧ j < t + 20 then fdB V (j - t) else A i j) 5 0 (nI (t + 20))
/-- n bytes have been put on the class's tape -/
def fxG (V : Nat → Int32) (t : Nat) (h g : Hp) (n : Nat) : Prop := g.2 = h.2 ∧ (∀ o j, ¬ (o = 79 ∧ j = 1) → o ≠ 80 → hI g o j = hI h o j) ∧ hI g o_tape 1 = nI (t + n) ∧ ∀ j, hI g o_tape_bytes j = if t ≤ j ∧ j < t + n then fdB V (j - t) else hI h o_tape_bytes j
theorem fx_put {V : Nat → Int32} {v x : Int32} (q : fxG V t h g n) (ev : v = V (n / 4)) (ex : x = nI (24 - 8 * (n % 4))) : fxG V t h (putB g (t + n) v x) (n + 1) := by
  obtain ⟨q1, q2, q3, q4⟩ := q
  refine ⟨q1, fun o j h1 h2 => ?_, putB_len, fun j => ?_⟩
  · unfold putB; rw [rd_any, if_neg h1, rd_o h2]; exact q2 o j h1 h2
  · unfold putB; rw [rd_o (by decide), rd_any]
    by_cases e : j = t + n
    · rw [if_pos ⟨rfl, e⟩, if_pos (by omega), ev, ex, e]; unfold fdB; rw [show t + n - t = n by omega]
    · rw [if_neg (fun z => e z.2), q4 j]
      by_cases z : t ≤ j ∧ j < t + n
      · rw [if_pos z, if_pos (by omega)]
      · rw [if_neg z, if_neg (by omega)]
theorem fx_4 {V : Nat → Int32} {i : Nat} (q : fxG V t h g (4 * i)) : fxG V t h (putB (putB (putB (putB g (t + 4 * i) (V i) 24) (t + 4 * i + 1) (V i) 16) (t + 4 * i + 2) (V i) 8) (t + 4 * i + 3) (V i) 0) (4 * (i + 1)) :=
  fx_put (n := 4 * i + 3) (fx_put (n := 4 * i + 2) (fx_put (n := 4 * i + 1) (fx_put (n := 4 * i) q (by rw [show 4 * i / 4 = i by omega]) (by rw [show 4 * i % 4 = 0 by omega]; rfl)) (by rw [show (4 * i + 1) / 4 = i by omega]) (by rw [show (4 * i + 1) % 4 = 1 by omega]; rfl)) (by rw [show (4 * i + 2) / 4 = i by omega]) (by rw [show (4 * i + 2) % 4 = 2 by omega]; rfl)) (by rw [show (4 * i + 3) / 4 = i by omega]) (by rw [show (4 * i + 3) % 4 = 3 by omega]; rfl)
theorem ub_byte {v x : Int32} : ∃ b, b < 256 ∧ ub v x = nI b := by
  refine low_nI (n := 8) (by decide) fun k hk z => ?_
  unfold ub at z
  rw [b_and, b_255] at z
  simp at z; exact z.2
theorem feed_4 {V : Nat → Int32} {k : Nat} : feedA A V t 4 k = if t ≤ k ∧ k < t + 20 then fdB V (k - t) else A 4 k := by
  unfold feedA; rw [up2_o (by decide)]
  show (if 4 = 4 ∧ t ≤ k ∧ k < t + 20 then fdB V (k - t) else A 4 k) = _
  by_cases z : t ≤ k ∧ k < t + 20
  · rw [if_pos z, if_pos ⟨rfl, z⟩]
  · rw [if_neg z, if_neg fun y => z y.2]
theorem feed_o {V : Nat → Int32} {i : Nat} (h4 : i ≠ 4) (h5 : i ≠ 5) : feedA A V t i = A i := by
  unfold feedA; rw [up2_o h5]; funext k; exact if_neg fun z => h4 z.1
theorem feed_5 {V : Nat → Int32} {k : Nat} (hk : k ≠ 0) : feedA A V t 5 k = A 5 k := by
  unfold feedA; rw [up2_n hk]; exact if_neg fun z => absurd z.1 (by decide)
theorem s_feed (wf : wfA A) {v0 v1 v2 v3 v4 : Int32} : stp cx jX11_feed jX12_feed [.int v0, .int v1, .int v2, .int v3, .int v4] A := by
  obtain ⟨t, ht, et⟩ := wf.2.2.1
  by_cases y : t + 20 ≤ 400
  · have wf' : wfA (feedA A (fdV v0 v1 v2 v3 v4) t) := by
      obtain ⟨q1, q2, q3, q4, q5⟩ := wf
      refine ⟨by rw [feed_o (by decide) (by decide)]; exact q1, fun k hk => ?_, ⟨t + 20, y, up2_s⟩, fun k => ?_, by rw [feed_o (by decide) (by decide)]; exact q5⟩
      · rw [feed_o (by decide) (by decide), feed_o (by omega) (by omega)]; exact q2 k hk
      · rw [feed_4]
        by_cases z : t ≤ k ∧ k < t + 20
        · rw [if_pos z]; exact ub_byte
        · rw [if_neg z]; exact q4 k
    refine ⟨nI (t + 20), feedA A (fdV v0 v1 v2 v3 v4) t, wf', fun d a h hd _ p => ?_, fun d c h hd hc p => ?_⟩
    · obtain ⟨-, -, -, p4, p5, p6, p7, p8, p9, p14, p15⟩ := id p.1
      have e1 : hI h o_tape 1 = nI t := p5.trans et
      generalize eV : fdV v0 v1 v2 v3 v4 = V
      have g0 : fxG V t h h (4 * 0) := ⟨rfl, fun _ _ _ _ => rfl, e1, fun j => by rw [if_neg (by omega)]⟩
      have add : ∀ {g : Hp} {i : Nat} {v : Int32}, i < 5 → v = V i → fxG V t h g (4 * i) → M cx jX8_add (d - 1) 0 [.ref o_tape, .int v] g (RV (putB (putB (putB (putB g (t + 4 * i) (V i) 24) (t + 4 * i + 1) (V i) 16) (t + 4 * i + 2) (V i) 8) (t + 4 * i + 3) (V i) 0)) := fun {g i v} hi ev q => by
        rw [ev]; exact m_tadd (by omega) q.2.2.1 (by omega)
      have g1 := fx_4 g0
      have g2 := fx_4 g1
      have g3 := fx_4 g2
      have g4 := fx_4 g3
      have g5 := fx_4 g4
      refine sX11_feed rfl (And.intro (fun q1 => (eX11_feed ?_)) (fun q1 => absurd ?_ q1))
      · refine wcV0 (add (i := 0) (by decide) (by rw [← eV]; rfl) g0) ?_
        refine wcV0 (add (i := 1) (by decide) (by rw [← eV]; rfl) g1) ?_
        refine wcV0 (add (i := 2) (by decide) (by rw [← eV]; rfl) g2) ?_
        refine wcV0 (add (i := 3) (by decide) (by rw [← eV]; rfl) g3) ?_
        refine wcV0 (add (i := 4) (by decide) (by rw [← eV]; rfl) g4) ?_
        clear g1 g2 g3 g4
        revert g5
        generalize putB _ _ _ _ = g
        intro g5
        obtain ⟨q1, q2, q3, q4⟩ := g5
        have c : ∀ o k, o ≠ 79 → o ≠ 80 → hI g o k = hI h o k := fun o k h1 h2 => q2 o k (fun z => h1 z.1) h2
        refine ⟨congrArg (fun z => some (Value.int z)) q3, ⟨?_, ?_⟩, fun o k h1 h2 => c o k (by omega) (by omega)⟩
        · refine RXd_c p.1 (feed_o (by decide) (by decide)) (fun k hk => feed_o (by omega) (by omega)) (feed_o (by decide) (by decide)) (by rw [q1]) (fun o k ho => c o k (by omega) (by omega)) (fun k hk => ?_) (by rw [q3]; exact up2_s.symm) ?_ ?_ ?_ ?_ (fun k hk => ?_) ?_
          · rw [q4 k, feed_4, p4 k hk]
          · rw [feed_5 (by decide), c _ _ (by decide) (by decide)]; exact p6
          · rw [feed_5 (by decide), c _ _ (by decide) (by decide)]; exact p7
          · rw [feed_5 (by decide), c _ _ (by decide) (by decide)]; exact p8
          · rw [feed_o (by decide) (by decide), c _ _ (by decide) (by decide), c _ _ (by decide) (by decide), c _ _ (by decide) (by decide), c _ _ (by decide) (by decide), c _ _ (by decide) (by decide)]; exact p9
          · rw [feed_o (by decide) (by decide), c _ _ (by decide) (by decide)]; exact p14 k hk
          · rw [feed_o (by decide) (by decide), c _ _ (by decide) (by decide)]; exact p15
        · rw [feed_o (by decide) (by decide)]
          exact cX_c p.2 (fun o k ho => c o k (by omega) (by omega)) (fun o k => by show g.2.1 o k = h.2.1 o k; rw [q1]) (imR_e (congrArg (fun z => z.2) q1))
      · show hI h o_tape 1 + 20 ≤ 400
        rw [e1, show (20 : Int32) = nI 20 from rfl, nI_add]; exact nI_le (b := 400) y (by decide)
    · have e10 : hI h o_m 10 = nI t := p.1.2.2.2.2.1.trans et
      refine M_mono (n_feed_ok e10 y) ?_
      rintro r g ⟨rfl, h0, G, ⟨z1, z2⟩, ⟨f1, f2, f3⟩, rfl⟩
      obtain ⟨p1, p2, p3, p4, p5, p6, p7, p8, p9, p10, p11, p12⟩ := id p.1
      have c : ∀ o k, o ≠ 110 → o ≠ 111 → ¬ (o = 104 ∧ k = 10) → hI (wI G o_m 10 (nI (t + 20))) o k = hI h o k := fun o k h1 h2 h3 => by rw [rd_any, if_neg h3, f2 o k h1, z2 o k h2]
      refine ⟨rfl, ⟨RMd_c p.1 (feed_o (by decide) (by decide)) (fun k hk => feed_o (by omega) (by omega)) (feed_o (by decide) (by decide)) (feed_o (by decide) (by decide)) (feed_o (by decide) (by decide)) (by rw [feed_o (by decide) (by decide)]) (fun o k h1 h2 h3 h4 => c o k h3 h4 (by omega)) (fun k hk => ?_) ?_ ?_ ?_ ?_ (c _ _ (by decide) (by decide) (by decide)), ?_⟩, keepC_t ⟨z1, fun o k ho => z2 o k (by omega)⟩ (keepC_t ⟨f1, fun o k ho => f2 o k (by omega)⟩ (keepC_w (by decide)))⟩
      · rw [rd_o (by decide), f3 k, feed_4]
        by_cases z : t ≤ k ∧ k < t + 20
        · rw [if_pos z, if_pos z]
        · rw [if_neg z, if_neg z, z2 _ _ (by decide)]; exact p4 k hk
      · rw [rd_same]; exact up2_s.symm
      · rw [feed_5 (by decide), c _ _ (by decide) (by decide) (by decide)]; exact p6
      · rw [feed_5 (by decide), c _ _ (by decide) (by decide) (by decide)]; exact p7
      · rw [feed_5 (by decide), c _ _ (by decide) (by decide) (by decide)]; exact p8
      · rw [feed_o (by decide) (by decide)]
        exact mC_le (mC_c p.2 (fun o k h1 h2 => c o k (by omega) (by omega) (by omega)) (fun k hk => c _ _ (by decide) (by decide) (by omega))) (by omega)
  · refine stp_same (k := -1) wf (fun d a h hd p => ?_) (fun d c h hd p => n_feed_no (p.1.2.2.2.2.1.trans et) ht (by omega))
    have e1 : hI h o_tape 1 = nI t := p.1.2.2.2.2.1.trans et
    refine sX11_feed rfl (And.intro (fun q1 => absurd (show hI h o_tape 1 + 20 ≤ 400 from q1) ?_) (fun q1 => ⟨rfl, rfl⟩))
    rw [e1, show (20 : Int32) = nI 20 from rfl, nI_add]; exact nI_ge (a := 400) (by omega) (by omega)
end T999
