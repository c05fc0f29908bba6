/-! end and feed on both sides -/
section T999
variable {cx : Cx} {d a c : Nat} {h g f : Hp} {w w' : Wd} {A A' : Ab} {n s t : Nat}
/-- other bytes; all else as it was, on the model's side -/
theorem RMd_c (p : RMd A h) (e0 : A' 0 = A 0) (e1 : ∀ k, k < 2 → A' (1 + k) = A (1 + k)) (e3 : A' 3 = A 3) (e6 : A' 6 = A 6) (e7 : A' 7 = A 7) (e8 : A' 8 0 = A 8 0) (eI : ∀ o k, 105 ≤ o → o ≤ 125 → o ≠ 110 → o ≠ 111 → hI g o k = hI h o k) (e4 : ∀ k, k < 400 → hI g o_m_tape k = sg (A' 4 k)) (e10 : hI g o_m 10 = A' 5 0) (e11 : hI g o_m 11 = A' 5 1) (e12 : hI g o_m 6 = A' 5 2) (e13 : hI g o_m 0 = A' 5 3) (e37 : hI g o_m 37 = hI h o_m 37) : RMd A' g := by
  obtain ⟨p1, p2, p3, p4, p5, p6, p7, p8, p9, p10, p11, p12⟩ := p
  refine ⟨?_, fun k i hk hi => ?_, fun k hk => ?_, e4, e10, e11, e12, e13, fun k hk => ?_, fun k hk => ?_, ?_, fun k hk => ?_⟩
  · rw [e0, ← p1]; exact funext fun k => eI _ _ (by decide) (by decide) (by decide) (by decide)
  · rw [e1 k hk, eI _ _ (by decide) (by decide) (by decide) (by decide)]; exact p2 k i hk hi
  · rw [e3, eI _ _ (by decide) (by decide) (by decide) (by decide)]; exact p3 k hk
  · rw [e6, eI _ _ (by decide) (by decide) (by decide) (by decide)]; exact p9 k hk
  · rw [e7, eI _ _ (by decide) (by decide) (by decide) (by decide)]; exact p10 k hk
  · rw [e8, e37]; exact p11
  · rw [eI _ _ (by decide) (by decide) (by decide) (by decide)]; exact p12 k hk
theorem mC_c (q : mC c w h) (eI : ∀ o k, 112 ≤ o → o ≤ 125 → hI g o k = hI h o k) (em : ∀ k, (k = 1 ∨ k = 21 ∨ k = 27 ∨ k = 32) → hI g o_m k = hI h o_m k) : mC c w g := by
  unfold mC vLe at *
  rw [em 21 (by decide), em 1 (by decide), em 27 (by decide), em 32 (by decide)]
  exact ⟨q.1, q.2.1, fun z => lk_keep (q.2.2.1 z) fun o k h1 h2 => eI o k (by omega) (by omega), fun z => st_keep (q.2.2.2 z) fun o k h1 h2 => eI o k (by omega) (by omega)⟩
theorem s_end (wf : wfA A) {v : Int32} : stp cx jX11_end jX12_end [.int v] A := by
  obtain ⟨t, ht, et⟩ := wf.2.2.1
  by_cases y : (0 : Int32) ≤ v ∧ v ≤ A 5 0
  · have wf' : wfA (up2 A 5 0 v) := by
      obtain ⟨q1, q2, q3, q4, q5⟩ := wf
      refine ⟨q1, fun k hk => ?_, ?_, q4, q5⟩
      · rw [up2_o (by omega), up2_o (by omega)]; exact q2 k hk
      · rw [et] at y
        obtain ⟨m, hm, e⟩ := rng (m := t) (by omega) y
        exact ⟨m, by omega, by rw [up2_s]; exact e⟩
    refine ⟨v, up2 A 5 0 v, wf', fun d a h hd _ p => ?_, fun d c h hd hc p => ?_⟩
    · obtain ⟨-, -, -, p4, p5, p6, p7, p8, p9, p14, p15⟩ := id p.1
      refine sX11_end rfl (wcS m_isWithin (And.intro (fun q1 => (eX11_end ⟨rfl, ⟨?_, ?_⟩, fun o k h1 h2 => rd_o (by show o ≠ 79; omega)⟩)) (fun q1 => absurd (show (0 : Int32) ≤ v ∧ v ≤ hI h o_tape 1 by rw [p5]; exact y) (b2i_0.mp q1))))
      · refine RXd_c p.1 (by rw [up2_o (by decide)]) (fun k hk => by rw [up2_o (by omega)]) (by rw [up2_o (by decide)]) rfl (fun o k ho => rd_o (by show o ≠ 79; omega)) (fun k hk => (rd_o (by decide)).trans (p4 k hk)) rd_same ((rd_o (by decide)).trans p6) ((rd_o (by decide)).trans p7) ((rd_o (by decide)).trans p8) ?_ (fun k hk => (rd_o (by decide)).trans (p14 k hk)) ((rd_o (by decide)).trans p15)
        rw [rd_o (by decide), rd_o (by decide), rd_o (by decide), rd_o (by decide), rd_o (by decide)]; exact p9
      · rw [up2_o (by decide)]
        exact cX_c p.2 (fun o k ho => rd_o (by show o ≠ 79; omega)) (fun _ _ => rfl)
    · have e10 : hI h o_m 10 = A 5 0 := p.1.2.2.2.2.1
      refine M_mono (n_end_ok (by omega) (by rw [e10]; exact y)) ?_
      rintro r g ⟨rfl, rfl⟩
      refine ⟨rfl, ⟨RMd_m10 p.1, ?_⟩, keepC_w (by decide)⟩
      rw [up2_o (by decide)]
      exact mC_le (mC_c p.2 (fun o k h1 h2 => rd_o (by show o ≠ 104; omega)) (fun k hk => rd_k (by omega))) (by omega)
  · refine stp_same (k := -1) wf (fun d a h hd p => ?_) (fun d c h hd p => n_end_no (by omega) (by rw [show hI h o_m 10 = A 5 0 from p.1.2.2.2.2.1]; exact y))
    have p5 : hI h o_tape 1 = A 5 0 := p.1.2.2.2.2.1
    exact sX11_end rfl (wcS m_isWithin (And.intro (fun q1 => absurd (show (0 : Int32) ≤ v ∧ v ≤ A 5 0 by rw [← p5]; exact b2i_n q1) y) (fun q1 => ⟨rfl, rfl⟩)))
/-! feed -/
def feedA (A : Ab) (V : Nat → Int32) (t : Nat) : Ab := up2 (fun i j => if i = 4 ∧ t ≤ j ∧ j < t + 20 then fdB V (j - t) else A i j) 5 0 (nI (t + 20))
/-- n bytes have been put on the class's tape -/
def fxG (V : Nat → Int32) (t : Nat) (h g : Hp) (n : Nat) : Prop := g.2 = h.2 ∧ (∀ o j, ¬ (o = 79 ∧ j = 1) → o ≠ 80 → hI g o j = hI h o j) ∧ hI g o_tape 1 = nI (t + n) ∧ ∀ j, hI g o_tape_bytes j = if t ≤ j ∧ j < t + n then fdB V (j - t) else hI h o_tape_bytes j
theorem fx_put {V : Nat → Int32} {v x : Int32} (q : fxG V t h g n) (ev : v = V (n / 4)) (ex : x = nI (24 - 8 * (n % 4))) : fxG V t h (putB g (t + n) v x) (n + 1) := by
  obtain ⟨q1, q2, q3, q4⟩ := q
  refine ⟨q1, fun o j h1 h2 => ?_, putB_len, fun j => ?_⟩
  · unfold putB; rw [rd_any, if_neg h1, rd_o h2]; exact q2 o j h1 h2
  · unfold putB; rw [rd_o (by decide), rd_any]
    by_cases e : j = t + n
    · rw [if_pos ⟨rfl, e⟩, if_pos (by omega), ev, ex, e]; unfold fdB; rw [show t + n - t = n by omega]
    · rw [if_neg (fun z => e z.2), q4 j]
      by_cases z : t ≤ j ∧ j < t + n
      · rw [if_pos z, if_pos (by omega)]
      · rw [if_neg z, if_neg (by omega)]
theorem fx_4 {V : Nat → Int32} {i : Nat} (q : fxG V t h g (4 * i)) : fxG V t h (putB (putB (putB (putB g (t + 4 * i) (V i) 24) (t + 4 * i + 1) (V i) 16) (t + 4 * i + 2) (V i) 8) (t + 4 * i + 3) (V i) 0) (4 * (i + 1)) :=
  fx_put (n := 4 * i + 3) (fx_put (n := 4 * i + 2) (fx_put (n := 4 * i + 1) (fx_put (n := 4 * i) q (by rw [show 4 * i / 4 = i by omega]) (by rw [show 4 * i % 4 = 0 by omega]; rfl)) (by rw [show (4 * i + 1) / 4 = i by omega]) (by rw [show (4 * i + 1) % 4 = 1 by omega]; rfl)) (by rw [show (4 * i + 2) / 4 = i by omega]) (by rw [show (4 * i + 2) % 4 = 2 by omega]; rfl)) (by rw [show (4 * i + 3) / 4 = i by omega]) (by rw [show (4 * i + 3) % 4 = 3 by omega]; rfl)
end T999
