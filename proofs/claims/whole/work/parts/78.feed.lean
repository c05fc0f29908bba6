/-! the model: images, bytes fed, counts -/
noncomputable def cntQ (A : Ab) (q : Int32) : Int32 := if q = 0 then A 0 157 else if q = 1 then onesR (A 0 159) 22 else if q = 2 then A 0 158 else if q = 3 then A 0 160 else if q = 4 then A 5 0 else if q = 5 then A 6 1 else if q = 6 then A 6 2 else if q = 7 then A 6 3 else if q = 8 then A 6 5 else if q = 9 then A 6 6 else if q = 10 then A 0 161 else if q = 11 then A 0 154 else if q = 12 then A 0 155 else if q = 13 then A 0 156 else -1
section T78
variable {cx : Cx} {d a c : Nat} {h g f : Hp} {w : Wd} {A : Ab}
theorem n_count (hd : 1 ≤ d) {q : Int32} (p : RMd A h) : M cx jX12_count d a [.ref o_m, .int q] h (RQ (.int (cntQ A q)) h) := by
  obtain ⟨p1, p2, p3, p4, p5, p6, p7, p8, p9, p10, p11, p12⟩ := p
  have e0 : ∀ k, hI h o_m_kept k = A 0 k := fun k => congrFun p1 k
  have vk : ∀ n, n < 4968 → vp_in (nI n) 4968 := fun n hn => vp_in_nI hn (by decide)
  have v7 : ∀ n, n < 7 → vp_in (nI n) 7 := fun n hn => vp_in_nI hn (by decide)
  refine sX12_count rfl (And.intro (fun z => eX12_count (RQ_eq ?d)) (And.intro (fun z => ?b0) (And.intro (fun z => ?b1) (And.intro (fun z => ?b2) (And.intro (fun z => ?b3) (And.intro (fun z => ?b4) (And.intro (fun z => ?b5) (And.intro (fun z => ?b6) (And.intro (fun z => ?b7) (And.intro (fun z => ?b8) (And.intro (fun z => ?b9) (And.intro (fun z => ?b10) (And.intro (fun z => ?b11) (And.intro (fun z => ?b12) (And.intro (fun z => ?b13) trivial)))))))))))))))
  case d => unfold cntQ; rw [if_neg (show ¬ q = 0 from z 0 (by decide)), if_neg (show ¬ q = 1 from z 1 (by decide)), if_neg (show ¬ q = 2 from z 2 (by decide)), if_neg (show ¬ q = 3 from z 3 (by decide)), if_neg (show ¬ q = 4 from z 4 (by decide)), if_neg (show ¬ q = 5 from z 5 (by decide)), if_neg (show ¬ q = 6 from z 6 (by decide)), if_neg (show ¬ q = 7 from z 7 (by decide)), if_neg (show ¬ q = 8 from z 8 (by decide)), if_neg (show ¬ q = 9 from z 9 (by decide)), if_neg (show ¬ q = 10 from z 10 (by decide)), if_neg (show ¬ q = 11 from z 11 (by decide)), if_neg (show ¬ q = 12 from z 12 (by decide)), if_neg (show ¬ q = 13 from z 13 (by decide))]
  case b0 =>
    subst z
    refine eX12_count (wcV n_stones (RQ_eq ?_))
    unfold cntQ; rw [if_pos (by decide)]; exact e0 157
  case b1 =>
    subst z
    refine eX12_count (And.intro v159 (wcS n_ones (RQ_eq ?_)))
    unfold cntQ; rw [if_neg (by decide), if_pos (by decide)]; exact congrArg (fun z => onesR z 22) (e0 159)
  case b2 =>
    subst z
    refine eX12_count (wcV n_spares (RQ_eq ?_))
    unfold cntQ; rw [if_neg (by decide), if_neg (by decide), if_pos (by decide)]; exact e0 158
  case b3 =>
    subst z
    refine eX12_count (And.intro (vk 160 (by decide)) (RQ_eq ?_))
    unfold cntQ; rw [if_neg (by decide), if_neg (by decide), if_neg (by decide), if_pos (by decide)]; exact e0 160
  case b4 =>
    subst z
    refine eX12_count (RQ_eq ?_)
    unfold cntQ; rw [if_neg (by decide), if_neg (by decide), if_neg (by decide), if_neg (by decide), if_pos (by decide)]; exact p5
  case b5 =>
    subst z
    refine eX12_count (And.intro (v7 1 (by decide)) (RQ_eq ?_))
    unfold cntQ; rw [if_neg (by decide), if_neg (by decide), if_neg (by decide), if_neg (by decide), if_neg (by decide), if_pos (by decide)]; exact p9 1 (by decide)
  case b6 =>
    subst z
    refine eX12_count (And.intro (v7 2 (by decide)) (RQ_eq ?_))
    unfold cntQ; rw [if_neg (by decide), if_neg (by decide), if_neg (by decide), if_neg (by decide), if_neg (by decide), if_neg (by decide), if_pos (by decide)]; exact p9 2 (by decide)
  case b7 =>
    subst z
    refine eX12_count (And.intro (v7 3 (by decide)) (RQ_eq ?_))
    unfold cntQ; rw [if_neg (by decide), if_neg (by decide), if_neg (by decide), if_neg (by decide), if_neg (by decide), if_neg (by decide), if_neg (by decide), if_pos (by decide)]; exact p9 3 (by decide)
  case b8 =>
    subst z
    refine eX12_count (And.intro (v7 5 (by decide)) (RQ_eq ?_))
    unfold cntQ; rw [if_neg (by decide), if_neg (by decide), if_neg (by decide), if_neg (by decide), if_neg (by decide), if_neg (by decide), if_neg (by decide), if_neg (by decide), if_pos (by decide)]; exact p9 5 (by decide)
  case b9 =>
    subst z
    refine eX12_count (And.intro (v7 6 (by decide)) (RQ_eq ?_))
    unfold cntQ; rw [if_neg (by decide), if_neg (by decide), if_neg (by decide), if_neg (by decide), if_neg (by decide), if_neg (by decide), if_neg (by decide), if_neg (by decide), if_neg (by decide), if_pos (by decide)]; exact p9 6 (by decide)
  case b10 =>
    subst z
    refine eX12_count (And.intro (vk 161 (by decide)) (RQ_eq ?_))
    unfold cntQ; rw [if_neg (by decide), if_neg (by decide), if_neg (by decide), if_neg (by decide), if_neg (by decide), if_neg (by decide), if_neg (by decide), if_neg (by decide), if_neg (by decide), if_neg (by decide), if_pos (by decide)]; exact e0 161
  case b11 =>
    subst z
    refine eX12_count (And.intro (vk 154 (by decide)) (RQ_eq ?_))
    unfold cntQ; rw [if_neg (by decide), if_neg (by decide), if_neg (by decide), if_neg (by decide), if_neg (by decide), if_neg (by decide), if_neg (by decide), if_neg (by decide), if_neg (by decide), if_neg (by decide), if_neg (by decide), if_pos (by decide)]; exact e0 154
  case b12 =>
    subst z
    refine eX12_count (And.intro (vk 155 (by decide)) (RQ_eq ?_))
    unfold cntQ; rw [if_neg (by decide), if_neg (by decide), if_neg (by decide), if_neg (by decide), if_neg (by decide), if_neg (by decide), if_neg (by decide), if_neg (by decide), if_neg (by decide), if_neg (by decide), if_neg (by decide), if_neg (by decide), if_pos (by decide)]; exact e0 155
  case b13 =>
    subst z
    refine eX12_count (And.intro (vk 156 (by decide)) (RQ_eq ?_))
    unfold cntQ; rw [if_neg (by decide), if_neg (by decide), if_neg (by decide), if_neg (by decide), if_neg (by decide), if_neg (by decide), if_neg (by decide), if_neg (by decide), if_neg (by decide), if_neg (by decide), if_neg (by decide), if_neg (by decide), if_neg (by decide), if_pos (by decide)]; exact e0 156
/-! images -/
def imG (h g : Hp) (k n : Nat) : Prop := g.2 = h.2 ∧ (∀ o j, o ≠ 107 → hI g o j = hI h o j) ∧ (∀ j, hI g o_m_images j = if 4968 * k ≤ j ∧ j < 4968 * k + n then kW h (j - 4968 * k) else hI h o_m_images j)
theorem n_image_no (hd : 1 ≤ d) {k : Int32} (no : ¬ (0 ≤ k ∧ k ≤ 1)) : M cx jX12_image d a [.ref o_m, .int k] h (RQ (.int (-1)) (nrefH h (-1) 1)) :=
  sX12_image rfl (wcS n_lies (And.intro (fun q1 => absurd (b2i_n q1) no) (fun q1 => (wcV (n_refuses rfl (by decide)) ⟨rfl, rfl⟩))))
theorem n_image_ok (hd : 1 ≤ d) {k : Nat} (hk : k < 2) : M cx jX12_image d a [.ref o_m, .int (nI k)] h (fun v g => v = some (.int 0) ∧ ∃ G, imG h G k 4968 ∧ g = ngoodH (wI G o_m_hasImage k 1)) := by
  have ck : (nI k).toNatClampNeg = k := nI_clamp (by omega)
  have loop : ∀ r i, r + i = 4968 → ∀ g, imG h g k i → E cx jX12_image d a 17 [some (.ref o_m), some (.int (nI k)), some (.int (nI i))] [] g (fun v g => v = some (.int 0) ∧ ∃ G, imG h G k 4968 ∧ g = ngoodH (wI G o_m_hasImage k 1)) := by
    intro r
    induction r with
    | zero =>
      intro i hi g ig
      obtain rfl : i = 4968 := by omega
      refine eX12_image (And.intro (fun q1 => (eX12_image (And.intro (vp_in_nI hk (by decide)) (wcV n_good ⟨rfl, g, ig, ?_⟩)))) (fun q1 => absurd (Int32.le_refl _) q1))
      rw [ck]; rfl
    | succ r ih =>
      intro i hi g ig
      have vi : vp_in (nI i) 4968 := vp_in_nI (by omega) (by decide)
      have ci : (nI i).toNatClampNeg = i := nI_clamp (by omega)
      have ej : (4968 : Int32) * nI k + nI i = nI (4968 * k + i) := by rw [show (4968 : Int32) = nI 4968 from rfl, pk_mul, nI_add]
      have vj : vp_in ((4968 : Int32) * nI k + nI i) 9936 := by rw [ej]; exact vp_in_nI (by omega) (by decide)
      have cj : ((4968 : Int32) * nI k + nI i).toNatClampNeg = 4968 * k + i := by rw [ej, nI_clamp (by omega)]
      have i' := ih (i + 1) (by omega) (wI g o_m_images (4968 * k + i) (hI g o_m_kept i)) ⟨ig.1, fun o j no => (rd_o no).trans (ig.2.1 o j no), fun j => ?_⟩
      · rw [nI_succ] at i'
        refine eX12_image (And.intro (fun q => absurd q (nI_ge (b := 4968) (by omega) (by decide))) (fun _ => (And.intro vi (And.intro vj (e_eq i' rfl rfl ?_)))))
        rw [cj, ci]; rfl
      · rw [rd_any]
        by_cases e : j = 4968 * k + i
        · subst e
          rw [if_pos ⟨rfl, rfl⟩, if_pos (by omega), ig.2.1 _ _ (by decide), Nat.add_sub_cancel_left]
        · rw [if_neg (fun z => e z.2), ig.2.2 j]
          by_cases e2 : 4968 * k ≤ j ∧ j < 4968 * k + i
          · rw [if_pos e2, if_pos (by omega)]
          · rw [if_neg e2, if_neg (by omega)]
  refine sX12_image rfl (wcS n_lies (And.intro (fun q1 => (eX12_image (loop 4968 0 rfl h ⟨rfl, fun _ _ _ => rfl, fun j => by rw [if_neg (by omega)]⟩))) (fun q1 => absurd ⟨nI_pos' (by omega), nI_le (b := 1) (by omega) (by decide)⟩ (b2i_0.mp q1))))
def bkG (h g : Hp) (k n : Nat) : Prop := g.2 = h.2 ∧ (∀ o j, o ≠ 106 → hI g o j = hI h o j) ∧ (∀ j, kW g j = if j < n then hI h o_m_images (4968 * k + j) else kW h j)
theorem n_back_no (hd : 1 ≤ d) {k : Int32} (no : ¬ (0 ≤ k ∧ k ≤ 1)) : M cx jX12_back d a [.ref o_m, .int k] h (RQ (.int (-1)) (nrefH h (-1) 1)) :=
  sX12_back rfl (wcS n_lies (And.intro (fun q1 => absurd (b2i_n q1) no) (fun q1 => (wcV (n_refuses rfl (by decide)) ⟨rfl, rfl⟩))))
theorem n_back_such (hd : 1 ≤ d) {k : Nat} (hk : k < 2) (z : hI h o_m_hasImage k = 0) : M cx jX12_back d a [.ref o_m, .int (nI k)] h (RQ (.int (-2)) (nrefH h (-2) 2)) := by
  have ck : (nI k).toNatClampNeg = k := nI_clamp (by omega)
  refine sX12_back rfl (wcS n_lies (And.intro (fun q1 => (eX12_back (And.intro (vp_in_nI hk (by decide)) (And.intro (fun q2 => absurd (by rw [ck]; exact z) q2) (fun q2 => (wcV (n_refuses rfl (by decide)) ⟨rfl, rfl⟩)))))) (fun q1 => absurd ⟨nI_pos' (by omega), nI_le (b := 1) (by omega) (by decide)⟩ (b2i_0.mp q1))))
theorem n_back_ok (hd : 1 ≤ d) {k : Nat} (hk : k < 2) (z : ¬ hI h o_m_hasImage k = 0) : M cx jX12_back d a [.ref o_m, .int (nI k)] h (fun v g => v = some (.int 0) ∧ ∃ G, bkG h G k 4968 ∧ g = ngoodH G) := by
  have ck : (nI k).toNatClampNeg = k := nI_clamp (by omega)
  have loop : ∀ r i, r + i = 4968 → ∀ g, bkG h g k i → E cx jX12_back d a 33 [some (.ref o_m), some (.int (nI k)), some (.int (nI i))] [] g (fun v g => v = some (.int 0) ∧ ∃ G, bkG h G k 4968 ∧ g = ngoodH G) := by
    intro r
    induction r with
    | zero =>
      intro i hi g ig
      obtain rfl : i = 4968 := by omega
      exact eX12_back (And.intro (fun q1 => (eX12_back (wcV n_good ⟨rfl, g, ig, rfl⟩))) (fun q1 => absurd (Int32.le_refl _) q1))
    | succ r ih =>
      intro i hi g ig
      have vi : vp_in (nI i) 4968 := vp_in_nI (by omega) (by decide)
      have ci : (nI i).toNatClampNeg = i := nI_clamp (by omega)
      have ej : (4968 : Int32) * nI k + nI i = nI (4968 * k + i) := by rw [show (4968 : Int32) = nI 4968 from rfl, pk_mul, nI_add]
      have vj : vp_in ((4968 : Int32) * nI k + nI i) 9936 := by rw [ej]; exact vp_in_nI (by omega) (by decide)
      have cj : ((4968 : Int32) * nI k + nI i).toNatClampNeg = 4968 * k + i := by rw [ej, nI_clamp (by omega)]
      have i' := ih (i + 1) (by omega) (wI g o_m_kept i (hI g o_m_images (4968 * k + i))) ⟨ig.1, fun o j no => (rd_o no).trans (ig.2.1 o j no), fun j => ?_⟩
      · rw [nI_succ] at i'
        refine eX12_back (And.intro (fun q => absurd q (nI_ge (b := 4968) (by omega) (by decide))) (fun _ => (And.intro vj (And.intro vi (e_eq i' rfl rfl ?_)))))
        rw [cj, ci]; rfl
      · show hI _ o_m_kept j = _
        rw [rd_any]
        by_cases e : j = i
        · subst e
          rw [if_pos ⟨rfl, rfl⟩, if_pos (by omega), ig.2.1 _ _ (by decide)]
        · rw [if_neg (fun z => e z.2)]
          have := ig.2.2 j
          show kW g j = _
          rw [this]
          by_cases e2 : j < i
          · rw [if_pos e2, if_pos (by omega)]
          · rw [if_neg e2, if_neg (by omega)]
  refine sX12_back rfl (wcS n_lies (And.intro (fun q1 => (eX12_back (And.intro (vp_in_nI hk (by decide)) (And.intro (fun q2 => (eX12_back (loop 4968 0 rfl h ⟨rfl, fun _ _ _ => rfl, fun j => by rw [if_neg (Nat.not_lt_zero _)]⟩))) (fun q2 => absurd (by rw [← ck]; exact q2) z))))) (fun q1 => absurd ⟨nI_pos' (by omega), nI_le (b := 1) (by omega) (by decide)⟩ (b2i_0.mp q1))))
/-! feed -/
def fdV (v0 v1 v2 v3 v4 : Int32) (i : Nat) : Int32 := if i = 0 then v0 else if i = 1 then v1 else if i = 2 then v2 else if i = 3 then v3 else v4
def fdB (V : Nat → Int32) (k : Nat) : Int32 := ub (V (k / 4)) (nI (24 - 8 * (k % 4)))
def fdG (V : Nat → Int32) (t : Nat) (h g : Hp) (n : Nat) : Prop := g.2 = h.2 ∧ (∀ o j, o ≠ 110 → hI g o j = hI h o j) ∧ (∀ j, hI g o_m_tape j = if t ≤ j ∧ j < t + n then sg (fdB V (j - t)) else hI h o_m_tape j)
theorem sg_ub {v : Int32} {s : Nat} (hs : s ≤ 24) : (v >>> (nI s &&& 31)).toInt8.toInt32 = sg (ub v (nI s)) := by
  have e : (v >>> (nI s &&& 31)) &&& 255 = ub v (nI s) := by
    unfold ub
    apply b_ext; intro i hi
    rw [b_and, b_and, b_255, b_sshr s (by omega) v hi, b_ushr s (by omega)]
    by_cases h8 : i < 8
    · rw [if_pos (by omega)]
    · simp [h8]
  have t8 : ∀ x : Int32, x.toInt8 = (x &&& 255).toInt8 := fun x => by
    apply Int8.toBitVec_inj.mp
    rw [Int32.toBitVec_toInt8, Int32.toBitVec_toInt8, Int32.toBitVec_and]
    apply BitVec.eq_of_getLsbD_eq; intro i hi
    have : bt 255 i = true := by rw [b_255]; simp; omega
    unfold bt at this
    simp [this, BitVec.getLsbD_setWidth]
    intro _
    exact (by decide : ∀ i, i < 8 → (255#8).getLsbD i = true) i hi
  unfold sg
  rw [t8, e]
theorem nar_byte (x : Int32) : vp_nar .byte x.toInt8.toInt32 = x.toInt8.toInt32 := by
  show x.toInt8.toInt32.toInt8.toInt32 = _
  exact fb_byte_twice x
theorem n_feed_no {v0 v1 v2 v3 v4 : Int32} {t : Nat} (et : hI h o_m 10 = nI t) (ht : t ≤ 400) (no : 400 < t + 20) : M cx jX12_feed d a [.ref o_m, .int v0, .int v1, .int v2, .int v3, .int v4] h (RQ (.int (-1)) h) := by
  have e : hI h o_m 10 + 20 = nI (t + 20) := by rw [et, show (20 : Int32) = nI 20 from rfl, nI_add]
  refine sX12_feed rfl (And.intro (fun q1 => absurd q1 ?_) (fun q1 => ⟨rfl, rfl⟩))
  rw [e]; exact nI_ge (a := 400) no (by omega)
theorem n_feed_ok {v0 v1 v2 v3 v4 : Int32} {t : Nat} (et : hI h o_m 10 = nI t) (ht : t + 20 ≤ 400) : M cx jX12_feed d a [.ref o_m, .int v0, .int v1, .int v2, .int v3, .int v4] h (fun v g => v = some (.int (nI (t + 20))) ∧ ∃ h0 G, (h0.2 = h.2 ∧ ∀ o k, o ≠ 111 → hI h0 o k = hI h o k) ∧ fdG (fdV v0 v1 v2 v3 v4) t h0 G 20 ∧ g = wI G o_m 10 (nI (t + 20))) := by
  generalize eh0 : wI (wI (wI (wI (wI h o_m_five 0 v0) o_m_five 1 v1) o_m_five 2 v2) o_m_five 3 v3) o_m_five 4 v4 = h0
  have o0 : ∀ o k, o ≠ 111 → hI h0 o k = hI h o k := fun o k n => by rw [← eh0, rd_o n, rd_o n, rd_o n, rd_o n, rd_o n]
  have f0 : ∀ i, i < 5 → hI h0 o_m_five i = fdV v0 v1 v2 v3 v4 i := fun i hi => by
    rw [← eh0]
    unfold fdV
    rcases (by omega : i = 0 ∨ i = 1 ∨ i = 2 ∨ i = 3 ∨ i = 4) with rfl | rfl | rfl | rfl | rfl <;> simp [rd_any]
  have e20 : hI h o_m 10 + 20 = nI (t + 20) := by rw [et, show (20 : Int32) = nI 20 from rfl, nI_add]
  have loop : ∀ r i, r + i = 20 → ∀ g, fdG (fdV v0 v1 v2 v3 v4) t h0 g i → E cx jX12_feed d a 55 [some (.ref o_m), some (.int v0), some (.int v1), some (.int v2), some (.int v3), some (.int v4), some (.int (nI i))] [] g (fun v g => v = some (.int (nI (t + 20))) ∧ ∃ h0 G, (h0.2 = h.2 ∧ ∀ o k, o ≠ 111 → hI h0 o k = hI h o k) ∧ fdG (fdV v0 v1 v2 v3 v4) t h0 G 20 ∧ g = wI G o_m 10 (nI (t + 20))) := by
    intro r
    induction r with
    | zero =>
      intro i hi g ig
      obtain rfl : i = 20 := by omega
      have e10 : hI g o_m 10 = nI t := by rw [ig.2.1 _ _ (by decide), o0 _ _ (by decide), et]
      have e11 : hI g o_m 10 + 20 = nI (t + 20) := by rw [e10, show (20 : Int32) = nI 20 from rfl, nI_add]
      refine eX12_feed (And.intro (fun q1 => (eX12_feed ⟨?_, h0, g, ⟨by rw [← eh0]; rfl, o0⟩, ig, ?_⟩)) (fun q1 => absurd (Int32.le_refl _) q1))
      · rw [rd_same, e11]
      · rw [e11]
    | succ r ih =>
      intro i hi g ig
      have e10 : hI g o_m 10 = nI t := by rw [ig.2.1 _ _ (by decide), o0 _ _ (by decide), et]
      have ej : hI g o_m 10 + nI i = nI (t + i) := by rw [e10, nI_add]
      have vj : vp_in (hI g o_m 10 + nI i) 400 := by rw [ej]; exact vp_in_nI (by omega) (by decide)
      have cj : (hI g o_m 10 + nI i).toNatClampNeg = t + i := by rw [ej, nI_clamp (by omega)]
      have ed : nI i / 4 = nI (i / 4) := pk_div (d := 4) (by omega) (by decide) (by decide)
      have em : nI i - nI i / 4 * 4 = nI (i % 4) := pk_rem (d := 4) (by omega) (by decide) (by decide)
      have vd : vp_in (nI i / 4) 5 := by rw [ed]; exact vp_in_nI (by omega) (by decide)
      have cd : (nI i / 4).toNatClampNeg = i / 4 := by rw [ed, nI_clamp (by omega)]
      have es : (24 : Int32) - 8 * (nI i - nI i / 4 * 4) = nI (24 - 8 * (i % 4)) := by rw [em, show (8 : Int32) = nI 8 from rfl, pk_mul, show (24 : Int32) = nI 24 from rfl, pk_sub (by omega)]
      have i' := ih (i + 1) (by omega) (wI g o_m_tape (t + i) (sg (fdB (fdV v0 v1 v2 v3 v4) i))) ⟨ig.1, fun o j no => (rd_o no).trans (ig.2.1 o j no), fun j => ?_⟩
      · rw [nI_succ] at i'
        refine eX12_feed (And.intro (fun q => absurd q (nI_ge (b := 20) (by omega) (by decide))) (fun _ => (And.intro (by decide) (And.intro vd (And.intro (by decide) (And.intro vj (e_eq i' rfl rfl ?_)))))))
        rw [cj, nar_byte]
        show wI g o_m_tape (t + i) ((hI g o_m_five (nI i / 4).toNatClampNeg >>> (((24 : Int32) - 8 * (nI i - nI i / 4 * 4)) &&& 31)).toInt8.toInt32) = _
        rw [cd, es, sg_ub (by omega), ig.2.1 _ _ (by decide), f0 _ (by omega)]
        rfl
      · rw [rd_any]
        by_cases e : j = t + i
        · subst e
          rw [if_pos ⟨rfl, rfl⟩, if_pos (by omega), Nat.add_sub_cancel_left]
        · rw [if_neg (fun z => e z.2), ig.2.2 j]
          by_cases e2 : t ≤ j ∧ j < t + i
          · rw [if_pos e2, if_pos (by omega)]
          · rw [if_neg e2, if_neg (by omega)]
  have v5 : ∀ n, n < 5 → vp_in (nI n) 5 := fun n hn => vp_in_nI hn (by decide)
  refine sX12_feed rfl (And.intro (fun q1 => (eX12_feed (And.intro (v5 0 (by decide)) (And.intro (v5 1 (by decide)) (And.intro (v5 2 (by decide)) (And.intro (v5 3 (by decide)) (And.intro (v5 4 (by decide)) (e_eq (loop 20 0 rfl h0 ⟨rfl, fun _ _ _ => rfl, fun j => by rw [if_neg (by omega)]⟩) rfl rfl ?_)))))))) (fun q1 => absurd ?_ q1))
  · rw [← eh0]; rfl
  · rw [e20]; exact nI_le (b := 400) ht (by decide)
end T78
