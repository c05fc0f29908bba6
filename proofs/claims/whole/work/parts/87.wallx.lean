/-! the class's wall holds the state's wall: facts, places, oblongs -/
/-- facts, terms and numbers of a wall of the class -/
def wF (w : Wd) (h : Hp) (ow of ot : Nat) : Prop := (∀ k, k < 154 → hI h of k = w k) ∧ (∀ k, k < 3 → hI h ot k = w (154 + k)) ∧ hI h ow 3 = w 157 ∧ hI h ow 4 = w 158 ∧ hI h ow 5 = w 159 ∧ hI h ow 6 = w 160 ∧ hI h ow 7 = w 161
abbrev wFm (w : Wd) (h : Hp) : Prop := wF w h o_wall o_wall_facts o_wall_terms
section T87
variable {cx : Cx} {d a c : Nat} {h g f : Hp} {w : Wd}
theorem fact_w (q : wFm w h) {k j : Nat} (hk : k < 22) (hj : j < 7) : fFact h (nI k) (nI j) = w (7 * k + j) := by
  unfold fFact
  rw [if_pos ⟨nI_pos' (by omega), nI_lt (b := 22) hk (by decide), nI_pos' (by omega), nI_lt (b := 7) hj (by decide)⟩, ix_nat hk hj, nI_clamp (by omega)]
  exact q.1 _ (by omega)
theorem term_w (q : wFm w h) {k : Nat} (hk : k < 3) : fTerm h (nI k) = w (154 + k) := by
  unfold fTerm
  rw [if_pos ⟨nI_pos' (by omega), nI_le (b := 2) (by omega) (by decide)⟩, nI_clamp (by omega)]
  exact q.2.1 _ hk
theorem item_iff {n s k : Nat} (en : w 157 = nI n) (hn : n ≤ 14) (es : w 158 = nI s) (hs : s ≤ 8) (hk : k < 22) : cItem w k ↔ k < n ∨ (14 ≤ k ∧ k < 14 + s) := by
  unfold cItem cStone
  rw [en, es]
  constructor
  · rintro (⟨h1, h2, h3⟩ | ⟨h1, h2⟩)
    · left
      have h3 := Int32.le_iff_toInt_le.mp h3
      rw [show (1 : Int32) = nI 1 from rfl, pk_sub_toInt (by omega) (by decide), nI_toInt (by omega)] at h3
      omega
    · right
      rw [show (14 : Int32) = nI 14 from rfl, pk_sub h1] at h2
      have := (nI_ltI (by omega) (by omega)).mp h2
      omega
  · rintro (h1 | ⟨h1, h2⟩)
    · refine Or.inl ⟨by omega, nI_pos' (by omega), ?_⟩
      rw [show (1 : Int32) = nI 1 from rfl, pk_sub (by omega)]
      exact nI_le (by omega) (by omega)
    · refine Or.inr ⟨h1, ?_⟩
      rw [show (14 : Int32) = nI 14 from rfl, pk_sub h1]
      exact nI_lt (by omega) (by omega)
theorem place_iff {n s k : Nat} (q : wFm w h) (en : w 157 = nI n) (hn : n ≤ 14) (es : w 158 = nI s) (hs : s ≤ 8) (hk : k < 22) : sPlace h (nI k) ↔ k < n ∨ (14 ≤ k ∧ k < 14 + s) := by
  unfold sPlace
  rw [q.2.2.1, q.2.2.2.1, en, es]
  rw [show (14 : Int32) + nI s = nI (14 + s) from nI_add 14 s]
  simp only [Int32.le_iff_toInt_le]
  rw [show (1 : Int32) = nI 1 from rfl, pk_sub_toInt (by omega) (by decide), pk_sub_toInt (by omega) (by decide), nI_toInt (by omega)]
  have e0 : (0 : Int32).toInt = 0 := rfl
  have e14 : (14 : Int32).toInt = 14 := rfl
  omega
theorem place_item (q : wFm w h) {n s t k : Nat} (wf : wfS w n s t) (hk : k < 22) : sPlace h (nI k) ↔ cItem w k := by
  rw [place_iff q wf.2.2.2.1 wf.1 wf.2.2.2.2.1 wf.2.1 hk, item_iff wf.2.2.2.1 wf.1 wf.2.2.2.2.1 wf.2.1 hk]
/-! oblongs, in whole numbers -/
theorem box_X {k : Nat} (q : box w k) : w (7 * k + 0) = nI (bX w k 0) ∧ w (7 * k + 1) = nI (bX w k 1) ∧ w (7 * k + 2) = nI (bX w k 2) ∧ w (7 * k + 3) = nI (bX w k 3) ∧ 0 < bX w k 2 ∧ bX w k 2 ≤ 6 ∧ 0 < bX w k 3 ∧ bX w k 3 ≤ 6 ∧ bX w k 0 + bX w k 2 ≤ 12 ∧ bX w k 1 + bX w k 3 ≤ 8 := by
  obtain ⟨x, y, A, B, h1, h2, h3, h4, h5, h6, h7, h8, h9, h10⟩ := q
  unfold bX
  rw [h1, h2, h3, h4, nI_clamp (by omega), nI_clamp (by omega), nI_clamp (by omega), nI_clamp (by omega)]
  exact ⟨rfl, rfl, rfl, rfl, h5, h6, h7, h8, h9, h10⟩
theorem sI {x y : Int32} {a b : Int} (hx : x.toInt = a) (hy : y.toInt = b) (h1 : -1000 ≤ a ∧ a ≤ 1000) (h2 : -1000 ≤ b ∧ b ≤ 1000) : (x + y).toInt = a + b ∧ (x - y).toInt = a - b := by
  constructor
  · rw [fb_addI (by omega) (by omega), hx, hy]
  · rw [fb_subI (by omega) (by omega), hx, hy]
/-- a cell of an item -/
theorem cov_int {k : Nat} {x y : Int32} {X Y : Int} (q : box w k) (hx : x.toInt = X) (hy : y.toInt = Y) : cCov w k x y ↔ ((bX w k 0 : Int) ≤ X ∧ X < bX w k 0 + bX w k 2) ∧ ((bX w k 1 : Int) ≤ Y ∧ Y < bX w k 1 + bX w k 3) := by
  obtain ⟨h1, h2, h3, h4, h5, h6, h7, h8, h9, h10⟩ := box_X q
  unfold cCov
  rw [h1, h2, h3, h4]
  rw [nI_add, nI_add, show (1 : Int32) = nI 1 from rfl, pk_sub (by omega), pk_sub (by omega)]
  simp only [Int32.le_iff_toInt_le]
  rw [nI_toInt (by omega), nI_toInt (by omega), nI_toInt (by omega), nI_toInt (by omega), hx, hy]
  omega
/-- an oblong of the class has a cell of a place -/
theorem fcov_int {k : Nat} {x y wd tl : Int32} {X Y A B : Int} (qf : wFm w h) (q : box w k) (hk : k < 22) (hx : x.toInt = X) (hy : y.toInt = Y) (hw : wd.toInt = A) (ht : tl.toInt = B) (hA : 0 ≤ A ∧ A ≤ 100) (hB : 0 ≤ B ∧ B ≤ 100) : fCov h (nI k) x y wd tl ↔ ((bX w k 0 : Int) < X + A ∧ X < bX w k 0 + bX w k 2) ∧ ((bX w k 1 : Int) < Y + B ∧ Y < bX w k 1 + bX w k 3) := by
  obtain ⟨h1, h2, h3, h4, h5, h6, h7, h8, h9, h10⟩ := box_X q
  unfold fCov
  rw [show (0 : Int32) = nI 0 from rfl, show (1 : Int32) = nI 1 from rfl, show (2 : Int32) = nI 2 from rfl, show (3 : Int32) = nI 3 from rfl, fact_w qf hk (by decide), fact_w qf hk (by decide), fact_w qf hk (by decide), fact_w qf hk (by decide), h1, h2, h3, h4]
  rw [nI_add, nI_add, pk_sub (by omega), pk_sub (by omega)]
  simp only [Int32.le_iff_toInt_le]
  have e1 := (sI (x := nI (bX w k 0)) (y := wd) (nI_toInt (by omega)) hw (by omega) (by omega)).2
  have e2 := (sI (x := nI (bX w k 1)) (y := tl) (nI_toInt (by omega)) ht (by omega) (by omega)).2
  have e3 := (sI (x := nI (bX w k 0) - wd) (y := nI 1) e1 (nI_toInt (by decide)) (by omega) (by omega)).1
  have e4 := (sI (x := nI (bX w k 1) - tl) (y := nI 1) e2 (nI_toInt (by decide)) (by omega) (by omega)).1
  rw [e3, e4, nI_toInt (by omega), nI_toInt (by omega), hx, hy]
  omega
theorem mod_cell {A B dx dy : Nat} (hx : dx < A) (hy : dy < B) : dy * A + dx < A * B ∧ (dy * A + dx) % A = dx ∧ (dy * A + dx) / A = dy := by
  refine ⟨?_, ?_, ?_⟩
  · have : (dy + 1) * A ≤ B * A := Nat.mul_le_mul_right A hy
    rw [Nat.mul_comm A B]
    rw [Nat.succ_mul] at this; omega
  · rw [Nat.add_comm, Nat.add_mul_mod_self_right, Nat.mod_eq_of_lt hx]
  · rw [Nat.add_comm, Nat.add_mul_div_right _ _ (by omega), Nat.div_eq_of_lt hx, Nat.zero_add]
theorem cell_mod {A B k : Nat} (hA : 0 < A) (hk : k < A * B) : k % A < A ∧ k / A < B := ⟨Nat.mod_lt _ hA, Nat.div_lt_of_lt_mul hk⟩
/-- free, as the model sees it, is not taken, as the class sees it -/
theorem free_taken {n s t : Nat} {x y : Int32} {A B : Nat} (qf : wFm w h) (wf : wfS w n s t) (wi : wfI w) (hx : ∃ X : Nat, x = nI X ∧ X ≤ 11) (hy : ∃ Y : Nat, y = nI Y ∧ Y ≤ 7) (hA : 0 < A) (hA6 : A ≤ 6) (hB : 0 < B) (hB6 : B ≤ 6) : cFree w x y A B ↔ ¬ fTakenB h x y (nI A) (nI B) 22 := by
  obtain ⟨X, rfl, hX⟩ := hx
  obtain ⟨Y, rfl, hY⟩ := hy
  constructor
  · rintro q ⟨i, hi, sp, fc⟩
    have ci := (place_item qf wf hi).mp sp
    have bi := wi.1 i hi ci
    rw [fcov_int qf bi hi (nI_toInt (by omega)) (nI_toInt (by omega)) (nI_toInt (by omega)) (nI_toInt (by omega)) (by omega) (by omega)] at fc
    obtain ⟨h1, h2, h3, h4, h5, h6, h7, h8, h9, h10⟩ := box_X bi
    obtain ⟨m1, m2, m3⟩ := mod_cell (A := A) (B := B) (dx := bX w i 0 - X) (dy := bX w i 1 - Y) (by omega) (by omega)
    refine q i hi _ m1 ⟨ci, ?_⟩
    rw [m2, m3, nI_add, nI_add, cov_int bi (nI_toInt (by omega)) (nI_toInt (by omega))]
    omega
  · intro q i hi k hk ⟨ci, cv⟩
    have bi := wi.1 i hi ci
    obtain ⟨l1, l2⟩ := cell_mod hA hk
    rw [nI_add, nI_add, cov_int bi (nI_toInt (by omega)) (nI_toInt (by omega))] at cv
    refine q ⟨i, hi, (place_item qf wf hi).mpr ci, ?_⟩
    rw [fcov_int qf bi hi (nI_toInt (by omega)) (nI_toInt (by omega)) (nI_toInt (by omega)) (nI_toInt (by omega)) (by omega) (by omega)]
    generalize k % A = u at *
    generalize k / A = v at *
    omega
/-- beside each other, as both see it -/
theorem near_nb {n s t i k : Nat} (qf : wFm w h) (wf : wfS w n s t) (wi : wfI w) (hi : i < 22) (ci : cItem w i) (hk : k < 22) : nbP h (nI i) k ↔ nearP w i k := by
  have bi := wi.1 i hi ci
  obtain ⟨x1, x2, x3, x4, x5, x6, x7, x8, x9, x10⟩ := box_X bi
  unfold nbP nearP
  rw [show (0 : Int32) = nI 0 from rfl, show (1 : Int32) = nI 1 from rfl, show (2 : Int32) = nI 2 from rfl, show (3 : Int32) = nI 3 from rfl, fact_w qf hi (by decide), fact_w qf hi (by decide), fact_w qf hi (by decide), fact_w qf hi (by decide), x1, x2, x3, x4]
  rw [show (nI k = nI i) = (k = i) from propext (nI_eq (by omega) (by omega)), place_item qf wf hk, nI_add, nI_add]
  refine and_congr_right fun ne => and_congr_right fun ck => ?_
  have bk := wi.1 k hk ck
  obtain ⟨y1, y2, y3, y4, y5, y6, y7, y8, y9, y10⟩ := box_X bk
  have dj := wi.2 i k hi hk (fun z => ne z.symm) ci ck
  unfold dsj at dj
  have s1 : (nI (bX w i 0) - nI 1).toInt = (bX w i 0 : Int) - 1 := by rw [pk_sub_toInt (by omega) (by decide)]; rfl
  have s2 : (nI (bX w i 1) - nI 1).toInt = (bX w i 1 : Int) - 1 := by rw [pk_sub_toInt (by omega) (by decide)]; rfl
  rw [fcov_int qf bk hk s1 (nI_toInt (by omega)) (nI_toInt (by omega)) (nI_toInt (by omega)) (by omega) (by omega), fcov_int qf bk hk (nI_toInt (by omega)) s2 (nI_toInt (by omega)) (nI_toInt (by omega)) (by omega) (by omega)]
  have tk : ∀ A B j, A = bX w i 2 → B = bX w i 3 → j < A * B → (tchK w i k A j ↔ (((bX w k 0 : Int) ≤ bX w i 0 + (j % A : Nat) + 1 ∧ (bX w i 0 : Int) + (j % A : Nat) + 1 < bX w k 0 + bX w k 2) ∧ ((bX w k 1 : Int) ≤ bX w i 1 + (j / A : Nat) ∧ (bX w i 1 : Int) + (j / A : Nat) < bX w k 1 + bX w k 3)) ∨ (((bX w k 0 : Int) ≤ bX w i 0 + (j % A : Nat) - 1 ∧ (bX w i 0 : Int) + (j % A : Nat) - 1 < bX w k 0 + bX w k 2) ∧ ((bX w k 1 : Int) ≤ bX w i 1 + (j / A : Nat) ∧ (bX w i 1 : Int) + (j / A : Nat) < bX w k 1 + bX w k 3)) ∨ (((bX w k 0 : Int) ≤ bX w i 0 + (j % A : Nat) ∧ (bX w i 0 : Int) + (j % A : Nat) < bX w k 0 + bX w k 2) ∧ ((bX w k 1 : Int) ≤ bX w i 1 + (j / A : Nat) + 1 ∧ (bX w i 1 : Int) + (j / A : Nat) + 1 < bX w k 1 + bX w k 3)) ∨ (((bX w k 0 : Int) ≤ bX w i 0 + (j % A : Nat) ∧ (bX w i 0 : Int) + (j % A : Nat) < bX w k 0 + bX w k 2) ∧ ((bX w k 1 : Int) ≤ bX w i 1 + (j / A : Nat) - 1 ∧ (bX w i 1 : Int) + (j / A : Nat) - 1 < bX w k 1 + bX w k 3))) := fun A B j eA eB hj => by
    subst eA; subst eB
    obtain ⟨l1, l2⟩ := cell_mod x5 hj
    unfold tchK
    rw [x1, x2, nI_add, nI_add]
    have u1 : (nI (bX w i 0 + j % bX w i 2) + 1).toInt = (bX w i 0 : Int) + (j % bX w i 2 : Nat) + 1 := by rw [show (1 : Int32) = nI 1 from rfl, nI_add, nI_toInt (by omega)]; omega
    have u2 : (nI (bX w i 0 + j % bX w i 2) - 1).toInt = (bX w i 0 : Int) + (j % bX w i 2 : Nat) - 1 := by rw [show (1 : Int32) = nI 1 from rfl, pk_sub_toInt (by omega) (by decide)]; omega
    have u3 : (nI (bX w i 1 + j / bX w i 2) + 1).toInt = (bX w i 1 : Int) + (j / bX w i 2 : Nat) + 1 := by rw [show (1 : Int32) = nI 1 from rfl, nI_add, nI_toInt (by omega)]; omega
    have u4 : (nI (bX w i 1 + j / bX w i 2) - 1).toInt = (bX w i 1 : Int) + (j / bX w i 2 : Nat) - 1 := by rw [show (1 : Int32) = nI 1 from rfl, pk_sub_toInt (by omega) (by decide)]; omega
    have v1 : (nI (bX w i 0 + j % bX w i 2)).toInt = (bX w i 0 : Int) + (j % bX w i 2 : Nat) := by rw [nI_toInt (by omega)]; omega
    have v2 : (nI (bX w i 1 + j / bX w i 2)).toInt = (bX w i 1 : Int) + (j / bX w i 2 : Nat) := by rw [nI_toInt (by omega)]; omega
    rw [cov_int bk u1 v2, cov_int bk u2 v2, cov_int bk v1 u3, cov_int bk v1 u4]
  have sz : sizeOk w i (bX w i 2) (bX w i 3) := ⟨x3, x4, x5, x6, x7, x8⟩
  generalize bX w i 0 = a0 at *
  generalize bX w i 1 = a1 at *
  generalize bX w k 0 = b0 at *
  generalize bX w k 1 = b1 at *
  generalize bX w k 2 = b2 at *
  generalize bX w k 3 = b3 at *
  constructor
  · intro q
    have cell : ∀ dx dy, dx < bX w i 2 → dy < bX w i 3 → ((((b0 : Int) ≤ a0 + (dx : Nat) + 1 ∧ (a0 : Int) + (dx : Nat) + 1 < b0 + b2) ∧ ((b1 : Int) ≤ a1 + (dy : Nat) ∧ (a1 : Int) + (dy : Nat) < b1 + b3)) ∨ (((b0 : Int) ≤ a0 + (dx : Nat) - 1 ∧ (a0 : Int) + (dx : Nat) - 1 < b0 + b2) ∧ ((b1 : Int) ≤ a1 + (dy : Nat) ∧ (a1 : Int) + (dy : Nat) < b1 + b3)) ∨ (((b0 : Int) ≤ a0 + (dx : Nat) ∧ (a0 : Int) + (dx : Nat) < b0 + b2) ∧ ((b1 : Int) ≤ a1 + (dy : Nat) + 1 ∧ (a1 : Int) + (dy : Nat) + 1 < b1 + b3)) ∨ (((b0 : Int) ≤ a0 + (dx : Nat) ∧ (a0 : Int) + (dx : Nat) < b0 + b2) ∧ ((b1 : Int) ≤ a1 + (dy : Nat) - 1 ∧ (a1 : Int) + (dy : Nat) - 1 < b1 + b3))) → tch w i k := fun dx dy h1 h2 z => by
      obtain ⟨m1, m2, m3⟩ := mod_cell h1 h2
      refine ⟨_, _, sz, _, m1, ?_⟩
      rw [tk _ _ _ rfl rfl m1, m2, m3]
      exact z
    rcases q with q | q
    · rcases dj with dj | dj | dj | dj
      · exact cell (bX w i 2 - 1) (b1 - a1) (by omega) (by omega) (Or.inl (by omega))
      · exact cell 0 (b1 - a1) (by omega) (by omega) (Or.inr (Or.inl (by omega)))
      · omega
      · omega
    · rcases dj with dj | dj | dj | dj
      · omega
      · omega
      · exact cell (b0 - a0) (bX w i 3 - 1) (by omega) (by omega) (Or.inr (Or.inr (Or.inl (by omega))))
      · exact cell (b0 - a0) 0 (by omega) (by omega) (Or.inr (Or.inr (Or.inr (by omega))))
  · rintro ⟨A, B, sz2, j, hj, z⟩
    obtain ⟨eA, eB⟩ := size_inj sz2 sz
    rw [tk A B j eA eB hj] at z
    subst eA; subst eB
    obtain ⟨l1, l2⟩ := cell_mod sz2.2.2.1 hj
    generalize j % bX w i 2 = u at *
    generalize j / bX w i 2 = v at *
    omega
/-- what a place has of the ground and the sides -/
theorem held_firm {i : Nat} (qf : wFm w h) (hi : i < 22) : fHeld h (nI i) = mFirm w i := by
  unfold fHeld mFirm
  rw [show (0 : Int32) = nI 0 from rfl, show (1 : Int32) = nI 1 from rfl, show (2 : Int32) = nI 2 from rfl, fact_w qf hi (by decide), fact_w qf hi (by decide), fact_w qf hi (by decide), term_w qf (by decide), term_w qf (by decide)]
  show (if w (7 * i + 0) + w (7 * i + 2) = 12 then (if w (7 * i + 0) = 0 then (if w (7 * i + 1) = 0 then w 155 else 0) + w 156 else (if w (7 * i + 1) = 0 then w 155 else 0)) + w 156 else (if w (7 * i + 0) = 0 then (if w (7 * i + 1) = 0 then w 155 else 0) + w 156 else (if w (7 * i + 1) = 0 then w 155 else 0))) = (if w (7 * i + 1) = 0 then w 155 else 0) + (if w (7 * i + 0) = 0 then w 156 else 0) + (if w (7 * i + 0) + w (7 * i + 2) = 12 then w 156 else 0)
  by_cases e1 : w (7 * i + 0) + w (7 * i + 2) = 12
  · by_cases e2 : w (7 * i + 0) = 0
    · rw [if_pos e1, if_pos e2, if_pos e2, if_pos e1]
    · rw [if_pos e1, if_neg e2, if_neg e2, if_pos e1, Int32.add_zero]
  · by_cases e2 : w (7 * i + 0) = 0
    · rw [if_neg e1, if_pos e2, if_pos e2, if_neg e1, Int32.add_zero]
    · rw [if_neg e1, if_neg e2, if_neg e2, if_neg e1, Int32.add_zero, Int32.add_zero]
end T87
