/-! the model's public methods: stones, terms, the tape -/
section T42
variable {cx : Cx} {d a : Nat} {h g : Hp}
def cFree (w : Wd) (x y : Int32) (A B : Nat) : Prop := ∀ i, i < 22 → ∀ k, k < A * B → ¬ cHit w x y A i k
theorem can_nat {x y wd tl wt : Int32} (q : cCan x y wd tl wt) : ∃ A B : Nat, wd = nI A ∧ tl = nI B ∧ 0 < A ∧ A ≤ 6 ∧ 0 < B ∧ B ≤ 6 := by
  have f : ∀ v : Int32, (1 : Int32) ≤ v ∧ v ≤ 6 → ∃ A : Nat, v = nI A ∧ 0 < A ∧ A ≤ 6 := fun v hv => by
    rcases pk_ix v (n := 7) (by decide) with z | z | ⟨j, hj, rfl⟩
    · exact absurd (Int32.lt_of_lt_of_le z (show (0 : Int32) ≤ 1 by decide)) (Int32.not_lt.mpr hv.1)
    · exact absurd (Int32.le_trans z hv.2) (by decide)
    · refine ⟨j, rfl, Nat.pos_of_ne_zero fun z => ?_, by omega⟩
      subst z; exact absurd hv.1 (by decide)
  obtain ⟨A, h1, h2, h3⟩ := f wd q.1
  obtain ⟨B, h4, h5, h6⟩ := f tl q.2.1
  exact ⟨A, B, h1, h4, h2, h3, h5, h6⟩
theorem n_stone_no (hd : 2 ≤ d) {x y wd tl wt : Int32} (q : ¬ cCan x y wd tl wt) : M cx jX12_stone d a [.ref o_m, .int x, .int y, .int wd, .int tl, .int wt] h (RQ (.int (-1)) (nrefH h (-1) 1)) :=
  sX12_stone rfl (wcS (n_canBe (by omega)) (And.intro (fun q1 => absurd (b2i_n q1) q) (fun q1 => (wcV (n_refuses rfl (by decide)) ⟨rfl, rfl⟩))))
theorem n_stone_way (hd : 4 ≤ d) {x y wd tl wt : Int32} {A B : Nat} (q : cCan x y wd tl wt) (eA : wd = nI A) (eB : tl = nI B) (hA : 0 < A) (hA6 : A ≤ 6) (hB : B ≤ 6) (q2 : ¬ cFree (kW h) x y A B) : M cx jX12_stone d a [.ref o_m, .int x, .int y, .int wd, .int tl, .int wt] h (RQ (.int (-3)) (nrefH h (-3) 3)) :=
  sX12_stone rfl (wcS (n_canBe (by omega)) (And.intro (fun q1 => (eX12_stone (wcV (n_isFree (by omega) eA eB hA hA6 hB) (And.intro (fun z => absurd (b2i_n z) q2) (fun _ => (wcV (n_refuses rfl (by decide)) ⟨rfl, rfl⟩)))))) (fun q1 => absurd q (b2i_0.mp q1))))
theorem n_stone_full (hd : 4 ≤ d) {x y wd tl wt : Int32} {A B : Nat} (q : cCan x y wd tl wt) (eA : wd = nI A) (eB : tl = nI B) (hA : 0 < A) (hA6 : A ≤ 6) (hB : B ≤ 6) (q2 : cFree (kW h) x y A B) (q3 : kW h 157 = 14) : M cx jX12_stone d a [.ref o_m, .int x, .int y, .int wd, .int tl, .int wt] h (RQ (.int (-5)) (nrefH h (-5) 5)) :=
  sX12_stone rfl (wcS (n_canBe (by omega)) (And.intro (fun q1 => (eX12_stone (wcV (n_isFree (by omega) eA eB hA hA6 hB) (And.intro (fun z => (eX12_stone (wcV n_stones (And.intro (fun z => absurd q3 z) (fun z => (wcV (n_refuses rfl (by decide)) ⟨rfl, rfl⟩)))))) (fun z => absurd q2 (b2i_0.mp z)))))) (fun q1 => absurd q (b2i_0.mp q1))))
theorem n_stone_ok (hd : 4 ≤ d) {x y wd tl wt : Int32} {A B n : Nat} (q : cCan x y wd tl wt) (eA : wd = nI A) (eB : tl = nI B) (hA : 0 < A) (hA6 : A ≤ 6) (hB : B ≤ 6) (q2 : cFree (kW h) x y A B) (en : kW h 157 = nI n) (hn : n < 14) : M cx jX12_stone d a [.ref o_m, .int x, .int y, .int wd, .int tl, .int wt] h (RQ (.int (nI n)) (ngoodH (naddH h n x y wd tl wt))) :=
  sX12_stone rfl (wcS (n_canBe (by omega)) (And.intro (fun q1 => (eX12_stone (wcV (n_isFree (by omega) eA eB hA hA6 hB) (And.intro (fun z => (eX12_stone (wcV n_stones (And.intro (fun z => (eX12_stone (wcV (n_adds (by omega) en hn) (wcV n_good ⟨rfl, rfl⟩)))) (fun z => absurd (z.symm.trans en) (fun z => by have := congrArg Int32.toNatClampNeg z; rw [nI_clamp (by omega)] at this; exact absurd (show 14 = n from this) (by omega))))))) (fun z => absurd q2 (b2i_0.mp z)))))) (fun q1 => absurd q (b2i_0.mp q1))))
theorem n_spare_no (hd : 2 ≤ d) {x y wd tl wt : Int32} (q : ¬ cCan x y wd tl wt) : M cx jX12_spare d a [.ref o_m, .int x, .int y, .int wd, .int tl, .int wt] h (RQ (.int (-1)) (nrefH h (-1) 1)) :=
  sX12_spare rfl (wcS (n_canBe (by omega)) (And.intro (fun q1 => absurd (b2i_n q1) q) (fun q1 => (wcV (n_refuses rfl (by decide)) ⟨rfl, rfl⟩))))
theorem n_spare_way (hd : 4 ≤ d) {x y wd tl wt : Int32} {A B : Nat} (q : cCan x y wd tl wt) (eA : wd = nI A) (eB : tl = nI B) (hA : 0 < A) (hA6 : A ≤ 6) (hB : B ≤ 6) (q2 : ¬ cFree (kW h) x y A B) : M cx jX12_spare d a [.ref o_m, .int x, .int y, .int wd, .int tl, .int wt] h (RQ (.int (-3)) (nrefH h (-3) 3)) :=
  sX12_spare rfl (wcS (n_canBe (by omega)) (And.intro (fun q1 => (eX12_spare (wcV (n_isFree (by omega) eA eB hA hA6 hB) (And.intro (fun z => absurd (b2i_n z) q2) (fun _ => (wcV (n_refuses rfl (by decide)) ⟨rfl, rfl⟩)))))) (fun q1 => absurd q (b2i_0.mp q1))))
theorem n_spare_full (hd : 4 ≤ d) {x y wd tl wt : Int32} {A B : Nat} (q : cCan x y wd tl wt) (eA : wd = nI A) (eB : tl = nI B) (hA : 0 < A) (hA6 : A ≤ 6) (hB : B ≤ 6) (q2 : cFree (kW h) x y A B) (q3 : kW h 158 = 8) : M cx jX12_spare d a [.ref o_m, .int x, .int y, .int wd, .int tl, .int wt] h (RQ (.int (-5)) (nrefH h (-5) 5)) :=
  sX12_spare rfl (wcS (n_canBe (by omega)) (And.intro (fun q1 => (eX12_spare (wcV (n_isFree (by omega) eA eB hA hA6 hB) (And.intro (fun z => (eX12_spare (wcV n_spares (And.intro (fun z => absurd q3 z) (fun z => (wcV (n_refuses rfl (by decide)) ⟨rfl, rfl⟩)))))) (fun z => absurd q2 (b2i_0.mp z)))))) (fun q1 => absurd q (b2i_0.mp q1))))
def nspaH (h : Hp) (n : Nat) (x y wd tl wt : Int32) : Hp := wI (nlayH h (14 + n) x y wd tl wt) o_m_kept 158 (kW (nlayH h (14 + n) x y wd tl wt) 158 + 1)
theorem n_spare_ok (hd : 4 ≤ d) {x y wd tl wt : Int32} {A B n : Nat} (q : cCan x y wd tl wt) (eA : wd = nI A) (eB : tl = nI B) (hA : 0 < A) (hA6 : A ≤ 6) (hB : B ≤ 6) (q2 : cFree (kW h) x y A B) (en : kW h 158 = nI n) (hn : n < 8) : M cx jX12_spare d a [.ref o_m, .int x, .int y, .int wd, .int tl, .int wt] h (RQ (.int (nI n)) (ngoodH (nspaH h n x y wd tl wt))) :=
  sX12_spare rfl (wcS (n_canBe (by omega)) (And.intro (fun q1 => (eX12_spare (wcV (n_isFree (by omega) eA eB hA hA6 hB) (And.intro (fun z => (eX12_spare (wcV (v := .int (nI n)) (by rw [← en]; exact n_spares) (And.intro (fun z => (eX12_spare (wcV0 (n_lays (k := 14 + n) (nI_add 14 n) (by omega)) (And.intro (vp_in_nI (n := 158) (by decide) (by decide)) (And.intro (vp_in_nI (n := 158) (by decide) (by decide)) (wcV n_good ⟨rfl, rfl⟩)))))) (fun z => absurd z (fun z => by have := congrArg Int32.toNatClampNeg z; rw [nI_clamp (by omega)] at this; exact absurd (show n = 8 from this) (by omega))))))) (fun z => absurd q2 (b2i_0.mp z)))))) (fun q1 => absurd q (b2i_0.mp q1))))
def putLo (w : Int32) : Int32 := if w = 0 then 1 else 0
def putHi (w : Int32) : Int32 := if w = 0 then 99 else if w = 1 then 3 else 100
def cPut (w v : Int32) : Prop := ((0 : Int32) ≤ w ∧ w ≤ 2) ∧ (putLo w ≤ v ∧ v ≤ putHi w)
theorem e_putJoin {s w v : Int32} {Q : Option Value → Hp → Prop} {l4 : Option Value} (k : E cx jX12_put d a 39 [some (.ref o_m), some (.int s), some (.int w), some (.int v), l4] [.int (putHi w), .int (putLo w), .int v] h Q) : E cx jX12_put d a 19 [some (.ref o_m), some (.int s), some (.int w), some (.int v), l4] [.int (putLo w), .int v] h Q := by
  refine eX12_put (And.intro (fun q3 => (eX12_put (And.intro (fun q4 => (eX12_put ?_)) (fun q4 => ?_)))) (fun q3 => ?_))
  · have e : putHi w = 100 := by unfold putHi; rw [if_neg q3, if_neg q4]
    rw [e] at k; exact k
  · have e : putHi w = 3 := by unfold putHi; rw [if_neg q3, if_pos q4]
    rw [e] at k; exact k
  · have e : putHi w = 99 := by unfold putHi; rw [if_pos q3]
    rw [e] at k; exact k
theorem e_putTop {s w v : Int32} {Q : Option Value → Hp → Prop} (hd : 1 ≤ d) (k1 : ¬ cPut w v → E cx jX12_put d a 45 [some (.ref o_m), some (.int s), some (.int w), some (.int v), none] [] h Q) (k2 : cPut w v → E cx jX12_put d a 51 [some (.ref o_m), some (.int s), some (.int w), some (.int v), none] [] h Q) : M cx jX12_put d a [.ref o_m, .int s, .int w, .int v] h Q := by
  have j : (0 : Int32) ≤ w ∧ w ≤ 2 → E cx jX12_put d a 39 [some (.ref o_m), some (.int s), some (.int w), some (.int v), none] [.int (putHi w), .int (putLo w), .int v] h Q := fun z => eX12_put (wcS n_lies (And.intro (fun q5 => k2 ⟨z, b2i_n q5⟩) (fun q5 => k1 fun y => b2i_0.mp q5 y.2)))
  refine sX12_put rfl (wcS n_lies (And.intro (fun q1 => k1 fun y => b2i_0.mp q1 y.1) (fun q1 => (And.intro (fun q2 => (eX12_put ?_)) (fun q2 => ?_)))))
  · have e : putLo w = 0 := by unfold putLo; rw [if_neg q2]
    have := e_putJoin (j (b2i_n q1)); rw [e] at this; exact this
  · have e : putLo w = 1 := by unfold putLo; rw [if_pos q2]
    have := e_putJoin (j (b2i_n q1)); rw [e] at this; exact this
theorem n_put_no (hd : 1 ≤ d) {s w v : Int32} (q : ¬ cPut w v) : M cx jX12_put d a [.ref o_m, .int s, .int w, .int v] h (RQ (.int (-1)) (nrefH h (-1) 1)) :=
  e_putTop hd (fun _ => eX12_put (wcV (n_refuses rfl (by decide)) ⟨rfl, rfl⟩)) (fun z => absurd z q)
theorem n_put_such (hd : 2 ≤ d) {s w v : Int32} (q : cPut w v) (q2 : ¬ cStone (kW h) s) : M cx jX12_put d a [.ref o_m, .int s, .int w, .int v] h (RQ (.int (-2)) (nrefH h (-2) 2)) :=
  e_putTop (by omega) (fun z => absurd q z) (fun _ => eX12_put (wcV (n_isStone (by omega)) (And.intro (fun q6 => absurd (b2i_n q6) q2) (fun q6 => (wcV (n_refuses rfl (by decide)) ⟨rfl, rfl⟩)))))
theorem n_put_ok (hd : 2 ≤ d) {s w v : Int32} {k f : Nat} (q : cPut w v) (q2 : cStone (kW h) s) (es : s = nI k) (ew : w = nI f) (hk : k < 14) (hf : f < 3) : M cx jX12_put d a [.ref o_m, .int s, .int w, .int v] h (RQ (.int (kW h (7 * k + (4 + f)))) (ngoodH (wI h o_m_kept (7 * k + (4 + f)) v))) := by
  have e4 : (4 : Int32) + w = nI (4 + f) := by rw [ew]; exact nI_add 4 f
  have e5 : (7 : Int32) * s + 4 + w = nI (7 * k + (4 + f)) := by rw [Int32.add_assoc, e4, es, ix_7]
  have e6 : vp_in ((7 : Int32) * s + 4 + w) 4968 := by rw [e5]; exact vp_in_nI (by omega) (by decide)
  have e7 : ((7 : Int32) * s + 4 + w).toNatClampNeg = 7 * k + (4 + f) := by rw [e5]; exact nI_clamp (by omega)
  refine e_putTop (by omega) (fun z => absurd q z) (fun _ => eX12_put (wcV (n_isStone (by omega)) (And.intro (fun q6 => eX12_put (wcV (n_factOf es e4 (by omega) (by omega)) (And.intro e6 ?_))) (fun q6 => absurd q2 (b2i_0.mp q6)))))
  rw [e7]
  exact wcV n_good ⟨rfl, rfl⟩
theorem n_of_no (hd : 2 ≤ d) {s w : Int32} (q : ¬ (cStone (kW h) s ∧ (0 : Int32) ≤ w ∧ w ≤ 7)) : M cx jX12_of d a [.ref o_m, .int s, .int w] h (RQ (.int (-1)) h) :=
  sX12_of rfl (wcV (n_isStone (by omega)) (And.intro (fun q1 => (eX12_of ⟨rfl, rfl⟩)) (fun q1 => (wcS n_lies (And.intro (fun q2 => absurd ⟨b2i_n q1, b2i_n q2⟩ q) (fun q2 => (eX12_of ⟨rfl, rfl⟩)))))))
theorem n_of_f (hd : 2 ≤ d) {s w : Int32} {k f : Nat} (q : cStone (kW h) s) (es : s = nI k) (ew : w = nI f) (hk : k < 14) (hf : f < 7) : M cx jX12_of d a [.ref o_m, .int s, .int w] h (RQ (.int (kW h (7 * k + f))) h) := by
  have e0 : (0 : Int32) ≤ w ∧ w ≤ 7 := by rw [ew]; exact ⟨nI_pos' (by omega), nI_le (b := 7) (by omega) (by decide)⟩
  exact sX12_of rfl (wcV (n_isStone (by omega)) (And.intro (fun q1 => absurd q (b2i_0.mp q1)) (fun q1 => (wcS n_lies (And.intro (fun q2 => (eX12_of (And.intro (fun q3 => absurd q3 (by rw [ew]; exact nI_ge (b := 7) hf (by decide))) (fun q3 => (wcV (n_factOf es ew (by omega) hf) (eX12_of ⟨rfl, rfl⟩)))))) (fun q2 => absurd e0 (b2i_0.mp q2)))))))
theorem n_of_7 (hd : 2 ≤ d) {s : Int32} (q : cStone (kW h) s) : M cx jX12_of d a [.ref o_m, .int s, .int 7] h (RQ (.int ((kW h 159 >>> (s &&& 31)) &&& 1)) h) :=
  sX12_of rfl (wcV (n_isStone (by omega)) (And.intro (fun q1 => absurd q (b2i_0.mp q1)) (fun q1 => (wcS n_lies (And.intro (fun q2 => (eX12_of (And.intro (fun q3 => (eX12_of (And.intro (vp_in_nI (n := 159) (by decide) (by decide)) (eX12_of ⟨rfl, rfl⟩)))) (fun q3 => absurd (Int32.le_refl _) q3)))) (fun q2 => absurd (⟨by decide, by decide⟩ : (0 : Int32) ≤ 7 ∧ (7 : Int32) ≤ 7) (b2i_0.mp q2)))))))
def teHi (w : Int32) : Int32 := if w = 0 then 12 else 9
def cTerm (w v : Int32) : Prop := ((0 : Int32) ≤ w ∧ w ≤ 2) ∧ ((0 : Int32) ≤ v ∧ v ≤ teHi w)
theorem e_teTop {w v : Int32} {Q : Option Value → Hp → Prop} (hd : 1 ≤ d) (k1 : ¬ cTerm w v → E cx jX12_terms d a 28 [some (.ref o_m), some (.int w), some (.int v), none] [] h Q) (k2 : cTerm w v → E cx jX12_terms d a 34 [some (.ref o_m), some (.int w), some (.int v), none] [] h Q) : M cx jX12_terms d a [.ref o_m, .int w, .int v] h Q := by
  have j : (0 : Int32) ≤ w ∧ w ≤ 2 → E cx jX12_terms d a 22 [some (.ref o_m), some (.int w), some (.int v), none] [.int (teHi w), .int 0, .int v] h Q := fun z => eX12_terms (wcS n_lies (And.intro (fun q5 => k2 ⟨z, b2i_n q5⟩) (fun q5 => k1 fun y => b2i_0.mp q5 y.2)))
  refine sX12_terms rfl (wcS n_lies (And.intro (fun q1 => k1 fun y => b2i_0.mp q1 y.1) (fun q1 => (And.intro (fun q2 => (eX12_terms ?_)) (fun q2 => ?_)))))
  · have e : teHi w = 9 := by unfold teHi; rw [if_neg q2]
    have := j (b2i_n q1); rw [e] at this; exact this
  · have e : teHi w = 12 := by unfold teHi; rw [if_pos q2]
    have := j (b2i_n q1); rw [e] at this; exact this
theorem n_terms_no (hd : 1 ≤ d) {w v : Int32} (q : ¬ cTerm w v) : M cx jX12_terms d a [.ref o_m, .int w, .int v] h (RQ (.int (-1)) (nrefH h (-1) 1)) :=
  e_teTop hd (fun _ => eX12_terms (wcV (n_refuses rfl (by decide)) ⟨rfl, rfl⟩)) (fun z => absurd z q)
theorem n_terms_ok (hd : 1 ≤ d) {w v : Int32} {f : Nat} (q : cTerm w v) (ew : w = nI f) (hf : f < 3) : M cx jX12_terms d a [.ref o_m, .int w, .int v] h (RQ (.int (kW h (154 + f))) (ngoodH (wI h o_m_kept (154 + f) v))) := by
  have e5 : (154 : Int32) + w = nI (154 + f) := by rw [ew]; exact nI_add 154 f
  have e6 : vp_in ((154 : Int32) + w) 4968 := by rw [e5]; exact vp_in_nI (by omega) (by decide)
  have e7 : ((154 : Int32) + w).toNatClampNeg = 154 + f := by rw [e5]; exact nI_clamp (by omega)
  refine e_teTop (by omega) (fun z => absurd q z) (fun _ => eX12_terms (And.intro e6 (And.intro e6 ?_)))
  rw [e7]
  exact wcV n_good ⟨rfl, rfl⟩
theorem n_end_no (hd : 1 ≤ d) {n : Int32} (q : ¬ ((0 : Int32) ≤ n ∧ n ≤ hI h o_m 10)) : M cx jX12_end d a [.ref o_m, .int n] h (RQ (.int (-1)) h) :=
  sX12_end rfl (wcS n_lies (And.intro (fun q1 => absurd (b2i_n q1) q) (fun _ => ⟨rfl, rfl⟩)))
theorem n_end_ok (hd : 1 ≤ d) {n : Int32} (q : (0 : Int32) ≤ n ∧ n ≤ hI h o_m 10) : M cx jX12_end d a [.ref o_m, .int n] h (RQ (.int n) (wI h o_m 10 n)) :=
  sX12_end rfl (wcS n_lies (And.intro (fun _ => eX12_end ⟨rfl, rfl⟩) (fun q1 => absurd q (b2i_0.mp q1))))
theorem n_force_no (hd : 1 ≤ d) {n : Int32} (q : ¬ ((-1 : Int32) ≤ n ∧ n ≤ kW h 160 - 1)) : M cx jX12_force d a [.ref o_m, .int n] h (RQ (.int (-2)) (nrefH h (-2) 2)) :=
  sX12_force rfl (And.intro (vp_in_nI (n := 160) (by decide) (by decide)) (wcS n_lies (And.intro (fun q1 => absurd (b2i_n q1) q) (fun _ => wcV (n_refuses rfl (by decide)) ⟨rfl, rfl⟩))))
theorem n_force_ok (hd : 1 ≤ d) {n : Int32} (q : (-1 : Int32) ≤ n ∧ n ≤ kW h 160 - 1) : M cx jX12_force d a [.ref o_m, .int n] h (RQ (.int (kW h 161)) (ngoodH (wI h o_m_kept 161 n))) :=
  sX12_force rfl (And.intro (vp_in_nI (n := 160) (by decide) (by decide)) (wcS n_lies (And.intro (fun _ => eX12_force (And.intro (vp_in_nI (n := 161) (by decide) (by decide)) (And.intro (vp_in_nI (n := 161) (by decide) (by decide)) (wcV n_good ⟨rfl, rfl⟩)))) (fun q1 => absurd q (b2i_0.mp q1)))))
theorem n_there : M cx jX12_there d a [.ref o_m] h (RQ (.int (kW h 159)) h) := sX12_there rfl (And.intro (vp_in_nI (n := 159) (by decide) (by decide)) ⟨rfl, rfl⟩)
theorem n_rubble : M cx jX12_rubble d a [.ref o_m] h (RQ (.int (hI h o_m 6)) h) := sX12_rubble rfl ⟨rfl, rfl⟩
theorem n_fault : M cx jX12_fault d a [.ref o_m] h (RQ (.int (hI h o_m 11)) h) := sX12_fault rfl ⟨rfl, rfl⟩
theorem n_status : M cx jX12_status d a [.ref o_m] h (RQ (.int (hI h o_m 0)) h) := sX12_status rfl ⟨rfl, rfl⟩
def cAll (w : Wd) : Int32 := ((1 : Int32) <<< (w 157 &&& 31)) - 1
theorem n_stand_no (hd : 1 ≤ d) {s : Int32} (q : ¬ ((0 : Int32) ≤ s ∧ s ≤ cAll (kW h))) : M cx jX12_stand d a [.ref o_m, .int s] h (RQ (.int (-1)) (nrefH h (-1) 1)) :=
  sX12_stand rfl (wcV n_stones (wcS n_lies (And.intro (fun q1 => absurd (b2i_n q1) q) (fun _ => wcV (n_refuses rfl (by decide)) ⟨rfl, rfl⟩))))
theorem n_stand_ok (hd : 1 ≤ d) {s : Int32} (q : (0 : Int32) ≤ s ∧ s ≤ cAll (kW h)) : M cx jX12_stand d a [.ref o_m, .int s] h (RQ (.int (kW h 159)) (ngoodH (wI h o_m_kept 159 s))) :=
  sX12_stand rfl (wcV n_stones (wcS n_lies (And.intro (fun _ => eX12_stand (And.intro (vp_in_nI (n := 159) (by decide) (by decide)) (And.intro (vp_in_nI (n := 159) (by decide) (by decide)) (wcV n_good ⟨rfl, rfl⟩)))) (fun q1 => absurd q (b2i_0.mp q1)))))
def cPart (w : Wd) (s : Int32) : Prop := ((0 : Int32) ≤ s ∧ s ≤ 16383) ∧ s &&& (w 159 ^^^ -1) = 0
theorem n_areThere (hd : 1 ≤ d) {s : Int32} : M cx jX12_areThere d a [.ref o_m, .int s] h (RQ (.int (b2i (cPart (kW h) s))) h) := by
  refine sX12_areThere rfl (wcS n_lies (And.intro (fun q1 => eX12_areThere (eX12_areThere (And.intro (Or.inl rfl) (RQ_eq (b2i_f (fun z => b2i_0.mp q1 z.1)).symm)))) (fun q1 => And.intro (vp_in_nI (n := 159) (by decide) (by decide)) (And.intro (fun q2 => eX12_areThere (eX12_areThere (And.intro (Or.inl rfl) (RQ_eq (b2i_f (fun z => q2 z.2)).symm)))) (fun q2 => eX12_areThere (And.intro (Or.inr rfl) (RQ_eq (b2i_t ⟨b2i_n q1, q2⟩).symm)))))))
end T42
