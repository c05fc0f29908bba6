/-! the model: take, farm, gate, mend -/
def gtP (w : Wd) (x y u v : Int32) (k : Nat) : Prop := (w (7 * k + 0) ≤ u ∧ x < w (7 * k + 0) + w (7 * k + 2)) ∧ (w (7 * k + 1) ≤ v ∧ y < w (7 * k + 1) + w (7 * k + 3))
noncomputable def fewF (P : Nat → Prop) : Nat → Int32 × Int32
  | 0 => (-1, 0)
  | k + 1 => @ite _ (P k) (Classical.propDecidable _) (if (fewF P k).1 = -1 then (nI k, 1) else if onesR (fewF P k).1 22 < onesR (nI k) 22 then fewF P k else if onesR (nI k) 22 < onesR (fewF P k).1 22 then (nI k, 1) else ((fewF P k).1, (fewF P k).2 + 1)) (fewF P k)
section T68
variable {cx : Cx} {d a c : Nat} {h g f : Hp} {w : Wd}
theorem n_take_no (hd : 2 ≤ d) {s : Int32} (no : ¬ cPart (kW h) s) : M cx jX12_take d a [.ref o_m, .int s] h (RQ (.int (-1)) (nrefH h (-1) 1)) :=
  sX12_take rfl (wcV (n_areThere (by omega)) (And.intro (fun q1 => absurd (b2i_n q1) no) (fun q1 => (wcV (n_refuses rfl (by decide)) ⟨rfl, rfl⟩))))
theorem n_take_ok (hd : 63 ≤ d) {n : Nat} {s : Int32} (eW : kW h = w) (wf : wfW w) (cc : mC c w h) (en : w 157 = nI n) (hn : n ≤ 14) (lT : low n (w 159)) (hs : cPart w s) : M cx jX12_take d a [.ref o_m, .int s] h (fun v g => ∃ G, keepM h G ∧ mC c w G ∧ v = some (.int (onesR (w 159) 22 - onesR (fallA (aU w (lawOf w)) (dif (w 159) s)) 22)) ∧ g = ngoodH (wI G o_m_kept 159 (fallA (aU w (lawOf w)) (dif (w 159) s)))) := by
  refine sX12_take rfl (wcV (n_areThere (by omega)) (And.intro (fun q1 => (eX12_take (wcQ (n_looksC (by omega) eW wf cc) (fun v G z => ?_) (fun v G z => keepL_N z.2.1)))) (fun q1 => absurd (by rw [eW]; exact hs) (b2i_0.mp q1))))
  obtain ⟨rfl, kL, cG, lk, e27⟩ := z
  have eG : kW G = w := (keepL_W kL).trans eW
  have eT : hI G (ly_rf o_m 3) (159 : Int32).toNatClampNeg = w 159 := by show kW G 159 = _; rw [eG]
  have fa : M cx jX12_fall (d - 1) 0 [.ref o_m, .int (hI G (ly_rf o_m 3) (159 : Int32).toNatClampNeg &&& (s ^^^ -1))] G (RQ (.int (fallA (aU w (lawOf w)) (dif (w 159) s))) G) := by
    rw [eT]; exact n_fallU (by omega) lk (items_low en hn (low_sub sub_dif lT))
  refine (And.intro v159 (wcV fa (And.intro v159 (wcS n_ones (And.intro v159 (wcS n_ones (wcV n_good ⟨G, keepL_M kL, cG, ?_, rfl⟩)))))))
  rw [eT]
  have : hI (wI G o_m_kept 159 (fallA (aU w (lawOf w)) (dif (w 159) s))) o_m_kept 159 = fallA (aU w (lawOf w)) (dif (w 159) s) := rd_same
  show some (Value.int (onesR (w 159) 22 - onesR (hI (wI G o_m_kept 159 (fallA (aU w (lawOf w)) (dif (w 159) s))) o_m_kept 159) 22)) = _
  rw [this]
theorem n_farm_no (hd : 2 ≤ d) {s q : Int32} (no : ¬ (cPart (kW h) s ∧ 0 ≤ q ∧ q ≤ 3)) : M cx jX12_farm d a [.ref o_m, .int s, .int q] h (RQ (.int (-1)) h) :=
  sX12_farm rfl (wcV (n_areThere (by omega)) (And.intro (fun q1 => (eX12_farm ⟨rfl, rfl⟩)) (fun q1 => (wcS n_lies (And.intro (fun q2 => absurd ⟨b2i_n q1, b2i_n q2⟩ no) (fun q2 => (eX12_farm ⟨rfl, rfl⟩)))))))
theorem n_farm_ok (hd : 63 ≤ d) {n : Nat} {s q : Int32} (eW : kW h = w) (wf : wfW w) (cc : mC c w h) (en : w 157 = nI n) (hn : n ≤ 14) (lT : low n (w 159)) (hs : cPart w s) (hq : 0 ≤ q ∧ q ≤ 3) : M cx jX12_farm d a [.ref o_m, .int s, .int q] h (qM c w h (nI (cnt (fun k => bt (dif (w 159) (fallA (aU w (lawOf w)) (dif (w 159) s))) k = true ∧ w (7 * k + 5) = q) n))) := by
  refine sX12_farm rfl (wcV (n_areThere (by omega)) (And.intro (fun q1 => absurd (by rw [eW]; exact hs) (b2i_0.mp q1)) (fun q1 => (wcS n_lies (And.intro (fun q2 => (eX12_farm (wcQ (n_looksC (by omega) eW wf cc) (fun v G z => ?_) (fun v G z => keepL_N z.2.1)))) (fun q2 => absurd hq (b2i_0.mp q2)))))))
  obtain ⟨rfl, kL, cG, lk, e27⟩ := z
  have eG : kW G = w := (keepL_W kL).trans eW
  have eT : hI G (ly_rf o_m 3) (159 : Int32).toNatClampNeg = w 159 := by show kW G 159 = _; rw [eG]
  have fa : M cx jX12_fall (d - 1) 0 [.ref o_m, .int (hI G (ly_rf o_m 3) (159 : Int32).toNatClampNeg &&& (s ^^^ -1))] G (RQ (.int (fallA (aU w (lawOf w)) (dif (w 159) s))) G) := by
    rw [eT]; exact n_fallU (by omega) lk (items_low en hn (low_sub sub_dif lT))
  have st : M cx jX12_stones (d - 1) 0 [.ref o_m] G (RQ (.int (nI n)) G) := by rw [← en, ← eG]; exact n_stones
  generalize eg : dif (w 159) (fallA (aU w (lawOf w)) (dif (w 159) s)) = gone
  have loop : ∀ m k, m + k = n → E cx jX12_farm d a 57 [some (.ref o_m), some (.int s), some (.int q), some (.int gone), some (.int (nI (cnt (fun k => bt gone k = true ∧ w (7 * k + 5) = q) k))), some (.int (nI k))] [] G (qM c w h (nI (cnt (fun k => bt gone k = true ∧ w (7 * k + 5) = q) n))) := by
    intro m
    induction m with
    | zero =>
      intro k hk
      obtain rfl : k = n := by omega
      exact eX12_farm (wcV st (And.intro (fun _ => eX12_farm ⟨rfl, keepL_M kL, cG⟩) (fun q => absurd (Int32.le_refl _) q)))
    | succ m ih =>
      intro k hk
      have i := ih (k + 1) (by omega)
      rw [nI_succ] at i
      have no : ¬ (bt gone k = true ∧ w (7 * k + 5) = q) → E cx jX12_farm d a 57 [some (.ref o_m), some (.int s), some (.int q), some (.int gone), some (.int (nI (cnt (fun k => bt gone k = true ∧ w (7 * k + 5) = q) k) + 0)), some (.int (nI k + 1))] [] G (qM c w h (nI (cnt (fun k => bt gone k = true ∧ w (7 * k + 5) = q) n))) := fun z => by
        rw [Int32.add_zero]
        rw [cnt_f (P := fun k => bt gone k = true ∧ w (7 * k + 5) = q) z] at i
        exact i
      refine eX12_farm (wcV st (And.intro (fun q => absurd q (nI_ge (by omega) (by omega))) (fun _ => (wcS n_isIn (And.intro (fun q2 => (eX12_farm (eX12_farm (no fun z => b2i_0.mp q2 ((inB_bt (by omega)).mpr z.1))))) (fun q2 => (wcV (n_factOf (k := k) (f := 5) rfl rfl (by omega) (by decide)) (And.intro (fun q3 => (eX12_farm (eX12_farm (no fun z => q3 (by rw [eG]; exact z.2))))) (fun q3 => (eX12_farm ?_))))))))))
      rw [eG] at q3
      rw [cnt_t (P := fun k => bt gone k = true ∧ w (7 * k + 5) = q) ⟨(inB_bt (by omega)).mp (b2i_n q2), q3⟩, nI_succ] at i
      exact i
  refine (And.intro v159 (And.intro v159 (wcV fa ?_)))
  refine e_eq (loop n 0 rfl) (by rw [eT, ← eg]; rfl) rfl rfl
/-! gate -/
theorem n_gate_no (hd : 1 ≤ d) {x y u v q : Int32} (no : ¬ ((0 ≤ x ∧ x ≤ 11) ∧ (x ≤ u ∧ u ≤ 11) ∧ (0 ≤ y ∧ y ≤ 7) ∧ (y ≤ v ∧ v ≤ 7) ∧ (0 ≤ q ∧ q ≤ 2))) : M cx jX12_gate d a [.ref o_m, .int x, .int y, .int u, .int v, .int q] h (RQ (.int (-1)) h) :=
  sX12_gate rfl (wcS n_lies (And.intro (fun q1 => (eX12_gate ⟨rfl, rfl⟩)) (fun q1 => (wcS n_lies (And.intro (fun q2 => (eX12_gate ⟨rfl, rfl⟩)) (fun q2 => (wcS n_lies (And.intro (fun q3 => (eX12_gate ⟨rfl, rfl⟩)) (fun q3 => (wcS n_lies (And.intro (fun q4 => (eX12_gate ⟨rfl, rfl⟩)) (fun q4 => (wcS n_lies (And.intro (fun q5 => absurd ⟨b2i_n q1, b2i_n q2, b2i_n q3, b2i_n q4, b2i_n q5⟩ no) (fun q5 => (eX12_gate ⟨rfl, rfl⟩))))))))))))))))
noncomputable def gatA (w : Wd) (U : Int32 → Int32) (n : Nat) (x y u v q : Int32) : Int32 := if q = 0 then onesR (w 159) 22 - onesR (fallA U (dif (w 159) (bitsR (fun k => gtP w x y u v k ∧ bt (w 159) k = true) n))) 22 else if q = 1 then onesR (bitsR (fun k => gtP w x y u v k ∧ bt (w 159) k = true) n) 22 else fallA U (dif (w 159) (bitsR (fun k => gtP w x y u v k ∧ bt (w 159) k = true) n))
theorem n_gate_ok (hd : 63 ≤ d) {n : Nat} {x y u v q : Int32} (eW : kW h = w) (wf : wfW w) (cc : mC c w h) (en : w 157 = nI n) (hn : n ≤ 14) (lT : low n (w 159)) (yes : (0 ≤ x ∧ x ≤ 11) ∧ (x ≤ u ∧ u ≤ 11) ∧ (0 ≤ y ∧ y ≤ 7) ∧ (y ≤ v ∧ v ≤ 7) ∧ (0 ≤ q ∧ q ≤ 2)) : M cx jX12_gate d a [.ref o_m, .int x, .int y, .int u, .int v, .int q] h (qM c w h (gatA w (aU w (lawOf w)) n x y u v q)) := by
  refine sX12_gate rfl (wcS n_lies (And.intro (fun q1 => absurd yes.1 (b2i_0.mp q1)) (fun q1 => (wcS n_lies (And.intro (fun q2 => absurd yes.2.1 (b2i_0.mp q2)) (fun q2 => (wcS n_lies (And.intro (fun q3 => absurd yes.2.2.1 (b2i_0.mp q3)) (fun q3 => (wcS n_lies (And.intro (fun q4 => absurd yes.2.2.2.1 (b2i_0.mp q4)) (fun q4 => (wcS n_lies (And.intro (fun q5 => (eX12_gate (wcQ (n_looksC (by omega) eW wf cc) (fun v G z => ?_) (fun v G z => keepL_N z.2.1)))) (fun q5 => absurd yes.2.2.2.2 (b2i_0.mp q5))))))))))))))))
  obtain ⟨rfl, kL, cG, lk, e27⟩ := z
  have eG : kW G = w := (keepL_W kL).trans eW
  have eT : hI G (ly_rf o_m 3) (159 : Int32).toNatClampNeg = w 159 := by show kW G 159 = _; rw [eG]
  have fin : ∀ r, r = gatA w (aU w (lawOf w)) n x y u v q → qM c w h (gatA w (aU w (lawOf w)) n x y u v q) (some (.int r)) G := fun r e => ⟨by rw [e], keepL_M kL, cG⟩
  have st : M cx jX12_stones (d - 1) 0 [.ref o_m] G (RQ (.int (nI n)) G) := by rw [← en, ← eG]; exact n_stones
  have fact : ∀ k f' (p q : Int32), p = nI k → q = nI f' → k < 22 → f' < 7 → M cx jX12_factOf (d - 1) 0 [.ref o_m, .int p, .int q] G (RQ (.int (w (7 * k + f'))) G) := fun k f' p q e1 e2 h1 h2 => by rw [← eG]; exact n_factOf e1 e2 h1 h2
  have loop : ∀ m k, m + k = n → ∀ l8, E cx jX12_gate d a 63 [some (.ref o_m), some (.int x), some (.int y), some (.int u), some (.int v), some (.int q), some (.int (bitsR (fun k => gtP w x y u v k ∧ bt (w 159) k = true) k)), some (.int (nI k)), l8] [] G (qM c w h (gatA w (aU w (lawOf w)) n x y u v q)) := by
    intro m
    induction m with
    | zero =>
      intro k hk l8
      obtain rfl : k = n := by omega
      have lb : sub (bitsR (fun j => gtP w x y u v j ∧ bt (w 159) j = true) k) (w 159) := fun i hi z => ((bit_of_bitsR k i (by omega) hi).mp z).2.2
      have fa : M cx jX12_fall (d - 1) 0 [.ref o_m, .int (hI G (ly_rf o_m 3) (159 : Int32).toNatClampNeg &&& (bitsR (fun j => gtP w x y u v j ∧ bt (w 159) j = true) k ^^^ -1))] G (RQ (.int (fallA (aU w (lawOf w)) (dif (w 159) (bitsR (fun j => gtP w x y u v j ∧ bt (w 159) j = true) k)))) G) := by
        rw [eT]; exact n_fallU (by omega) lk (items_low en hn (low_sub sub_dif lT))
      refine eX12_gate (wcV st (And.intro (fun _ => ?_) (fun q => absurd (Int32.le_refl _) q)))
      refine eX12_gate (And.intro v159 (wcV fa (And.intro (fun q1 => (eX12_gate (And.intro (fun q2 => (eX12_gate (eX12_gate (fin _ ?_)))) (fun q2 => (wcS n_ones (eX12_gate (fin _ ?_))))))) (fun q1 => (And.intro v159 (wcS n_ones (wcS n_ones (eX12_gate (fin _ ?_)))))))))
      · unfold gatA; rw [if_neg q1, if_neg q2]
      · unfold gatA; rw [if_neg q1, if_pos q2]
      · unfold gatA; rw [if_pos q1, eT]
    | succ m ih =>
      intro k hk l8
      have j171 : ∀ l8 z, bitsR (fun j => gtP w x y u v j ∧ bt (w 159) j = true) k ||| z = bitsR (fun j => gtP w x y u v j ∧ bt (w 159) j = true) (k + 1) → E cx jX12_gate d a 171 [some (.ref o_m), some (.int x), some (.int y), some (.int u), some (.int v), some (.int q), some (.int (bitsR (fun j => gtP w x y u v j ∧ bt (w 159) j = true) k)), some (.int (nI k)), l8] [.int z, .int (bitsR (fun j => gtP w x y u v j ∧ bt (w 159) j = true) k)] G (qM c w h (gatA w (aU w (lawOf w)) n x y u v q)) := fun l8 z ez => by
        have i := ih (k + 1) (by omega) l8
        rw [nI_succ, ← ez] at i
        exact eX12_gate i
      have j138 : ∀ z l8, z = b2i (gtP w x y u v k) → E cx jX12_gate d a 138 [some (.ref o_m), some (.int x), some (.int y), some (.int u), some (.int v), some (.int q), some (.int (bitsR (fun j => gtP w x y u v j ∧ bt (w 159) j = true) k)), some (.int (nI k)), l8] [.int z] G (qM c w h (gatA w (aU w (lawOf w)) n x y u v q)) := fun z l8 ez => by
        refine eX12_gate (And.intro (fun q3 => (eX12_gate (j171 _ 0 ?_))) (fun q3 => (And.intro v159 (wcS n_isIn (And.intro (fun q4 => (eX12_gate (j171 _ 0 ?_))) (fun q4 => (j171 _ _ ?_)))))))
        · rw [ez] at q3
          rw [bitsR_f (P := fun j => gtP w x y u v j ∧ bt (w 159) j = true) (fun y => b2i_0.mp q3 y.1), or_0]
        · have q4 := b2i_0.mp q4
          rw [eT] at q4
          rw [bitsR_f (P := fun j => gtP w x y u v j ∧ bt (w 159) j = true) (fun y => q4 ((inB_bt (by omega)).mpr y.2)), or_0]
        · have q4 := b2i_n q4
          rw [eT] at q4
          rw [ez] at q3
          rw [bitsR_t (P := fun j => gtP w x y u v j ∧ bt (w 159) j = true) ⟨b2i_n q3, (inB_bt (by omega)).mp q4⟩]
      have j137 : ¬ gtP w x y u v k → E cx jX12_gate d a 137 [some (.ref o_m), some (.int x), some (.int y), some (.int u), some (.int v), some (.int q), some (.int (bitsR (fun j => gtP w x y u v j ∧ bt (w 159) j = true) k)), some (.int (nI k)), l8] [] G (qM c w h (gatA w (aU w (lawOf w)) n x y u v q)) := fun z => eX12_gate (j138 0 l8 (b2i_f z).symm)
      refine eX12_gate (wcV st (And.intro (fun q => absurd q (nI_ge (by omega) (by omega))) (fun _ => ?_)))
      refine wcV (fact k 0 _ _ rfl rfl (by omega) (by decide)) (And.intro (fun q2 => j137 fun z => absurd q2 (Int32.not_lt.mpr z.1.1)) (fun q2 => ?_))
      refine wcV (fact k 0 _ _ rfl rfl (by omega) (by decide)) (wcV (fact k 2 _ _ rfl rfl (by omega) (by decide)) (And.intro (fun q3 => j137 fun z => absurd z.1.2 (Int32.not_lt.mpr q3)) (fun q3 => ?_)))
      refine wcV (fact k 1 _ _ rfl rfl (by omega) (by decide)) (And.intro (fun q4 => j137 fun z => absurd q4 (Int32.not_lt.mpr z.2.1)) (fun q4 => ?_))
      refine wcV (fact k 1 _ _ rfl rfl (by omega) (by decide)) (wcV (fact k 3 _ _ rfl rfl (by omega) (by decide)) (And.intro (fun q5 => j137 fun z => absurd z.2.2 (Int32.not_lt.mpr q5)) (fun q5 => j138 1 l8 ?_)))
      exact (b2i_t ⟨⟨Int32.not_lt.mp q2, Int32.not_le.mp q3⟩, ⟨Int32.not_lt.mp q4, Int32.not_le.mp q5⟩⟩).symm
  exact loop n 0 rfl none
/-! mend -/
theorem n_mend_no (hd : 1 ≤ d) {q : Int32} (no : ¬ (0 ≤ q ∧ q ≤ 2)) : M cx jX12_mend d a [.ref o_m, .int q] h (RQ (.int (-1)) h) :=
  sX12_mend rfl (wcS n_lies (And.intro (fun q1 => absurd (b2i_n q1) no) (fun q1 => ⟨rfl, rfl⟩)))
def mdP (w : Wd) (U : Int32 → Int32) (k : Nat) : Prop := lwf U (w 159 ||| (nI k <<< ((14 : Int32) &&& 31)))
theorem bt_sh14 {x : Int32} {i : Nat} (hi : i < 32) : bt (x <<< ((14 : Int32) &&& 31)) i = (decide (14 ≤ i) && bt x (i - 14)) := b_shl 14 (by decide) x hi
theorem items_md {n sp k : Nat} (en : w 157 = nI n) (hn : n ≤ 14) (es : w 158 = nI sp) (hs : sp ≤ 8) (lT : low n (w 159)) (hk : k < 2 ^ sp) : items w (w 159 ||| (nI k <<< ((14 : Int32) &&& 31))) := fun i hi q => by
  rw [inB_bt (by omega), b_or, bt_sh14 (by omega)] at q
  simp at q
  rcases q with q | ⟨q1, q2⟩
  · exact stone_item en hn (lT i (by omega) q)
  · have := nI_low hk (i - 14) (by omega) q2
    refine Or.inr ⟨q1, ?_⟩
    rw [es, show (14 : Int32) = nI 14 from rfl, pk_sub q1]
    exact nI_lt this (by omega)
theorem fewF_no {P : Nat → Prop} {k : Nat} (n : ¬ P k) : fewF P (k + 1) = fewF P k := if_neg n
theorem fewF_yes {P : Nat → Prop} {k : Nat} (y : P k) : fewF P (k + 1) = if (fewF P k).1 = -1 then (nI k, 1) else if onesR (fewF P k).1 22 < onesR (nI k) 22 then fewF P k else if onesR (nI k) 22 < onesR (fewF P k).1 22 then (nI k, 1) else ((fewF P k).1, (fewF P k).2 + 1) := if_pos y
noncomputable def fewA (r : Int32 × Int32) (q : Int32) : Int32 := if q = 2 then r.2 else if r.1 = -1 then -1 else if q = 1 then r.1 else onesR r.1 22
theorem n_mend_ok (hd : 63 ≤ d) {n sp : Nat} {q : Int32} (eW : kW h = w) (wf : wfW w) (cc : mC c w h) (en : w 157 = nI n) (hn : n ≤ 14) (es : w 158 = nI sp) (hs : sp ≤ 8) (lT : low n (w 159)) (hq : 0 ≤ q ∧ q ≤ 2) : M cx jX12_mend d a [.ref o_m, .int q] h (qM c w h (fewA (fewF (mdP w (aU w (lawOf w))) (2 ^ sp)) q)) := by
  refine sX12_mend rfl (wcS n_lies (And.intro (fun q1 => (eX12_mend (wcQ (n_looksC (by omega) eW wf cc) (fun v G z => ?_) (fun v G z => keepL_N z.2.1)))) (fun q1 => absurd hq (b2i_0.mp q1))))
  obtain ⟨rfl, kL, cG, lk, e27⟩ := z
  have eG : kW G = w := (keepL_W kL).trans eW
  have eT : hI G (ly_rf o_m 3) (159 : Int32).toNatClampNeg = w 159 := by show kW G 159 = _; rw [eG]
  have fin : ∀ r, r = fewA (fewF (mdP w (aU w (lawOf w))) (2 ^ sp)) q → qM c w h (fewA (fewF (mdP w (aU w (lawOf w))) (2 ^ sp)) q) (some (.int r)) G := fun r e => ⟨by rw [e], keepL_M kL, cG⟩
  have st : M cx jX12_spares (d - 1) 0 [.ref o_m] G (RQ (.int (nI sp)) G) := by rw [← es, ← eG]; exact n_spares
  have p2 : (1 : Int32) <<< (nI sp &&& 31) = nI (2 ^ sp) := by
    have := pk_shlN (n := 1) (nI sp &&& 31) sp (s_l sp (by omega)) (by rw [Nat.one_mul]; exact Nat.pow_lt_pow_right (by decide) (by omega))
    rw [Nat.one_mul] at this; exact this
  have h256 : 2 ^ sp ≤ 256 := Nat.pow_le_pow_right (n := 2) (by decide) hs
  have lo : ∀ k, k < 2 ^ sp → M cx jX12_loose (d - 1) 0 [.ref o_m, .int (hI G (ly_rf o_m 3) (159 : Int32).toNatClampNeg ||| (nI k <<< ((14 : Int32) &&& 31)))] G (RQ (.int (aU w (lawOf w) (w 159 ||| (nI k <<< ((14 : Int32) &&& 31))))) G) := fun k hk => by
    rw [eT]; exact n_looseU (by omega) lk (items_md en hn es hs lT hk)
  have loop : ∀ m k, m + k = 2 ^ sp → ∀ l5, E cx jX12_mend d a 22 [some (.ref o_m), some (.int q), some (.int (fewF (mdP w (aU w (lawOf w))) k).1), some (.int (fewF (mdP w (aU w (lawOf w))) k).2), some (.int (nI k)), l5] [] G (qM c w h (fewA (fewF (mdP w (aU w (lawOf w))) (2 ^ sp)) q)) := by
    intro m
    induction m with
    | zero =>
      intro k hk l5
      obtain rfl : k = 2 ^ sp := by omega
      refine eX12_mend (wcV st (And.intro (fun q1 => (eX12_mend (And.intro (fun q2 => (eX12_mend (And.intro (fun q3 => (eX12_mend (eX12_mend (fin _ ?_)))) (fun q3 => (And.intro (fun q4 => (eX12_mend (wcS n_ones (eX12_mend (fin _ ?_))))) (fun q4 => (eX12_mend (eX12_mend (fin _ ?_))))))))) (fun q2 => (eX12_mend (fin _ ?_)))))) (fun q1 => absurd (by rw [p2]; exact Int32.le_refl _) q1)))
      · unfold fewA; rw [if_neg q2, if_pos q3, q3]
      · unfold fewA; rw [if_neg q2, if_neg q3, if_neg q4]
      · unfold fewA; rw [if_neg q2, if_neg q3, if_pos q4]
      · unfold fewA; rw [if_pos q2]
    | succ m ih =>
      intro k hk l5
      have i := ih (k + 1) (by omega)
      rw [nI_succ] at i
      have skip : ∀ l5, fewF (mdP w (aU w (lawOf w))) (k + 1) = fewF (mdP w (aU w (lawOf w))) k → E cx jX12_mend d a 108 [some (.ref o_m), some (.int q), some (.int (fewF (mdP w (aU w (lawOf w))) k).1), some (.int (fewF (mdP w (aU w (lawOf w))) k).2), some (.int (nI k)), l5] [] G (qM c w h (fewA (fewF (mdP w (aU w (lawOf w))) (2 ^ sp)) q)) := fun l5 e => by
        have i := i l5
        rw [e] at i
        exact eX12_mend i
      have new : ∀ l5, fewF (mdP w (aU w (lawOf w))) (k + 1) = (nI k, 1) → E cx jX12_mend d a 100 [some (.ref o_m), some (.int q), some (.int (fewF (mdP w (aU w (lawOf w))) k).1), some (.int (fewF (mdP w (aU w (lawOf w))) k).2), some (.int (nI k)), l5] [] G (qM c w h (fewA (fewF (mdP w (aU w (lawOf w))) (2 ^ sp)) q)) := fun l5 e => by
        have i := i l5
        rw [e] at i
        exact eX12_mend (eX12_mend (eX12_mend i))
      have more : ∀ l5, fewF (mdP w (aU w (lawOf w))) (k + 1) = ((fewF (mdP w (aU w (lawOf w))) k).1, (fewF (mdP w (aU w (lawOf w))) k).2 + 1) → E cx jX12_mend d a 105 [some (.ref o_m), some (.int q), some (.int (fewF (mdP w (aU w (lawOf w))) k).1), some (.int (fewF (mdP w (aU w (lawOf w))) k).2), some (.int (nI k)), l5] [] G (qM c w h (fewA (fewF (mdP w (aU w (lawOf w))) (2 ^ sp)) q)) := fun l5 e => by
        have i := i l5
        rw [e] at i
        exact eX12_mend (eX12_mend i)
      refine eX12_mend (wcV st (And.intro (fun q1 => absurd q1 (by rw [p2]; exact nI_ge (by omega) (by omega))) (fun q1 => (And.intro v159 (And.intro (fun q2 => skip _ (fewF_no fun z => z.1 (by rw [← eT]; exact q2))) (fun q2 => (wcV (lo k (by omega)) (And.intro (fun q3 => skip _ (fewF_no fun z => q3 z.2)) (fun q3 => ?_)))))))))
      have y : mdP w (aU w (lawOf w)) k := ⟨fun z => q2 (by rw [eT]; exact z), q3⟩
      have ey := fewF_yes y
      refine (And.intro (fun q4 => (eX12_mend (And.intro (fun q5 => new _ ?_) (fun q5 => absurd q4 q5)))) (fun q4 => (wcS n_ones (wcS n_ones (And.intro (fun q5 => (eX12_mend (And.intro (fun q6 => absurd q6 q4) (fun q6 => (wcS n_ones (wcS n_ones (And.intro (fun q7 => more _ ?_) (fun q7 => new _ ?_)))))))) (fun q5 => skip _ ?_))))))
      · rw [ey, if_pos q4]
      · rw [ey, if_neg q4, if_neg (Int32.not_lt.mpr q5), if_neg (Int32.not_lt.mpr q7)]
      · rw [ey, if_neg q4, if_neg (Int32.not_lt.mpr q5), if_pos (Int32.not_le.mp q7)]
      · rw [ey, if_neg q4, if_pos (Int32.not_le.mp q5)]
  exact loop (2 ^ sp) 0 rfl none
end T68
