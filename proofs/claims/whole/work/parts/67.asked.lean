/-! the model's questions of what falls -/
def qM (c : Nat) (w : Wd) (h : Hp) (r : Int32) : Option Value → Hp → Prop := fun v g => v = some (.int r) ∧ keepM h g ∧ mC c w g
/-- the round in which item k falls -/
noncomputable def roA (U : Int32 → Int32) (k : Nat) : Nat → Nat → Int32 → Int32
  | 0, _, _ => -1
  | m + 1, rd, t => if U t = 0 then -1 else if bt (dif t (U t)) k = true then roA U k m (rd + 1) (dif t (U t)) else nI (rd + 1)
section T67
variable {cx : Cx} {d a c : Nat} {h g f : Hp} {w : Wd}
theorem v159 : vp_in (159 : Int32) 4968 := vp_in_nI (n := 159) (by decide) (by decide)
theorem items_low {n : Nat} {s : Int32} (en : w 157 = nI n) (hn : n ≤ 14) (l : low n s) : items w s := fun k hk q => stone_item en hn (l k (by omega) ((inB_bt (by omega)).mp q))
theorem qM_RM {A : Ab} {r : Int32} (p : RM c A h) {v : Option Value} (q : qM c (A 0) h r v g) : mQ c A r h v g := ⟨q.1, ⟨RMd_keep p.1 q.2.1, q.2.2⟩, keepM_C q.2.1⟩
theorem wfS_n {n s t : Nat} (q : wfS w n s t) : n ≤ 14 ∧ w 157 = nI n ∧ low n (w 159) := ⟨q.1, q.2.2.2.1, q.2.2.2.2.2.1⟩
theorem cStone_nI {n : Nat} {p : Int32} (en : w 157 = nI n) (hn : n ≤ 14) (q : cStone w p) : ∃ k, k < n ∧ p = nI k := by
  unfold cStone at q
  rw [en] at q
  have h1 := Int32.le_iff_toInt_le.mp q.1
  have h2 := Int32.le_iff_toInt_le.mp q.2
  rw [show (1 : Int32) = nI 1 from rfl, pk_sub_toInt (by omega) (by decide)] at h2
  have e0 : (0 : Int32).toInt = 0 := rfl
  obtain ⟨j, hj, rfl⟩ := nI_of (x := p) (Int32.not_lt.mpr q.1)
  rw [nI_toInt hj] at h2
  exact ⟨j, by omega, rfl⟩
theorem cStone_of {n k : Nat} (en : w 157 = nI n) (hn : n ≤ 14) (hk : k < n) : cStone w (nI k) := by
  refine ⟨nI_pos' (by omega), ?_⟩
  rw [en, show (1 : Int32) = nI 1 from rfl, pk_sub (by omega)]
  exact nI_le (by omega) (by omega)
/-! touches -/
noncomputable def tchA (w : Wd) (L : Option (List CS)) (k : Nat) (q : Int32) : Int32 := if q = 0 then mNeed w L k else if q = 1 then (if bt (w 159) k = true then onesR (mNear w k &&& w 159) 22 + mFirm w k else -1) else if q = 2 then bI (mBnd w L k) else mNear w k &&& w 159
theorem n_touches_no (hd : 3 ≤ d) {s q : Int32} (no : ¬ (cStone (kW h) s ∧ 0 ≤ q ∧ q ≤ 3)) : M cx jX12_touches d a [.ref o_m, .int s, .int q] h (RQ (.int (-1)) h) :=
  sX12_touches rfl (wcV (n_isStone (by omega)) (And.intro (fun q1 => (eX12_touches ⟨rfl, rfl⟩)) (fun q1 => (wcS n_lies (And.intro (fun q2 => absurd ⟨b2i_n q1, b2i_n q2⟩ no) (fun q2 => (eX12_touches ⟨rfl, rfl⟩)))))))
theorem n_touches_ok (hd : 63 ≤ d) {n k : Nat} {q : Int32} (eW : kW h = w) (wf : wfW w) (cc : mC c w h) (en : w 157 = nI n) (hn : n ≤ 14) (hk : k < n) (hq : 0 ≤ q ∧ q ≤ 3) : M cx jX12_touches d a [.ref o_m, .int (nI k), .int q] h (qM c w h (tchA w (lawOf w) k q)) := by
  have cs : cStone (kW h) (nI k) := by rw [eW]; exact cStone_of en hn hk
  refine sX12_touches rfl (wcV (n_isStone (by omega)) (And.intro (fun q1 => absurd cs (b2i_0.mp q1)) (fun q1 => (wcS n_lies (And.intro (fun q2 => (eX12_touches (wcQ (n_looksC (by omega) eW wf cc) (fun v G z => ?_) (fun v G z => keepL_N z.2.1)))) (fun q2 => absurd hq (b2i_0.mp q2)))))))
  obtain ⟨rfl, kL, cG, lk, e27⟩ := z
  have eG : kW G = w := (keepL_W kL).trans eW
  obtain ⟨r1, r2, r3, r4⟩ := lk k (by omega) (stone_item en hn hk)
  have vi : vp_in (nI k) 22 := vp_in_nI (by omega) (by decide)
  have ci : (nI k).toNatClampNeg = k := nI_clamp (by omega)
  have fin : ∀ r, r = tchA w (lawOf w) k q → qM c w h (tchA w (lawOf w) k q) (some (.int r)) G := fun r e => ⟨by rw [e], keepL_M kL, cG⟩
  refine (And.intro vi (And.intro v159 (And.intro (fun q3 => (eX12_touches (And.intro (fun q4 => (eX12_touches (And.intro (fun q5 => (eX12_touches (eX12_touches (fin _ ?_)))) (fun q5 => (And.intro vi (And.intro (fun q6 => (eX12_touches (eX12_touches (fin _ ?_)))) (fun q6 => (eX12_touches (fin _ ?_)))))))))
    (fun q4 => (And.intro v159 (wcS n_isIn (And.intro (fun q5 => (eX12_touches (eX12_touches (fin _ ?_)))) (fun q5 => (wcS n_ones (And.intro vi (eX12_touches (fin _ ?_)))))))))))) (fun q3 => (And.intro vi (fin _ ?_))))))
  · unfold tchA; rw [if_neg q3, if_neg q4, if_neg q5, ← r3, ← eG, ci]; rfl
  · have q6 : hI G o_m_bound (nI k).toNatClampNeg = 0 := q6
    rw [ci, r2, bI_0] at q6
    unfold tchA; rw [if_neg q3, if_neg q4, if_pos q5, q6]; rfl
  · have q6 : ¬ hI G o_m_bound (nI k).toNatClampNeg = 0 := q6
    rw [ci, r2, bI_n] at q6
    unfold tchA; rw [if_neg q3, if_neg q4, if_pos q5, q6]; rfl
  · have : ¬ bt (w 159) k = true := fun z => b2i_0.mp q5 (by show inB (kW G 159) k; rw [eG]; exact (inB_bt (by omega)).mpr z)
    unfold tchA; rw [if_neg q3, if_pos q4, if_neg this]
  · have : bt (w 159) k = true := by have := b2i_n q5; have : inB (kW G 159) k := this; rw [eG] at this; exact (inB_bt (by omega)).mp this
    unfold tchA; rw [if_neg q3, if_pos q4, if_pos this, ← r3, ← r4, ← eG, ci]; rfl
  · unfold tchA; rw [if_pos q3, ← r1, ci]; rfl
/-! unlawful -/
theorem n_unlawful (hd : 63 ≤ d) {n : Nat} (eW : kW h = w) (wf : wfW w) (cc : mC c w h) (en : w 157 = nI n) (hn : n ≤ 14) (lT : low n (w 159)) : M cx jX12_unlawful d a [.ref o_m] h (qM c w h (fst (fun k => bt (aU w (lawOf w) (w 159)) k = true) n 0)) := by
  refine sX12_unlawful rfl (wcQ (n_looksC (by omega) eW wf cc) (fun v G z => ?_) (fun v G z => keepL_N z.2.1))
  obtain ⟨rfl, kL, cG, lk, e27⟩ := z
  have eG : kW G = w := (keepL_W kL).trans eW
  have fin : ∀ r, r = fst (fun k => bt (aU w (lawOf w) (w 159)) k = true) n 0 → qM c w h (fst (fun k => bt (aU w (lawOf w) (w 159)) k = true) n 0) (some (.int r)) G := fun r e => ⟨by rw [e], keepL_M kL, cG⟩
  have st : M cx jX12_stones (d - 1) 0 [.ref o_m] G (RQ (.int (nI n)) G) := by rw [← en, ← eG]; exact n_stones
  have lo : M cx jX12_loose (d - 1) 0 [.ref o_m, .int (kW G 159)] G (RQ (.int (aU w (lawOf w) (w 159))) G) := by rw [eG]; exact n_looseU (by omega) lk (items_low en hn lT)
  have loop : ∀ m k, m + k = n → fst (fun k => bt (aU w (lawOf w) (w 159)) k = true) m k = fst (fun k => bt (aU w (lawOf w) (w 159)) k = true) n 0 → E cx jX12_unlawful d a 19 [some (.ref o_m), some (.int (aU w (lawOf w) (w 159))), some (.int (nI k))] [] G (qM c w h (fst (fun k => bt (aU w (lawOf w) (w 159)) k = true) n 0)) := by
    intro m
    induction m with
    | zero =>
      intro k hk e
      obtain rfl : k = n := by omega
      exact eX12_unlawful (wcV st (And.intro (fun _ => eX12_unlawful (fin _ e)) (fun q => absurd (Int32.le_refl _) q)))
    | succ m ih =>
      intro k hk e
      refine eX12_unlawful (wcV st (And.intro (fun q => absurd q (nI_ge (by omega) (by omega))) (fun _ => wcS n_isIn (And.intro (fun q1 => eX12_unlawful ?_) (fun q1 => fin _ ?_)))))
      · have nb : ¬ bt (aU w (lawOf w) (w 159)) k = true := fun z => b2i_0.mp q1 ((inB_bt (by omega)).mpr z)
        have := ih (k + 1) (by omega) (by rw [← e, fst_f nb])
        rw [nI_succ] at this
        exact this
      · have yb : bt (aU w (lawOf w) (w 159)) k = true := (inB_bt (by omega)).mp (b2i_n q1)
        rw [← e, fst_t yb]
  exact (And.intro v159 (wcV lo (loop n 0 rfl rfl)))
/-! falls, round -/
theorem it_items {U : Int32 → Int32} {n m : Nat} {t : Int32} (l : low n t) : low n (itR U m t) := low_sub (it_sub m t) l
theorem n_falls_no (hd : 2 ≤ d) {s q : Int32} (no : ¬ (cPart (kW h) s ∧ 0 ≤ q ∧ q ≤ 3)) : M cx jX12_falls d a [.ref o_m, .int s, .int q] h (RQ (.int (-1)) h) :=
  sX12_falls rfl (wcV (n_areThere (by omega)) (And.intro (fun q1 => (eX12_falls ⟨rfl, rfl⟩)) (fun q1 => (wcS n_lies (And.intro (fun q2 => absurd ⟨b2i_n q1, b2i_n q2⟩ no) (fun q2 => (eX12_falls ⟨rfl, rfl⟩)))))))
noncomputable def falA (w : Wd) (U : Int32 → Int32) (n : Nat) (s q : Int32) : Int32 := if q = 0 then onesR (dif (dif (w 159) s) (fallA U (dif (w 159) s))) 22 else if q = 1 then nI (itN U 22 (dif (w 159) s)) else if q = 2 then fallA U (dif (w 159) s) else nwt w (dif (dif (w 159) s) (fallA U (dif (w 159) s))) n
theorem n_falls_ok (hd : 63 ≤ d) {n : Nat} {s q : Int32} (eW : kW h = w) (wf : wfW w) (cc : mC c w h) (en : w 157 = nI n) (hn : n ≤ 14) (lT : low n (w 159)) (hs : cPart w s) (hq : 0 ≤ q ∧ q ≤ 3) : M cx jX12_falls d a [.ref o_m, .int s, .int q] h (qM c w h (falA w (aU w (lawOf w)) n s q)) := by
  refine sX12_falls rfl (wcV (n_areThere (by omega)) (And.intro (fun q1 => absurd (by rw [eW]; exact hs) (b2i_0.mp q1)) (fun q1 => (wcS n_lies (And.intro (fun q2 => (eX12_falls (wcQ (n_looksC (by omega) eW wf cc) (fun v G z => ?_) (fun v G z => keepL_N z.2.1)))) (fun q2 => absurd hq (b2i_0.mp q2)))))))
  obtain ⟨rfl, kL, cG, lk, e27⟩ := z
  have eG : kW G = w := (keepL_W kL).trans eW
  have fin : ∀ r, r = falA w (aU w (lawOf w)) n s q → qM c w h (falA w (aU w (lawOf w)) n s q) (some (.int r)) G := fun r e => ⟨by rw [e], keepL_M kL, cG⟩
  have eT : hI G (ly_rf o_m 3) (159 : Int32).toNatClampNeg = w 159 := by show kW G 159 = _; rw [eG]
  have lo : ∀ t, low n t → M cx jX12_loose (d - 1) 0 [.ref o_m, .int t] G (RQ (.int (aU w (lawOf w) t)) G) := fun t l => n_looseU (by omega) lk (items_low en hn l)
  have loop : ∀ m (t : Int32) (rd : Nat), low n t → aU w (lawOf w) (itR (aU w (lawOf w)) m t) = 0 → (E cx jX12_falls d a 63 [some (.ref o_m), some (.int s), some (.int q), some (.int (itR (aU w (lawOf w)) m t)), some (.int (nI (rd + itN (aU w (lawOf w)) m t))), none] [] G (qM c w h (falA w (aU w (lawOf w)) n s q))) → E cx jX12_falls d a 39 [some (.ref o_m), some (.int s), some (.int q), some (.int t), some (.int (nI rd)), none] [] G (qM c w h (falA w (aU w (lawOf w)) n s q)) := by
    intro m
    induction m with
    | zero =>
      intro t rd l z K
      exact eX12_falls (wcV (lo t l) (And.intro (fun _ => K) (fun y => absurd z y)))
    | succ m ih =>
      intro t rd l z K
      by_cases e : aU w (lawOf w) t = 0
      · rw [itR, if_pos e, itN, if_pos e] at K
        exact eX12_falls (wcV (lo t l) (And.intro (fun _ => K) (fun y => absurd e y)))
      · rw [itR, if_neg e] at z
        rw [itR, if_neg e, itN, if_neg e, show rd + (itN (aU w (lawOf w)) m (t &&& (aU w (lawOf w) t ^^^ -1)) + 1) = rd + 1 + itN (aU w (lawOf w)) m (t &&& (aU w (lawOf w) t ^^^ -1)) by omega] at K
        have := ih _ (rd + 1) (low_sub sub_dif l) z K
        rw [nI_succ] at this
        exact eX12_falls (wcV (lo t l) (And.intro (fun y => absurd y e) (fun _ => wcV (lo t l) this)))
  refine And.intro v159 ?_
  refine e_eq (loop 22 (dif (w 159) s) 0 (low_sub sub_dif lT) (fall_fix Uok_aU) ?_) (by rw [eT]; rfl) rfl rfl
  rw [Nat.zero_add]
  refine (eX12_falls (And.intro v159 (And.intro (fun q3 => (eX12_falls (And.intro (fun q4 => (eX12_falls (And.intro (fun q5 => (eX12_falls (wcV (n_weightOf (n := n) (by omega) (by rw [eG]; exact en) hn) (eX12_falls (fin _ ?_))))) (fun q5 => (eX12_falls (fin _ ?_)))))) (fun q4 => (eX12_falls (fin _ ?_)))))) (fun q3 => (wcS n_ones (eX12_falls (fin _ ?_)))))))
  · unfold falA; rw [if_neg q3, if_neg q4, if_neg q5, eT, eG]
  · unfold falA; rw [if_neg q3, if_neg q4, if_pos q5]
  · unfold falA; rw [if_neg q3, if_pos q4]
  · unfold falA; rw [if_pos q3, eT]
theorem n_round_no (hd : 3 ≤ d) {s p : Int32} (no : ¬ (cPart (kW h) s ∧ cStone (kW h) p ∧ (kW h 159 >>> (p &&& 31)) &&& 1 = 1)) : M cx jX12_round d a [.ref o_m, .int s, .int p] h (RQ (.int (-1)) h) :=
  sX12_round rfl (wcV (n_areThere (by omega)) (And.intro (fun q1 => (eX12_round ⟨rfl, rfl⟩)) (fun q1 => (wcV (n_isStone (by omega)) (And.intro (fun q2 => (eX12_round ⟨rfl, rfl⟩)) (fun q2 => (And.intro v159 (wcS n_isIn (And.intro (fun q3 => absurd ⟨b2i_n q1, b2i_n q2, b2i_n q3⟩ no) (fun q3 => (eX12_round ⟨rfl, rfl⟩)))))))))))
theorem n_round_0 (hd : 3 ≤ d) {s p : Int32} (y : cPart (kW h) s ∧ cStone (kW h) p ∧ (kW h 159 >>> (p &&& 31)) &&& 1 = 1) (y2 : (s >>> (p &&& 31)) &&& 1 = 1) : M cx jX12_round d a [.ref o_m, .int s, .int p] h (RQ (.int 0) h) :=
  sX12_round rfl (wcV (n_areThere (by omega)) (And.intro (fun q1 => absurd y.1 (b2i_0.mp q1)) (fun q1 => (wcV (n_isStone (by omega)) (And.intro (fun q2 => absurd y.2.1 (b2i_0.mp q2)) (fun q2 => (And.intro v159 (wcS n_isIn (And.intro (fun q3 => (eX12_round (wcS n_isIn (And.intro (fun q4 => absurd y2 (b2i_0.mp q4)) (fun q4 => ⟨rfl, rfl⟩))))) (fun q3 => absurd y.2.2 (b2i_0.mp q3)))))))))))
theorem n_round_ok (hd : 63 ≤ d) {n k : Nat} {s : Int32} (eW : kW h = w) (wf : wfW w) (cc : mC c w h) (en : w 157 = nI n) (hn : n ≤ 14) (lT : low n (w 159)) (hs : cPart w s) (hk : k < n) (yT : bt (w 159) k = true) (ns : bt s k = false) : M cx jX12_round d a [.ref o_m, .int s, .int (nI k)] h (qM c w h (roA (aU w (lawOf w)) k 23 0 (dif (w 159) s))) := by
  have cs : cStone (kW h) (nI k) := by rw [eW]; exact cStone_of en hn hk
  refine sX12_round rfl (wcV (n_areThere (by omega)) (And.intro (fun q1 => absurd (by rw [eW]; exact hs) (b2i_0.mp q1)) (fun q1 => (wcV (n_isStone (by omega)) (And.intro (fun q2 => absurd cs (b2i_0.mp q2)) (fun q2 => (And.intro v159 (wcS n_isIn (And.intro (fun q3 => (eX12_round (wcS n_isIn (And.intro (fun q4 => (eX12_round (wcQ (n_looksC (by omega) eW wf cc) (fun v G z => ?_) (fun v G z => keepL_N z.2.1)))) (fun q4 => absurd (b2i_n q4) ?_))))) (fun q3 => absurd ?_ (b2i_0.mp q3)))))))))))
  · obtain ⟨rfl, kL, cG, lk, e27⟩ := z
    have eG : kW G = w := (keepL_W kL).trans eW
    have eT : hI G (ly_rf o_m 3) (159 : Int32).toNatClampNeg = w 159 := by show kW G 159 = _; rw [eG]
    have lo : ∀ t, low n t → M cx jX12_loose (d - 1) 0 [.ref o_m, .int t] G (RQ (.int (aU w (lawOf w) t)) G) := fun t l => n_looseU (by omega) lk (items_low en hn l)
    have loop : ∀ m (t : Int32) (rd : Nat), sz t < m → low n t → E cx jX12_round d a 63 [some (.ref o_m), some (.int s), some (.int (nI k)), some (.int t), some (.int (nI rd))] [] G (qM c w h (roA (aU w (lawOf w)) k m rd t)) := by
      intro m
      induction m with
      | zero => intro t rd hm; omega
      | succ m ih =>
        intro t rd hm l
        by_cases e : aU w (lawOf w) t = 0
        · rw [roA, if_pos e]
          exact eX12_round (wcV (lo t l) (And.intro (fun _ => eX12_round ⟨rfl, keepL_M kL, cG⟩) (fun y => absurd e y)))
        · have hd2 : sz (dif t (aU w (lawOf w) t)) < sz t := sz_drop Uok_aU e
          refine eX12_round (wcV (lo t l) (And.intro (fun y => absurd y e) (fun _ => wcV (lo t l) (wcS n_isIn (And.intro (fun y => ?_) (fun y => ?_))))))
          · have yb : bt (dif t (aU w (lawOf w) t)) k = true := (inB_bt (by omega)).mp (b2i_n y)
            rw [roA, if_neg e, if_pos yb]
            have := ih (dif t (aU w (lawOf w) t)) (rd + 1) (by omega) (low_sub sub_dif l)
            rw [nI_succ] at this
            exact this
          · have nb : ¬ bt (dif t (aU w (lawOf w) t)) k = true := fun z => b2i_0.mp y ((inB_bt (by omega)).mpr z)
            rw [roA, if_neg e, if_neg nb, nI_succ]
            exact ⟨rfl, keepL_M kL, cG⟩
    refine And.intro v159 ?_
    refine e_eq (loop 23 (dif (w 159) s) 0 (Nat.lt_succ_of_le (sz_le _)) (low_sub sub_dif lT)) (by rw [eT]; rfl) rfl rfl
  · intro z
    have := (inB_bt (s := s) (k := k) (by omega)).mp z
    rw [ns] at this; cases this
  · show inB (kW h 159) k
    rw [eW]; exact (inB_bt (by omega)).mpr yT
end T67
