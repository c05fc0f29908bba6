/-! the model: the most that can be taken -/
def mBt (w : Wd) (n : Nat) (s b : Int32) : Prop := onesR b 22 < onesR s 22 ∨ (onesR s 22 = onesR b 22 ∧ nwt w b n < nwt w s n)
noncomputable def tmF (w : Wd) (n : Nat) (P : Nat → Prop) : Nat → Int32 × Int32
  | 0 => (-1, 0)
  | k + 1 => @ite _ (P k) (Classical.propDecidable _) (@ite _ ((tmF w n P k).1 = -1 ∨ mBt w n (nI k) (tmF w n P k).1) (Classical.propDecidable _) (nI k) (tmF w n P k).1, (tmF w n P k).2 + 1) (tmF w n P k)
def tmH (G : Hp) (b m : Int32) : Hp := wI (wI G o_m 33 b) o_m 34 m
def comQ (U : Int32 → Int32) (ob : Bool) (T s : Int32) : Prop := (ob = true → comA U T s) ∧ (ob = false → lwf U s)
def tkPr (w : Wd) (U : Int32 → Int32) (ob : Bool) (k : Nat) : Prop := cPart w (nI k) ∧ comQ U ob (w 159) (dif (w 159) (nI k))
section T71
variable {cx : Cx} {d a c : Nat} {h g f : Hp} {w : Wd}
theorem tm_o {G : Hp} {b m : Int32} {o k : Nat} (n : o ≠ 104) : hI (tmH G b m) o k = hI G o k := by unfold tmH; rw [rd_o n, rd_o n]
theorem tm_k {G : Hp} {b m : Int32} {k : Nat} (n1 : k ≠ 33) (n2 : k ≠ 34) : hI (tmH G b m) o_m k = hI G o_m k := by unfold tmH; rw [rd_k n2, rd_k n1]
theorem tm_33 {G : Hp} {b m : Int32} : hI (tmH G b m) o_m 33 = b := by unfold tmH; rw [rd_k (by decide), rd_same]
theorem tm_34 {G : Hp} {b m : Int32} : hI (tmH G b m) o_m 34 = m := by unfold tmH; rw [rd_same]
theorem tm_w34 {G : Hp} {b m m' : Int32} : wI (tmH G b m) o_m 34 m' = tmH G b m' := by unfold tmH; rw [wI_wI]
theorem tm_w33 {G : Hp} {b b' m : Int32} : wI (tmH G b m) o_m 33 b' = tmH G b' m := by unfold tmH; rw [wI_comm (by decide), wI_wI]
theorem tm_W {G : Hp} {b m : Int32} : kW (tmH G b m) = kW G := funext fun k => tm_o (by decide)
theorem tm_keep {G : Hp} {b m : Int32} : keepM G (tmH G b m) := keepM_t (keepM_w (Or.inl ⟨rfl, by decide⟩)) (keepM_w (Or.inl ⟨rfl, by decide⟩))
theorem tm_mC {G : Hp} {b m : Int32} (q : mC c w G) : mC c w (tmH G b m) := by
  obtain ⟨q1, ⟨v, v1, v2, v3, v4⟩, q3, q4⟩ := q
  refine ⟨by rw [tm_k (by decide) (by decide)]; exact q1, ⟨v, v1, by rw [tm_k (by decide) (by decide)]; exact v2, ?_, ?_⟩, fun z => ?_, fun z => ?_⟩
  · unfold vLe; rw [tm_k (by decide) (by decide)]; exact v3
  · unfold vLe; rw [tm_k (by decide) (by decide)]; exact v4
  · rw [tm_k (by decide) (by decide), tm_k (by decide) (by decide)] at z
    exact lk_keep (q3 z) fun o k h1 h2 => tm_o (by omega)
  · rw [tm_k (by decide) (by decide), tm_k (by decide) (by decide)] at z
    exact st_keep (q4 z) fun o k h1 h2 => tm_o (by omega)
theorem n_isBetter (hd : 2 ≤ d) {n : Nat} {s b : Int32} (eW : kW h = w) (en : w 157 = nI n) (hn : n ≤ 14) : M cx jX12_isBetter d a [.ref o_m, .int s, .int b] h (RQ (.int (b2i (mBt w n s b))) h) := by
  have wt : ∀ x, M cx jX12_weightOf (d - 1) 0 [.ref o_m, .int x] h (RQ (.int (nwt w x n)) h) := fun x => by rw [← eW]; exact n_weightOf (by omega) (by rw [eW]; exact en) hn
  refine sX12_isBetter rfl (wcS n_ones (wcS n_ones (And.intro (fun q1 => (eX12_isBetter (eX12_isBetter (And.intro (Or.inr rfl) (RQ_eq (b2i_t ?_).symm))))) (fun q1 => (wcS n_ones (wcS n_ones (And.intro (fun q2 => (eX12_isBetter (eX12_isBetter (And.intro (Or.inl rfl) (RQ_eq (b2i_f ?_).symm))))) (fun q2 => (wcV (wt _) (wcV (wt _) (And.intro (fun q3 => (eX12_isBetter (eX12_isBetter (And.intro (Or.inl rfl) (RQ_eq (b2i_f ?_).symm))))) (fun q3 => (eX12_isBetter (eX12_isBetter (And.intro (Or.inr rfl) (RQ_eq (b2i_t ?_).symm))))))))))))))))
  · exact Or.inl q1
  · rintro (z | z)
    · exact q1 z
    · exact q2 z.1
  · rintro (z | z)
    · exact q1 z
    · exact absurd z.2 (Int32.not_lt.mpr q3)
  · exact Or.inr ⟨q2, Int32.not_le.mp q3⟩
theorem tmF_no {n k : Nat} {P : Nat → Prop} (z : ¬ P k) : tmF w n P (k + 1) = tmF w n P k := if_neg z
theorem tmF_new {n k : Nat} {P : Nat → Prop} (y : P k) (z : (tmF w n P k).1 = -1 ∨ mBt w n (nI k) (tmF w n P k).1) : tmF w n P (k + 1) = (nI k, (tmF w n P k).2 + 1) := by rw [tmF, if_pos y, if_pos z]
theorem tmF_old {n k : Nat} {P : Nat → Prop} (y : P k) (z : ¬ ((tmF w n P k).1 = -1 ∨ mBt w n (nI k) (tmF w n P k).1)) : tmF w n P (k + 1) = ((tmF w n P k).1, (tmF w n P k).2 + 1) := by rw [tmF, if_pos y, if_neg z]
/-- what takesMost leaves -/
def tmQ (c : Nat) (w : Wd) (h : Hp) (n : Nat) (ob : Bool) : Option Value → Hp → Prop := fun r g => r = none ∧ ∃ G, keepM h G ∧ mC c w G ∧ lkOk w (lawOf w) G ∧ stOk w (lawOf w) G ∧ g = tmH G (tmF w n (tkPr w (aU w (lawOf w)) ob) (2 ^ n)).1 (tmF w n (tkPr w (aU w (lawOf w)) ob) (2 ^ n)).2
theorem tmQ_N {n : Nat} {ob : Bool} : ∀ v g, tmQ c w h n ob v g → hN g = hN h := fun v g ⟨_, G, k, _, _, _, e⟩ => by rw [e]; exact keepM_N (keepM_t k tm_keep)
theorem n_takesMost (hd : 63 ≤ d) {n : Nat} {ob : Bool} (eW : kW h = w) (wf : wfW w) (cc : mC c w h) (en : w 157 = nI n) (hn : n ≤ 14) (lT : low n (w 159)) : M cx jX12_takesMost d a [.ref o_m, .int (bI ob)] h (tmQ c w h n ob) := by
  refine sX12_takesMost rfl (wcQ (n_sets (by omega) eW wf cc en hn lT) (fun v G z => ?_) (fun v G z => keepM_N z.2.1))
  obtain ⟨rfl, kM, cG, lk, st⟩ := z
  have eG : kW G = w := (keepM_W kM).trans eW
  have h14 := pow14 hn
  have p2 : (1 : Int32) <<< (nI n &&& 31) = nI (2 ^ n) := one_nI (by omega)
  generalize eF : tmF w n (tkPr w (aU w (lawOf w)) ob) = F
  have loop : ∀ r m, r + m = 2 ^ n → ∀ l3, E cx jX12_takesMost d a 16 [some (.ref o_m), some (.int (bI ob)), some (.int (nI m)), l3] [] (tmH G (F m).1 (F m).2) (tmQ c w h n ob) := by
    intro r
    induction r with
    | zero =>
      intro m hm l3
      obtain rfl : m = 2 ^ n := by omega
      refine eX12_takesMost (wcV (st_of en (tm_W.trans eG)) (And.intro (fun _ => eX12_takesMost ⟨rfl, G, kM, cG, lk, st, by rw [← eF]⟩) (fun q => absurd (by rw [p2]; exact Int32.le_refl _) q)))
    | succ r ih =>
      intro m hm l3
      have i := ih (m + 1) (by omega)
      rw [nI_succ] at i
      have next : ∀ l3 b k, F (m + 1) = (b, k) → E cx jX12_takesMost d a 113 [some (.ref o_m), some (.int (bI ob)), some (.int (nI m)), l3] [] (tmH G b k) (tmQ c w h n ob) := fun l3 b k e => by
        have i := i l3
        rw [e] at i
        exact eX12_takesMost i
      have skip : ∀ l3, ¬ tkPr w (aU w (lawOf w)) ob m → E cx jX12_takesMost d a 113 [some (.ref o_m), some (.int (bI ob)), some (.int (nI m)), l3] [] (tmH G (F m).1 (F m).2) (tmQ c w h n ob) := fun l3 z => next l3 _ _ (by rw [← eF, tmF_no z])
      have aT : M cx jX12_areThere (d - 1) 0 [.ref o_m, .int (nI m)] (tmH G (F m).1 (F m).2) (RQ (.int (b2i (cPart w (nI m)))) (tmH G (F m).1 (F m).2)) := by
        rw [show cPart w (nI m) = cPart (kW (tmH G (F m).1 (F m).2)) (nI m) by rw [tm_W, eG]]; exact n_areThere (by omega)
      have eT : hI (tmH G (F m).1 (F m).2) (ly_rf o_m 3) (159 : Int32).toNatClampNeg = w 159 := by show kW (tmH G (F m).1 (F m).2) 159 = _; rw [tm_W, eG]
      obtain ⟨j, hj, ej⟩ := low_nI (by omega) (low_sub (sub_dif (t := nI m)) lT)
      have ej2 : hI (tmH G (F m).1 (F m).2) (ly_rf o_m 3) (159 : Int32).toNatClampNeg &&& (nI m ^^^ -1) = nI j := by rw [eT]; exact ej
      have vj : vp_in (hI (tmH G (F m).1 (F m).2) (ly_rf o_m 3) (159 : Int32).toNatClampNeg &&& (nI m ^^^ -1)) 16384 := by rw [ej2]; exact vp_in_nI (by omega) (by decide)
      have cj : (hI (tmH G (F m).1 (F m).2) (ly_rf o_m 3) (159 : Int32).toNatClampNeg &&& (nI m ^^^ -1)).toNatClampNeg = j := by rw [ej2, nI_clamp (by omega)]
      obtain ⟨t1, -, -, t4⟩ := st n en hn j hj
      rw [← ej] at t1 t4
      have found : ∀ l3, tkPr w (aU w (lawOf w)) ob m → E cx jX12_takesMost d a 78 [some (.ref o_m), some (.int (bI ob)), some (.int (nI m)), l3] [] (tmH G (F m).1 (F m).2) (tmQ c w h n ob) := fun l3 y => by
        have e34 : wI (tmH G (F m).1 (F m).2) o_m 34 (hI (tmH G (F m).1 (F m).2) o_m 34 + 1) = tmH G (F m).1 ((F m).2 + 1) := by rw [tm_w34, tm_34]
        refine eX12_takesMost (wp_hp (h := wI (tmH G (F m).1 (F m).2) o_m 34 (hI (tmH G (F m).1 (F m).2) o_m 34 + 1)) e34 ?_)
        have new : ((F m).1 = -1 ∨ mBt w n (nI m) (F m).1) → E cx jX12_takesMost d a 108 [some (.ref o_m), some (.int (bI ob)), some (.int (nI m)), l3] [] (tmH G (F m).1 ((F m).2 + 1)) (tmQ c w h n ob) := fun z => by
          refine eX12_takesMost (wp_hp (h := wI (tmH G (F m).1 ((F m).2 + 1)) o_m 33 (nI m)) tm_w33 ?_)
          exact next l3 _ _ (by rw [← eF] at z ⊢; rw [tmF_new y z])
        have e33 : hI (tmH G (F m).1 ((F m).2 + 1)) o_m 33 = (F m).1 := tm_33
        have bt : M cx jX12_isBetter (d - 1) 0 [.ref o_m, .int (nI m), .int (hI (tmH G (F m).1 ((F m).2 + 1)) o_m 33)] (tmH G (F m).1 ((F m).2 + 1)) (RQ (.int (b2i (mBt w n (nI m) (F m).1))) (tmH G (F m).1 ((F m).2 + 1))) := by
          rw [e33]; exact n_isBetter (by omega) (tm_W.trans eG) en hn
        refine (And.intro (fun q5 => new (Or.inl (e33.symm.trans q5))) (fun q5 => (wcV bt (And.intro (fun q6 => next l3 _ _ ?_) (fun q6 => new (Or.inr (b2i_n q6)))))))
        rw [← eF] at q6 e33 ⊢
        rw [tmF_old y]
        rintro (z | z)
        · exact q5 (by rw [eF] at e33 z; exact e33.trans z)
        · exact b2i_0.mp q6 z
      refine eX12_takesMost (wcV (st_of en (tm_W.trans eG)) (And.intro (fun q => absurd q (by rw [p2]; exact nI_ge (by omega) (by omega))) (fun _ => (wcV aT (And.intro (fun q2 => (eX12_takesMost (And.intro v159 ?_))) (fun q2 => skip l3 fun z => b2i_0.mp q2 z.1))))))
      cases ob with
      | true =>
        have tv : hI (tmH G (F m).1 (F m).2) (ly_rf o_m 31) (hI (tmH G (F m).1 (F m).2) (ly_rf o_m 3) (159 : Int32).toNatClampNeg &&& (nI m ^^^ -1)).toNatClampNeg = b2i (comA (aU w (lawOf w)) (w 159) (dif (w 159) (nI m))) := by rw [cj]; show hI _ o_m_comes j = _; rw [tm_o (by decide)]; exact t4
        refine (And.intro (fun q3 => absurd q3 (by decide)) (fun _ => (And.intro vj (And.intro (fun q4 => found _ ⟨b2i_n q2, fun _ => b2i_n (by rw [← tv]; exact q4), fun z => by cases z⟩) (fun q4 => skip _ fun z => b2i_0.mp (by rw [← tv]; exact q4) (z.2.1 rfl))))))
      | false =>
        have tv : hI (tmH G (F m).1 (F m).2) (ly_rf o_m 28) (hI (tmH G (F m).1 (F m).2) (ly_rf o_m 3) (159 : Int32).toNatClampNeg &&& (nI m ^^^ -1)).toNatClampNeg = b2i (lwf (aU w (lawOf w)) (dif (w 159) (nI m))) := by rw [cj]; show hI _ o_m_lawful j = _; rw [tm_o (by decide)]; exact t1
        refine (And.intro (fun _ => (eX12_takesMost (And.intro vj (And.intro (fun q4 => found _ ⟨b2i_n q2, (fun z => by cases z), fun _ => b2i_n (by rw [← tv]; exact q4)⟩) (fun q4 => skip _ fun z => b2i_0.mp (by rw [← tv]; exact q4) (z.2.2 rfl)))))) (fun q3 => absurd rfl q3))
  refine e_eq (loop (2 ^ n) 0 rfl none) rfl rfl ?_
  rw [← eF]; rfl
noncomputable def tolA (w : Wd) (n : Nat) (r : Int32 × Int32) (q : Int32) : Int32 := if q = 3 then r.2 else if r.1 = -1 then -1 else if q = 2 then r.1 else if q = 0 then onesR r.1 22 else nwt w r.1 n
theorem n_told (hd : 2 ≤ d) {n : Nat} {q b m : Int32} {G : Hp} (eG : kW G = w) (en : w 157 = nI n) (hn : n ≤ 14) : M cx jX12_told d a [.ref o_m, .int q] (tmH G b m) (RQ (.int (tolA w n (b, m) q)) (tmH G b m)) := by
  have e33 : hI (tmH G b m) o_m 33 = b := tm_33
  have e34 : hI (tmH G b m) o_m 34 = m := tm_34
  have wt : M cx jX12_weightOf (d - 1) 0 [.ref o_m, .int (hI (tmH G b m) o_m 33)] (tmH G b m) (RQ (.int (nwt w b n)) (tmH G b m)) := by rw [e33, ← eG, ← tm_W (G := G) (b := b) (m := m)]; exact n_weightOf (by omega) (by rw [tm_W, eG]; exact en) hn
  refine sX12_told rfl (And.intro (fun q1 => (eX12_told (And.intro (fun q2 => (eX12_told (eX12_told (RQ_eq ?_)))) (fun q2 => (And.intro (fun q3 => (eX12_told (And.intro (fun q4 => (eX12_told (wcV wt (eX12_told (RQ_eq ?_))))) (fun q4 => (wcS n_ones (eX12_told (RQ_eq ?_))))))) (fun q3 => (eX12_told (eX12_told (RQ_eq ?_))))))))) (fun q1 => (eX12_told (RQ_eq ?_))))
  · unfold tolA; rw [if_neg q1, if_pos (e33.symm.trans q2)]; exact q2
  · unfold tolA; rw [if_neg q1, if_neg (fun z => q2 (e33.trans z)), if_neg q3, if_neg q4]
  · unfold tolA; rw [if_neg q1, if_neg (fun z => q2 (e33.trans z)), if_neg q3, if_pos q4, e33]
  · unfold tolA; rw [if_neg q1, if_neg (fun z => q2 (e33.trans z)), if_pos q3]; exact e33
  · unfold tolA; rw [if_pos q1]; exact e34
theorem n_once_no (hd : 1 ≤ d) {q : Int32} (no : ¬ (0 ≤ q ∧ q ≤ 3)) : M cx jX12_once d a [.ref o_m, .int q] h (RQ (.int (-1)) h) :=
  sX12_once rfl (wcS n_lies (And.intro (fun q1 => absurd (b2i_n q1) no) (fun q1 => ⟨rfl, rfl⟩)))
theorem n_oneByOne_no (hd : 1 ≤ d) {q : Int32} (no : ¬ (0 ≤ q ∧ q ≤ 3)) : M cx jX12_oneByOne d a [.ref o_m, .int q] h (RQ (.int (-1)) h) :=
  sX12_oneByOne rfl (wcS n_lies (And.intro (fun q1 => absurd (b2i_n q1) no) (fun q1 => ⟨rfl, rfl⟩)))
theorem n_once_ok (hd : 64 ≤ d) {n : Nat} {q : Int32} (eW : kW h = w) (wf : wfW w) (cc : mC c w h) (en : w 157 = nI n) (hn : n ≤ 14) (lT : low n (w 159)) (hq : 0 ≤ q ∧ q ≤ 3) : M cx jX12_once d a [.ref o_m, .int q] h (qM c w h (tolA w n (tmF w n (tkPr w (aU w (lawOf w)) false) (2 ^ n)) q)) := by
  refine sX12_once rfl (wcS n_lies (And.intro (fun q1 => (eX12_once (wcQ (n_takesMost (ob := false) (by omega) eW wf cc en hn lT) (fun v g z => ?_) tmQ_N))) (fun q1 => absurd hq (b2i_0.mp q1))))
  obtain ⟨rfl, G, kM, cG, lk, st, rfl⟩ := z
  exact wcV (n_told (by omega) ((keepM_W kM).trans eW) en hn) ⟨rfl, keepM_t kM tm_keep, tm_mC cG⟩
theorem n_oneByOne_ok (hd : 64 ≤ d) {n : Nat} {q : Int32} (eW : kW h = w) (wf : wfW w) (cc : mC c w h) (en : w 157 = nI n) (hn : n ≤ 14) (lT : low n (w 159)) (hq : 0 ≤ q ∧ q ≤ 3) : M cx jX12_oneByOne d a [.ref o_m, .int q] h (qM c w h (tolA w n (tmF w n (tkPr w (aU w (lawOf w)) true) (2 ^ n)) q)) := by
  refine sX12_oneByOne rfl (wcS n_lies (And.intro (fun q1 => (eX12_oneByOne (wcQ (n_takesMost (ob := true) (by omega) eW wf cc en hn lT) (fun v g z => ?_) tmQ_N))) (fun q1 => absurd hq (b2i_0.mp q1))))
  obtain ⟨rfl, G, kM, cG, lk, st, rfl⟩ := z
  exact wcV (n_told (by omega) ((keepM_W kM).trans eW) en hn) ⟨rfl, keepM_t kM tm_keep, tm_mC cG⟩
end T71
