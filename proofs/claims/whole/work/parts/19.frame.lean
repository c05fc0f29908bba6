/-! the frame: what stands, what falls -/
def lclr : Lc → Nat → Lc
  | [], _ => []
  | _ :: t, 0 => none :: t
  | x :: t, n + 1 => x :: lclr t n
theorem lnth_clr : ∀ (loc : Lc) (i k : Nat) (v : Value), lnth (lclr loc i) k = some v → lnth loc k = some v
  | [], _, _, _, h => h
  | x :: t, 0, 0, v, h => by simp [lclr, lnth] at h
  | x :: t, 0, k + 1, v, h => by simpa [lclr, lnth] using h
  | x :: t, i + 1, 0, v, h => by simpa [lclr, lnth] using h
  | x :: t, i + 1, k + 1, v, h => by
    have := lnth_clr t i k v (by simpa [lclr, lnth] using h)
    simpa [lnth] using this
section T19
variable {cx : Cx} {d a : Nat} {h : Hp}
/-- what a slot holds is forgotten -/
theorem e_clr {j pc : Nat} {loc : Lc} {st : List Value} {Q : Option Value → Hp → Prop} (i : Nat) (k : E cx j d a pc (lclr loc i) st h Q) : E cx j d a pc loc st h Q := by
  intro p l e s m args below meth c h0 ad0 ad ls H locs nc ns mc ms hc h1 h2
  exact k p l e s m args below meth c h0 ad0 ad ls H locs nc ns mc ms ⟨hc.1, hc.2.1, hc.2.2.1, hc.2.2.2.1, hc.2.2.2.2.1, fun q v hv => hc.2.2.2.2.2 q v (lnth_clr _ _ _ _ hv)⟩ h1 h2
theorem shr_toInt {s : Int32} {k : Nat} (hk : k < 32) : (s >>> (nI k &&& 31)).toInt = s.toInt >>> k := pk_shr s _ k (s_l k hk)
/-- behind the highest bit there is none -/
theorem shr_zero {s : Int32} {k j : Nat} (hs : s >>> (nI k &&& 31) = 0) (hkj : k ≤ j) (hj : j < 32) : s >>> (nI j &&& 31) = 0 := by
  have e1 : s.toInt >>> k = 0 := by rw [← shr_toInt (by omega), hs]; rfl
  have e2 : s.toInt >>> j = 0 := by
    rw [show j = k + (j - k) by omega, Int.shiftRight_add, e1]; simp
  apply Int32.toInt_inj.mp
  rw [shr_toInt hj, e2]; rfl
/-- place k of the set s does not stand in it -/
def lo (h : Hp) (s : Int32) (k : Nat) : Prop := ¬ (s >>> (nI k &&& 31)) &&& 1 = 0 ∧ bcw (hI h o_fr_beside k &&& s) < hI h o_fr_lack k
noncomputable def unsR (h : Hp) (s : Int32) : Nat → Int32
  | 0 => 0
  | k + 1 => @ite _ (lo h s k) (Classical.propDecidable _) (unsR h s k ||| ((1 : Int32) <<< (nI k &&& 31))) (unsR h s k)
noncomputable def uns (h : Hp) (s : Int32) : Int32 := unsR h s 22
theorem unsR_t {s : Int32} {k : Nat} (q : lo h s k) : unsR h s (k + 1) = unsR h s k ||| ((1 : Int32) <<< (nI k &&& 31)) := if_pos q
theorem unsR_f {s : Int32} {k : Nat} (q : ¬ lo h s k) : unsR h s (k + 1) = unsR h s k := if_neg q
theorem unsR_end {s : Int32} {k : Nat} (hs : s >>> (nI k &&& 31) = 0) : ∀ n, k + n < 32 → unsR h s (k + n) = unsR h s k := by
  intro n
  induction n with
  | zero => intro _; rfl
  | succ n ih =>
    intro hn
    rw [← Nat.add_assoc, unsR_f (fun q => q.1 (by rw [shr_zero hs (by omega) (by omega)]; rfl)), ih (by omega)]
theorem m_unsteady (hd : 1 ≤ d) {s : Int32} : M cx jX2_unsteady d a [.ref o_frame, .int s] h (RQ (.int (uns h s)) h) := by
  have loop : ∀ n k, n + k = 22 → E cx jX2_unsteady d a 4 [some (.ref o_frame), some (.int s), some (.int (unsR h s k)), some (.int (nI k))] [] h (RQ (.int (uns h s)) h) := by
    intro n
    induction n with
    | zero =>
      intro k hk
      obtain rfl : k = 22 := by omega
      exact eX2_unsteady (And.intro (fun _ => eX2_unsteady (RQ_eq rfl)) (fun q => absurd (nI_le (a := 22) (b := 22) (Nat.le_refl _) (by decide)) q))
    | succ n ih =>
      intro k hk
      have go : ¬ lo h s k → E cx jX2_unsteady d a 50 [some (.ref o_frame), some (.int s), some (.int (unsR h s k)), some (.int (nI k))] [] h (RQ (.int (uns h s)) h) := fun q => by
        refine eX2_unsteady (e_eq (ih (k + 1) (by omega)) ?_ rfl rfl)
        rw [unsR_f q, nI_succ]; rfl
      have i1 : vp_in (nI k) 22 := vp_in_nI (by omega) (by decide)
      have c1 : (nI k).toNatClampNeg = k := nI_clamp (by omega)
      refine eX2_unsteady (And.intro (fun q => absurd q (nI_ge (a := k) (b := 22) (by omega) (by decide))) (fun _ => And.intro (fun q => eX2_unsteady (RQ_eq ?_)) (fun _ => And.intro (fun q => go (fun z => z.1 q)) (fun q => And.intro i1 (wcS m_bitCount (And.intro i1 (And.intro (fun q2 => go (fun z => ?_)) (fun q2 => eX2_unsteady (e_eq (ih (k + 1) (by omega)) ?_ rfl rfl)))))))))
      · have := unsR_end (h := h) q (22 - k) (by omega)
        rw [show k + (22 - k) = 22 by omega] at this
        exact this.symm
      · have q2 : hI h o_fr_lack (nI k).toNatClampNeg ≤ bcw (hI h o_fr_beside (nI k).toNatClampNeg &&& s) := q2
        rw [c1] at q2
        exact absurd z.2 (Int32.not_lt.mpr q2)
      · have q2 : ¬ hI h o_fr_lack (nI k).toNatClampNeg ≤ bcw (hI h o_fr_beside (nI k).toNatClampNeg &&& s) := q2
        rw [c1] at q2
        rw [unsR_t ⟨q, Int32.not_le.mp q2⟩, nI_succ]; rfl
  exact sX2_unsteady rfl (loop 22 0 rfl)
def lawfulS (h : Hp) (s : Int32) : Prop := ¬ s = 0 ∧ ∀ k, k < 22 → ¬ lo h s k
theorem m_isLawful (hd : 1 ≤ d) {s : Int32} : M cx jX2_isLawful d a [.ref o_frame, .int s] h (RQ (.int (b2i (lawfulS h s))) h) := by
  have fin : (∀ k, k < 22 → ¬ lo h s k) → ∀ w, E cx jX2_isLawful d a 50 [some (.ref o_frame), some (.int s), some (.int w)] [] h (RQ (.int (b2i (lawfulS h s))) h) := fun q w =>
    eX2_isLawful (And.intro (fun z => eX2_isLawful (eX2_isLawful <| And.intro (Or.inl rfl) (RQ_eq (b2i_f (fun y => y.1 z)).symm))) (fun z => eX2_isLawful (And.intro (Or.inr rfl) (RQ_eq (b2i_t ⟨z, q⟩).symm))))
  have loop : ∀ n k, n + k = 22 → (∀ i, i < k → ¬ lo h s i) → E cx jX2_isLawful d a 2 [some (.ref o_frame), some (.int s), some (.int (nI k))] [] h (RQ (.int (b2i (lawfulS h s))) h) := by
    intro n
    induction n with
    | zero =>
      intro k hk hn
      obtain rfl : k = 22 := by omega
      exact eX2_isLawful (And.intro (fun _ => fin hn _) (fun q => absurd (nI_le (a := 22) (b := 22) (Nat.le_refl _) (by decide)) q))
    | succ n ih =>
      intro k hk hn
      have go : ¬ lo h s k → E cx jX2_isLawful d a 44 [some (.ref o_frame), some (.int s), some (.int (nI k))] [] h (RQ (.int (b2i (lawfulS h s))) h) := fun q => by
        refine eX2_isLawful (e_eq (ih (k + 1) (by omega) (fun i hi => ?_)) ?_ rfl rfl)
        · rcases Nat.lt_succ_iff_lt_or_eq.mp hi with hi | rfl
          · exact hn i hi
          · exact q
        · rw [nI_succ]; rfl
      have i1 : vp_in (nI k) 22 := vp_in_nI (by omega) (by decide)
      have c1 : (nI k).toNatClampNeg = k := nI_clamp (by omega)
      refine eX2_isLawful (And.intro (fun q => absurd q (nI_ge (a := k) (b := 22) (by omega) (by decide))) (fun _ => And.intro (fun q => fin ?_ _) (fun _ => And.intro (fun q => go (fun z => z.1 q)) (fun q => And.intro i1 (wcS m_bitCount (And.intro i1 (And.intro (fun q2 => go (fun z => ?_)) (fun q2 => And.intro (Or.inl rfl) (RQ_eq (b2i_f ?_).symm)))))))))
      · intro i hi z
        by_cases hik : i < k
        · exact hn i hik z
        · exact z.1 (by rw [shr_zero q (by omega) (by omega)]; rfl)
      · have q2 : hI h o_fr_lack (nI k).toNatClampNeg ≤ bcw (hI h o_fr_beside (nI k).toNatClampNeg &&& s) := q2
        rw [c1] at q2
        exact absurd z.2 (Int32.not_lt.mpr q2)
      · have q2 : ¬ hI h o_fr_lack (nI k).toNatClampNeg ≤ bcw (hI h o_fr_beside (nI k).toNatClampNeg &&& s) := q2
        rw [c1] at q2
        exact fun y => y.2 k (by omega) ⟨q, Int32.not_le.mp q2⟩
  exact sX2_isLawful rfl (loop 22 0 rfl (fun i hi => absurd hi (Nat.not_lt_zero i)))
/-- a fall, so many rounds at most -/
noncomputable def setR (h : Hp) : Nat → Int32 → Int32
  | 0, s => s
  | n + 1, s => if uns h s = 0 then s else setR h n (s &&& (uns h s ^^^ -1))
theorem setR_0 {s : Int32} {n : Nat} (q : uns h s = 0) : setR h n s = s := by
  cases n with
  | zero => rfl
  | succ n => unfold setR; rw [if_pos q]
theorem setR_s {s : Int32} {n : Nat} (q : ¬ uns h s = 0) : setR h (n + 1) s = setR h n (s &&& (uns h s ^^^ -1)) := by
  rw [setR, if_neg q]
theorem m_settled (hd : 2 ≤ d) {s : Int32} : M cx jX2_settled d a [.ref o_frame, .int s] h (RQ (.int (setR h 22 s)) h) := by
  have loop : ∀ n k t, n + k = 22 → setR h n t = setR h 22 s → E cx jX2_settled d a 11 [some (.ref o_frame), some (.int s), some (.int t), some (.int (uns h t)), some (.int (nI k))] [] h (RQ (.int (setR h 22 s)) h) := by
    intro n
    induction n with
    | zero =>
      intro k t hk ht
      obtain rfl : k = 22 := by omega
      exact eX2_settled (And.intro (fun _ => eX2_settled (RQ_eq ht)) (fun q => absurd (nI_le (a := 22) (b := 22) (Nat.le_refl _) (by decide)) q))
    | succ n ih =>
      intro k t hk ht
      refine eX2_settled (And.intro (fun q => absurd q (nI_ge (a := k) (b := 22) (by omega) (by decide))) (fun _ => And.intro (fun q => eX2_settled (RQ_eq ?_)) (fun q => wcV (m_unsteady (by omega)) (e_eq (ih (k + 1) (t &&& (uns h t ^^^ -1)) (by omega) ?_) ?_ rfl rfl))))
      · rw [← ht, setR_0 q]
      · rw [← ht, setR_s q]
      · rw [nI_succ]; rfl
  exact sX2_settled rfl (wcV (m_unsteady (by omega)) (loop 22 0 s rfl rfl))
noncomputable def rndR (h : Hp) : Nat → Int32 → Nat
  | 0, _ => 0
  | n + 1, s => if uns h s = 0 then 0 else rndR h n (s &&& (uns h s ^^^ -1)) + 1
theorem rndR_0 {s : Int32} {n : Nat} (q : uns h s = 0) : rndR h n s = 0 := by
  cases n with
  | zero => rfl
  | succ n => unfold rndR; rw [if_pos q]
theorem rndR_s {s : Int32} {n : Nat} (q : ¬ uns h s = 0) : rndR h (n + 1) s = rndR h n (s &&& (uns h s ^^^ -1)) + 1 := by
  rw [rndR, if_neg q]
theorem m_rounds (hd : 2 ≤ d) {s : Int32} : M cx jX2_rounds d a [.ref o_frame, .int s] h (RQ (.int (nI (rndR h 22 s))) h) := by
  have loop : ∀ n k t m, n + k = 22 → m + rndR h n t = rndR h 22 s → E cx jX2_rounds d a 14 [some (.ref o_frame), some (.int s), some (.int t), some (.int (uns h t)), some (.int (nI m)), some (.int (nI k))] [] h (RQ (.int (nI (rndR h 22 s))) h) := by
    intro n
    induction n with
    | zero =>
      intro k t m hk ht
      obtain rfl : k = 22 := by omega
      exact eX2_rounds (And.intro (fun _ => eX2_rounds (RQ_eq (by rw [← ht]; rfl))) (fun q => absurd (nI_le (a := 22) (b := 22) (Nat.le_refl _) (by decide)) q))
    | succ n ih =>
      intro k t m hk ht
      refine eX2_rounds (And.intro (fun q => absurd q (nI_ge (a := k) (b := 22) (by omega) (by decide))) (fun _ => And.intro (fun q => eX2_rounds (RQ_eq ?_)) (fun q => wcV (m_unsteady (by omega)) (e_eq (ih (k + 1) (t &&& (uns h t ^^^ -1)) (m + 1) (by omega) ?_) ?_ rfl rfl))))
      · rw [← ht, rndR_0 q]; rfl
      · rw [← ht, rndR_s q]; omega
      · rw [nI_succ k, nI_succ m]; rfl
  exact sX2_rounds rfl (wcV (m_unsteady (by omega)) (loop 22 0 s 0 rfl (Nat.zero_add _)))
noncomputable def roR (h : Hp) (p : Int32) : Nat → Nat → Int32 → Int32
  | 0, _, _ => -1
  | n + 1, i, s => if (s >>> (p &&& 31)) &&& 1 = 0 then nI i else roR h p n (i + 1) (s &&& (uns h s ^^^ -1))
theorem rndR_le {n : Nat} : ∀ {s : Int32}, rndR h n s ≤ n := by
  induction n with
  | zero => intro s; exact Nat.le_refl _
  | succ n ih =>
    intro s
    by_cases q : uns h s = 0
    · rw [rndR_0 q]; omega
    · rw [rndR_s q]; have := ih (s := s &&& (uns h s ^^^ -1)); omega
theorem m_roundOf (hd : 3 ≤ d) {s p : Int32} : M cx jX2_roundOf d a [.ref o_frame, .int s, .int p] h (RQ (.int (roR h p (rndR h 22 s + 1) 0 s)) h) := by
  have hr := rndR_le (h := h) (n := 22) (s := s)
  have loop : ∀ n k t, n + k = rndR h 22 s + 1 → roR h p n k t = roR h p (rndR h 22 s + 1) 0 s → E cx jX2_roundOf d a 12 [some (.ref o_frame), some (.int s), some (.int p), some (.int t), some (.int (nI (rndR h 22 s))), some (.int (nI k))] [] h (RQ (.int (roR h p (rndR h 22 s + 1) 0 s)) h) := by
    intro n
    induction n with
    | zero =>
      intro k t hk ht
      exact eX2_roundOf (And.intro (fun _ => eX2_roundOf (RQ_eq ht)) (fun q => absurd (nI_lt (a := rndR h 22 s) (b := k) (by omega) (by omega)) q))
    | succ n ih =>
      intro k t hk ht
      refine eX2_roundOf (And.intro (fun q => absurd q (nI_nlt (a := rndR h 22 s) (b := k) (by omega) (by omega))) (fun _ => And.intro (fun q => eX2_roundOf (wcV (m_unsteady (by omega)) (e_eq (ih (k + 1) (t &&& (uns h t ^^^ -1)) (by omega) ?_) ?_ rfl rfl))) (fun q => RQ_eq ?_)))
      · rw [← ht, roR, if_neg q]
      · rw [nI_succ]; rfl
      · rw [← ht, roR, if_pos q]
  exact sX2_roundOf rfl (wcV (m_rounds (by omega)) (loop (rndR h 22 s + 1) 0 s (by omega) rfl))
end T19
