/-! laws, the tape, sets, the two tellers -/
section T18
variable {cx : Cx} {d a : Nat} {h : Hp}
theorem wp_top {j d a pc : Nat} {Q : Option Value → Hp → Prop} {loc : Lc} {st : List Value} {r : List Ins} {v v' : Value} (e : v = v') (k : wp cx j d Q r pc a loc (v' :: st) h) : wp cx j d Q r pc a loc (v :: st) h := by rw [e]; exact k
theorem wp_hp {j d a pc : Nat} {Q : Option Value → Hp → Prop} {loc : Lc} {st : List Value} {r : List Ins} {g : Hp} (e : h = g) (k : wp cx j d Q r pc a loc st g) : wp cx j d Q r pc a loc st h := by rw [e]; exact k
theorem e_eq {j d a pc : Nat} {Q : Option Value → Hp → Prop} {loc loc' : Lc} {st st' : List Value} {g : Hp} (k : E cx j d a pc loc' st' g Q) (el : loc = loc') (es : st = st') (eg : h = g) : E cx j d a pc loc st h Q := by rw [el, es, eg]; exact k
/-- a law that stands: its arrays are not too long -/
def lawok (h : Hp) (o : Nat) : Prop := lawp h o ∧ hL h (o + 1) ≤ 400 ∧ hL h (o + 2) ≤ 25
theorem lawok_1 {o : Nat} (q : lawok h o) : lawa h (o + 1) := by
  obtain ⟨⟨h1, h2, h3⟩, -, -⟩ := q
  exact ⟨by omega, by omega, by omega⟩
theorem lawok_2 {o : Nat} (q : lawok h o) : lawa h (o + 1 + 1) := by
  obtain ⟨⟨h1, h2, h3⟩, -, -⟩ := q
  exact ⟨by omega, by omega, by omega⟩
theorem vp_len {i : Int32} {n : Nat} (hn : n ≤ 400) (h1 : 0 ≤ i) (h2 : i < Int32.ofNat n) : vp_in i n := by
  rw [vp_in_iff]
  have g1 := Int32.le_iff_toInt_le.mp h1
  have g2 := Int32.lt_iff_toInt_lt.mp h2
  have e0 : (0 : Int32).toInt = 0 := rfl
  have e1 : (Int32.ofNat n).toInt = n := nI_toInt (n := n) (by omega)
  omega
def fStep (h : Hp) (o : Nat) (i : Int32) : Int32 := if 0 ≤ i ∧ i < Int32.ofNat (hL h (o + 1)) then hI h (o + 1) i.toNatClampNeg else 0
theorem m_stepAt {o : Nat} {i : Int32} (q : lawok h o) : M cx jX3_stepAt d a [.ref o, .int i] h (RQ (.int (fStep h o i)) h) := by
  refine sX3_stepAt rfl ?_
  refine And.intro (fun q1 => eX3_stepAt (eX3_stepAt <| RQ_eq (by unfold fStep; rw [if_neg (fun z => absurd q1 (Int32.not_lt.mpr z.1))]))) (fun q1 => And.intro q.1 (And.intro (lawok_1 q) (And.intro (fun q2 => eX3_stepAt (eX3_stepAt <| RQ_eq (by unfold fStep; rw [if_neg (fun z => absurd q2 (Int32.not_le.mpr z.2))]))) (fun q2 => ?_))))
  have h1 := Int32.not_lt.mp q1
  have h2 := Int32.not_le.mp q2
  exact And.intro q.1 (And.intro (lawok_1 q) (And.intro (vp_len q.2.1 h1 h2) (eX3_stepAt (RQ_eq (by unfold fStep; rw [if_pos ⟨h1, h2⟩])))))
def fStart (h : Hp) (o : Nat) (i : Int32) : Int32 := if 0 ≤ i ∧ i < Int32.ofNat (hL h (o + 2)) then hI h (o + 2) i.toNatClampNeg else Int32.ofNat (hL h (o + 1))
theorem m_startOf {o : Nat} {i : Int32} (q : lawok h o) : M cx jX3_startOf d a [.ref o, .int i] h (RQ (.int (fStart h o i)) h) := by
  refine sX3_startOf rfl ?_
  have no : ¬ (0 ≤ i ∧ i < Int32.ofNat (hL h (o + 2))) → E cx jX3_startOf d a 22 [some (.ref o), some (.int i)] [] h (RQ (.int (fStart h o i)) h) := fun z => eX3_startOf (And.intro q.1 (And.intro (lawok_1 q) (eX3_startOf (RQ_eq (by unfold fStart; rw [if_neg z])))))
  refine And.intro (fun q1 => no fun z => absurd q1 (Int32.not_lt.mpr z.1)) (fun q1 => And.intro q.1 (And.intro (lawok_2 q) (And.intro (fun q2 => no fun z => absurd q2 (Int32.not_le.mpr z.2)) (fun q2 => ?_))))
  have h1 := Int32.not_lt.mp q1
  have h2 := Int32.not_le.mp q2
  have hl : hL h (o + 2) ≤ 400 := Nat.le_trans q.2.2 (by decide)
  exact And.intro q.1 (And.intro (lawok_2 q) (And.intro (vp_len hl h1 h2) (eX3_startOf (RQ_eq (by unfold fStart; rw [if_pos ⟨h1, h2⟩])))))
theorem m_isEmptyPart (hd : 1 ≤ d) {o : Nat} {i : Int32} (q : lawok h o) : M cx jX3_isEmptyPart d a [.ref o, .int i] h (RQ (.int (b2i (fStart h o (i + 1) ≤ fStart h o i))) h) := by
  refine sX3_isEmptyPart rfl ?_
  refine wcV (m_startOf q) (wcV (m_startOf q) (And.intro (fun z => eX3_isEmptyPart (eX3_isEmptyPart <| And.intro (Or.inl rfl) (RQ_eq (b2i_f (Int32.not_le.mpr z)).symm))) (fun z => eX3_isEmptyPart (And.intro (Or.inr rfl) (RQ_eq (b2i_t (Int32.not_lt.mp z)).symm)))) q.1) q.1
theorem m_lawInForce (hd : 1 ≤ d) {k o : Nat} (ef : hI h o_wall 7 = nI k) (hk : k < 6) (eo : hR h o_wall_laws k = some o) : M cx jX10_lawInForce d a [.ref o_wall] h (RQ (.ref o) h) := by
  refine sX10_lawInForce rfl ?_
  refine wcS m_isWithin (And.intro (fun z => absurd ?_ (b2i_0.mp z)) (fun _ => And.intro ?_ (wp_top (v' := .ref o) ?_ (eX10_lawInForce ⟨rfl, rfl⟩))))
  · rw [ef]; exact ⟨nI_pos' (by omega), nI_le (b := 5) (by omega) (by decide)⟩
  · rw [ef]; exact vp_in_nI hk (by decide)
  · show vr (hR h o_wall_laws (hI h o_wall 7).toNatClampNeg) = .ref o
    rw [ef, nI_clamp (by omega), eo]; rfl
theorem m_lawInForceN (hd : 1 ≤ d) (ef : hI h o_wall 7 = -1) : M cx jX10_lawInForce d a [.ref o_wall] h (RQ .null h) := by
  refine sX10_lawInForce rfl ?_
  refine wcS m_isWithin (And.intro (fun z => eX10_lawInForce (eX10_lawInForce ⟨rfl, rfl⟩)) (fun z => absurd (b2i_n z) ?_))
  rw [ef]; decide
theorem m_addLaw (hd : 1 ≤ d) {k o : Nat} (ek : hI h o_wall 6 = nI k) (hk : k < 6) (hl : lawp h o) : M cx jX10_addLaw d a [.ref o_wall, .ref o] h (RQ (.int (nI k)) (wI (wR h o_wall_laws k (some o)) o_wall 6 (nI (k + 1)))) := by
  refine sX10_addLaw rfl ?_
  refine wcS m_isWithin (And.intro (fun _ => eX10_addLaw (And.intro ?_ (And.intro hl (RQ_eq' ek ?_)))) (fun z => absurd ?_ (b2i_0.mp z)))
  · rw [ek]; exact vp_in_nI hk (by decide)
  · rw [ek, nI_clamp (by omega), nI_succ]
    show wI (wR h o_wall_laws k (some o)) o_wall 6 (hI h o_wall 6 + 1) = _
    rw [ek]
  · rw [ek]; exact ⟨nI_pos' (by omega), nI_le (b := 5) (by omega) (by decide)⟩
/-! the tape -/
def ub (v s : Int32) : Int32 := (v.toUInt32 >>> (s.toUInt32 &&& Int32.toUInt32 31)).toInt32 &&& 255
def putB (h : Hp) (n : Nat) (v s : Int32) : Hp := wI (wI h o_tape_bytes n (ub v s)) o_tape 1 (nI (n + 1))
theorem putB_len {n : Nat} {v s : Int32} : hI (putB h n v s) o_tape 1 = nI (n + 1) := rd_same
theorem m_tadd (hd : 1 ≤ d) {n : Nat} {v : Int32} (en : hI h o_tape 1 = nI n) (hn : n + 4 ≤ 400) : M cx jX8_add d a [.ref o_tape, .int v] h (RV (putB (putB (putB (putB h n v 24) (n + 1) v 16) (n + 2) v 8) (n + 3) v 0)) := by
  have step : ∀ (Q : Option Value → Hp → Prop) (g : Hp) (k : Nat) (s s' : Int32), hI g o_tape 1 = nI k → k < 400 → ¬ s < 0 → s + (-8) = s' → E cx jX8_add d a 3 [some (.ref o_tape), some (.int v), some (.int s')] [] (putB g k v s) Q → E cx jX8_add d a 3 [some (.ref o_tape), some (.int v), some (.int s)] [] g Q := by
    intro Q g k s s' eg hk hs es K
    refine eX8_add (And.intro (fun z => absurd z hs) (fun _ => wcS m_isWithin (And.intro (fun z => absurd ?_ (b2i_0.mp z)) (fun _ => And.intro ?_ (eX8_add (e_eq K ?_ rfl ?_))))))
    · rw [eg]; exact ⟨nI_pos' (by omega), nI_le (b := 399) (by omega) (by decide)⟩
    · rw [eg]; exact vp_in_nI hk (by decide)
    · rw [← es]; rfl
    · show wI (wI g o_tape_bytes (hI g o_tape 1).toNatClampNeg (ub v s)) o_tape 1 (hI (wI g o_tape_bytes (hI g o_tape 1).toNatClampNeg (ub v s)) o_tape 1 + 1) = _
      rw [rd_o (by decide), eg, nI_clamp (by omega), ← nI_succ]; rfl
  refine sX8_add rfl ?_
  refine step _ h n 24 16 en (by omega) (by decide) (by decide) (step _ _ (n + 1) 16 8 putB_len (by omega) (by decide) (by decide) (step _ _ (n + 2) 8 0 putB_len (by omega) (by decide) (by decide) (step _ _ (n + 3) 0 (-8) putB_len (by omega) (by decide) (by decide) ?_)))
  exact eX8_add (And.intro (fun _ => eX8_add ⟨rfl, rfl⟩) (fun z => absurd (by decide) z))
/-! counting bits as the JDK does -/
def ush (x k : Int32) : Int32 := (x.toUInt32 >>> (k.toUInt32 &&& Int32.toUInt32 31)).toInt32
def bc1 (v : Int32) : Int32 := v - (ush v 1 &&& 1431655765)
def bc2 (v : Int32) : Int32 := (v &&& 858993459) + (ush v 2 &&& 858993459)
def bc3 (v : Int32) : Int32 := (v + ush v 4) &&& 252645135
def bc4 (v : Int32) : Int32 := v + ush v 8
def bc5 (v : Int32) : Int32 := v + ush v 16
def bcw (v : Int32) : Int32 := bc5 (bc4 (bc3 (bc2 (bc1 v)))) &&& 63
theorem m_bitCount {v : Int32} : M cx jbitCount d a [.int v] h (RQ (.int (bcw v)) h) := sbitCount rfl ⟨rfl, rfl⟩
/-! a set of sets as bits of longs -/
def clrJ (h : Hp) (o n : Nat) : Hp := (h.1, (fun p k => if p = o ∧ k < n then 0 else h.2.1 p k), h.2.2)
theorem clrJ_0 {o : Nat} : clrJ h o 0 = h := by
  unfold clrJ
  have : (fun p k => if p = o ∧ k < 0 then (0 : Int64) else h.2.1 p k) = h.2.1 := by funext p k; simp
  rw [this]
theorem clrJ_step {o k : Nat} : wJ (clrJ h o k) o k 0 = clrJ h o (k + 1) := by
  unfold wJ clrJ
  have : up2 (fun p q => if p = o ∧ q < k then (0 : Int64) else h.2.1 p q) o k 0 = (fun p q => if p = o ∧ q < k + 1 then (0 : Int64) else h.2.1 p q) := by
    funext p q
    unfold up2
    by_cases h1 : p = o
    · by_cases h2 : q = k
      · subst h2; simp [h1]
      · by_cases h3 : q < k
        · simp [h1, h2, h3, Nat.lt_succ_of_lt h3]
        · have h4 : ¬ q < k + 1 := by omega
          simp [h1, h2, h3, h4]
    · simp [h1]
  simp only [this]
def inS (h : Hp) (o k : Nat) : Prop := ¬ ((hJ h o (k / 64) >>> ((nI (k % 64)).toInt64 &&& 63)) &&& 1) = 0
def inSI (h : Hp) (o : Nat) (s : Int32) : Prop := 0 ≤ s ∧ s ≤ 16383 ∧ inS h o s.toNatClampNeg
def addS (h : Hp) (o k : Nat) : Hp := wJ h o (k / 64) (hJ h o (k / 64) ||| ((1 : Int64) <<< ((nI (k % 64)).toInt64 &&& 63)))
theorem shr6 {k : Nat} (hk : k < 2 ^ 31) : nI k >>> ((6 : Int32) &&& 31) = nI (k / 64) := pk_shrN hk _ 6 (by decide)
theorem and63 {k : Nat} : nI k &&& 63 = nI (k % 64) := by
  by_cases hk : k < 2 ^ 32
  · exact pk_andN hk 6 (by decide)
  · have e : nI k = nI (k % 2 ^ 32) := by
      unfold nI; apply Int32.toBitVec_inj.mp; show BitVec.ofNat 32 k = BitVec.ofNat 32 (k % 2 ^ 32); apply BitVec.eq_of_toNat_eq; simp
    rw [e, pk_andN (Nat.mod_lt _ (by decide)) 6 (by decide)]
    congr 1; omega
theorem lg_cmp_0 {x : Int64} : ¬ lg_cmp x (kl 0 0) = 0 ↔ ¬ x = 0 := by
  have e : kl 0 0 = 0 := rfl
  rw [e]
  unfold lg_cmp
  by_cases h1 : x = 0
  · subst h1; simp
  · by_cases h2 : x > 0
    · simp [h1, h2]
    · simp [h1, h2]
/-! a set of sets: lawful -/
theorem m_clear_lawful : M cx jX7_clear d a [.ref o_lawful] h (RV (clrJ h o_lawful_words 256)) := by
  have loop : ∀ n k, n + k = 256 → E cx jX7_clear d a 2 [some (.ref o_lawful), some (.int (nI k))] [] (clrJ h o_lawful_words k) (RV (clrJ h o_lawful_words 256)) := by
    intro n
    induction n with
    | zero =>
      intro k hk
      obtain rfl : k = 256 := by omega
      exact eX7_clear (And.intro (fun _ => eX7_clear ⟨rfl, rfl⟩) (fun q => absurd (nI_le (a := 256) (b := 256) (Nat.le_refl _) (by decide)) q))
    | succ n ih =>
      intro k hk
      refine eX7_clear (And.intro (fun q => absurd q (nI_ge (a := k) (b := 256) (by omega) (by decide))) (fun _ => And.intro (vp_in_nI (N := 256) (by omega) (by decide)) (e_eq (ih (k + 1) (by omega)) ?_ rfl ?_)))
      · rw [nI_succ]; rfl
      · show wJ (clrJ h o_lawful_words k) o_lawful_words (nI k).toNatClampNeg 0 = _
        rw [nI_clamp (by omega), clrJ_step]
  have e0 : clrJ h o_lawful_words 0 = h := clrJ_0
  have := loop 256 0 rfl
  rw [e0] at this
  exact sX7_clear rfl this
theorem m_add_lawful (hd : 1 ≤ d) {k : Nat} {s : Int32} (es : s = nI k) (hk : k < 16384) : M cx jX7_add d a [.ref o_lawful, .int s] h (RV (addS h o_lawful_words k)) := by
  subst es
  refine sX7_add rfl ?_
  refine wcS m_isWithin (And.intro (fun z => absurd ⟨nI_pos' (by omega), nI_le (b := 16383) (by omega) (by decide)⟩ (b2i_0.mp z)) (fun _ => ?_))
  have e1 : nI k >>> ((6 : Int32) &&& 31) = nI (k / 64) := shr6 (by omega)
  have e2 : vp_in (nI k >>> ((6 : Int32) &&& 31)) 256 := by rw [e1]; exact vp_in_nI (by omega) (by decide)
  refine And.intro e2 (And.intro e2 (eX7_add ⟨rfl, ?_⟩))
  show wJ h o_lawful_words (nI k >>> ((6 : Int32) &&& 31)).toNatClampNeg _ = _
  rw [e1, nI_clamp (by omega)]
  show wJ h o_lawful_words (k / 64) (hJ h o_lawful_words (k / 64) ||| ((1 : Int64) <<< ((nI k &&& 63).toInt64 &&& 63))) = _
  unfold addS
  rw [and63]
theorem m_has_lawful (hd : 1 ≤ d) {s : Int32} : M cx jX7_has d a [.ref o_lawful, .int s] h (RQ (.int (b2i (inSI h o_lawful_words s))) h) := by
  refine sX7_has rfl ?_
  refine wcS m_isWithin (And.intro (fun z => eX7_has (eX7_has <| And.intro (Or.inl rfl) (RQ_eq (b2i_f (fun q => b2i_0.mp z ⟨q.1, q.2.1⟩)).symm))) (fun z => ?_))
  have z := b2i_n z
  obtain ⟨k, hk, rfl⟩ := nI_of2 (M := 16383) (n := 16383) (by decide) (Int32.not_lt.mpr z.1) z.2
  have e1 : nI k >>> ((6 : Int32) &&& 31) = nI (k / 64) := shr6 (by omega)
  have e2 : vp_in (nI k >>> ((6 : Int32) &&& 31)) 256 := by rw [e1]; exact vp_in_nI (by omega) (by decide)
  have e3 : inS h o_lawful_words k ↔ ¬ lg_cmp ((hJ h o_lawful_words (nI k >>> ((6 : Int32) &&& 31)).toNatClampNeg >>> ((nI k &&& 63).toInt64 &&& 63)) &&& kl 1 0) (kl 0 0) = 0 := by
    rw [e1, nI_clamp (by omega), and63, lg_cmp_0]; rfl
  refine And.intro e2 (And.intro (fun q => eX7_has (eX7_has <| And.intro (Or.inl rfl) (RQ_eq (b2i_f (fun y => ?_)).symm))) (fun q => eX7_has (And.intro (Or.inr rfl) (RQ_eq (b2i_t ⟨z.1, z.2, ?_⟩).symm))))
  · have y := y.2.2; rw [nI_clamp (by omega)] at y; exact e3.mp y q
  · rw [nI_clamp (by omega)]; exact e3.mpr q
def hwo_lawful (h : Hp) (s t : Int32) (n : Nat) : Prop := ∃ k, k < n ∧ ¬ (((1 : Int32) <<< (nI k &&& 31)) &&& t &&& s) = 0 ∧ inSI h o_lawful_words (s &&& ((((1 : Int32) <<< (nI k &&& 31)) &&& t &&& s) ^^^ -1))
theorem m_hasWithoutOne_lawful (hd : 2 ≤ d) {s t : Int32} : M cx jX7_hasWithoutOne d a [.ref o_lawful, .int s, .int t] h (RQ (.int (b2i (hwo_lawful h s t 14))) h) := by
  have loop : ∀ n k (w : Option Value), n + k = 14 → ¬ hwo_lawful h s t k → E cx jX7_hasWithoutOne d a 2 [some (.ref o_lawful), some (.int s), some (.int t), some (.int (nI k)), w] [] h (RQ (.int (b2i (hwo_lawful h s t 14))) h) := by
    intro n
    induction n with
    | zero =>
      intro k w hk hn
      obtain rfl : k = 14 := by omega
      exact eX7_hasWithoutOne (And.intro (fun _ => eX7_hasWithoutOne (And.intro (Or.inl rfl) (RQ_eq (b2i_f hn).symm))) (fun q => absurd (nI_le (a := 14) (b := 14) (Nat.le_refl _) (by decide)) q))
    | succ n ih =>
      intro k w hk hn
      have go : ¬ (¬ (((1 : Int32) <<< (nI k &&& 31)) &&& t &&& s) = 0 ∧ inSI h o_lawful_words (s &&& ((((1 : Int32) <<< (nI k &&& 31)) &&& t &&& s) ^^^ -1))) → E cx jX7_hasWithoutOne d a 37 [some (.ref o_lawful), some (.int s), some (.int t), some (.int (nI k)), some (.int (((1 : Int32) <<< (nI k &&& 31)) &&& t &&& s))] [] h (RQ (.int (b2i (hwo_lawful h s t 14))) h) := fun hk2 => by
        refine eX7_hasWithoutOne (e_eq (ih (k + 1) (some (.int (((1 : Int32) <<< (nI k &&& 31)) &&& t &&& s))) (by omega) ?_) ?_ rfl rfl)
        · rintro ⟨i, hi, hf⟩
          rcases Nat.lt_succ_iff_lt_or_eq.mp hi with hi | rfl
          · exact hn ⟨i, hi, hf⟩
          · exact hk2 hf
        · rw [nI_succ]; rfl
      cases w with
      | none =>
        refine eX7_hasWithoutOne (And.intro (fun q => absurd q (nI_ge (a := k) (b := 14) (by omega) (by decide))) (fun _ => And.intro (fun q => go (fun z => z.1 q)) (fun q => wcV (m_has_lawful (by omega)) (And.intro (fun q2 => go (fun z => b2i_0.mp q2 z.2)) (fun q2 => And.intro (Or.inr rfl) (RQ_eq (b2i_t ?_).symm))))))
        exact ⟨k, by omega, q, b2i_n q2⟩
      | some w =>
        refine eX7_hasWithoutOne (And.intro (fun q => absurd q (nI_ge (a := k) (b := 14) (by omega) (by decide))) (fun _ => And.intro (fun q => go (fun z => z.1 q)) (fun q => wcV (m_has_lawful (by omega)) (And.intro (fun q2 => go (fun z => b2i_0.mp q2 z.2)) (fun q2 => And.intro (Or.inr rfl) (RQ_eq (b2i_t ?_).symm))))))
        exact ⟨k, by omega, q, b2i_n q2⟩
  exact sX7_hasWithoutOne rfl (loop 14 0 none rfl (fun z => by obtain ⟨i, hi, _⟩ := z; omega))
def hw1_lawful (h : Hp) (s t : Int32) (n : Nat) : Prop := ∃ k, k < n ∧ ¬ (((1 : Int32) <<< (nI k &&& 31)) &&& t &&& (s ^^^ -1)) = 0 ∧ inSI h o_lawful_words (s ||| (((1 : Int32) <<< (nI k &&& 31)) &&& t &&& (s ^^^ -1)))
theorem m_hasWithOne_lawful (hd : 2 ≤ d) {s t : Int32} : M cx jX7_hasWithOne d a [.ref o_lawful, .int s, .int t] h (RQ (.int (b2i (hw1_lawful h s t 14))) h) := by
  have loop : ∀ n k (w : Option Value), n + k = 14 → ¬ hw1_lawful h s t k → E cx jX7_hasWithOne d a 2 [some (.ref o_lawful), some (.int s), some (.int t), some (.int (nI k)), w] [] h (RQ (.int (b2i (hw1_lawful h s t 14))) h) := by
    intro n
    induction n with
    | zero =>
      intro k w hk hn
      obtain rfl : k = 14 := by omega
      exact eX7_hasWithOne (And.intro (fun _ => eX7_hasWithOne (And.intro (Or.inl rfl) (RQ_eq (b2i_f hn).symm))) (fun q => absurd (nI_le (a := 14) (b := 14) (Nat.le_refl _) (by decide)) q))
    | succ n ih =>
      intro k w hk hn
      have go : ¬ (¬ (((1 : Int32) <<< (nI k &&& 31)) &&& t &&& (s ^^^ -1)) = 0 ∧ inSI h o_lawful_words (s ||| (((1 : Int32) <<< (nI k &&& 31)) &&& t &&& (s ^^^ -1)))) → E cx jX7_hasWithOne d a 37 [some (.ref o_lawful), some (.int s), some (.int t), some (.int (nI k)), some (.int (((1 : Int32) <<< (nI k &&& 31)) &&& t &&& (s ^^^ -1)))] [] h (RQ (.int (b2i (hw1_lawful h s t 14))) h) := fun hk2 => by
        refine eX7_hasWithOne (e_eq (ih (k + 1) (some (.int (((1 : Int32) <<< (nI k &&& 31)) &&& t &&& (s ^^^ -1)))) (by omega) ?_) ?_ rfl rfl)
        · rintro ⟨i, hi, hf⟩
          rcases Nat.lt_succ_iff_lt_or_eq.mp hi with hi | rfl
          · exact hn ⟨i, hi, hf⟩
          · exact hk2 hf
        · rw [nI_succ]; rfl
      cases w with
      | none =>
        refine eX7_hasWithOne (And.intro (fun q => absurd q (nI_ge (a := k) (b := 14) (by omega) (by decide))) (fun _ => And.intro (fun q => go (fun z => z.1 q)) (fun q => wcV (m_has_lawful (by omega)) (And.intro (fun q2 => go (fun z => b2i_0.mp q2 z.2)) (fun q2 => And.intro (Or.inr rfl) (RQ_eq (b2i_t ?_).symm))))))
        exact ⟨k, by omega, q, b2i_n q2⟩
      | some w =>
        refine eX7_hasWithOne (And.intro (fun q => absurd q (nI_ge (a := k) (b := 14) (by omega) (by decide))) (fun _ => And.intro (fun q => go (fun z => z.1 q)) (fun q => wcV (m_has_lawful (by omega)) (And.intro (fun q2 => go (fun z => b2i_0.mp q2 z.2)) (fun q2 => And.intro (Or.inr rfl) (RQ_eq (b2i_t ?_).symm))))))
        exact ⟨k, by omega, q, b2i_n q2⟩
  exact sX7_hasWithOne rfl (loop 14 0 none rfl (fun z => by obtain ⟨i, hi, _⟩ := z; omega))
/-! a set of sets: marked -/
theorem m_clear_marked : M cx jX7_clear d a [.ref o_marked] h (RV (clrJ h o_marked_words 256)) := by
  have loop : ∀ n k, n + k = 256 → E cx jX7_clear d a 2 [some (.ref o_marked), some (.int (nI k))] [] (clrJ h o_marked_words k) (RV (clrJ h o_marked_words 256)) := by
    intro n
    induction n with
    | zero =>
      intro k hk
      obtain rfl : k = 256 := by omega
      exact eX7_clear (And.intro (fun _ => eX7_clear ⟨rfl, rfl⟩) (fun q => absurd (nI_le (a := 256) (b := 256) (Nat.le_refl _) (by decide)) q))
    | succ n ih =>
      intro k hk
      refine eX7_clear (And.intro (fun q => absurd q (nI_ge (a := k) (b := 256) (by omega) (by decide))) (fun _ => And.intro (vp_in_nI (N := 256) (by omega) (by decide)) (e_eq (ih (k + 1) (by omega)) ?_ rfl ?_)))
      · rw [nI_succ]; rfl
      · show wJ (clrJ h o_marked_words k) o_marked_words (nI k).toNatClampNeg 0 = _
        rw [nI_clamp (by omega), clrJ_step]
  have e0 : clrJ h o_marked_words 0 = h := clrJ_0
  have := loop 256 0 rfl
  rw [e0] at this
  exact sX7_clear rfl this
theorem m_add_marked (hd : 1 ≤ d) {k : Nat} {s : Int32} (es : s = nI k) (hk : k < 16384) : M cx jX7_add d a [.ref o_marked, .int s] h (RV (addS h o_marked_words k)) := by
  subst es
  refine sX7_add rfl ?_
  refine wcS m_isWithin (And.intro (fun z => absurd ⟨nI_pos' (by omega), nI_le (b := 16383) (by omega) (by decide)⟩ (b2i_0.mp z)) (fun _ => ?_))
  have e1 : nI k >>> ((6 : Int32) &&& 31) = nI (k / 64) := shr6 (by omega)
  have e2 : vp_in (nI k >>> ((6 : Int32) &&& 31)) 256 := by rw [e1]; exact vp_in_nI (by omega) (by decide)
  refine And.intro e2 (And.intro e2 (eX7_add ⟨rfl, ?_⟩))
  show wJ h o_marked_words (nI k >>> ((6 : Int32) &&& 31)).toNatClampNeg _ = _
  rw [e1, nI_clamp (by omega)]
  show wJ h o_marked_words (k / 64) (hJ h o_marked_words (k / 64) ||| ((1 : Int64) <<< ((nI k &&& 63).toInt64 &&& 63))) = _
  unfold addS
  rw [and63]
theorem m_has_marked (hd : 1 ≤ d) {s : Int32} : M cx jX7_has d a [.ref o_marked, .int s] h (RQ (.int (b2i (inSI h o_marked_words s))) h) := by
  refine sX7_has rfl ?_
  refine wcS m_isWithin (And.intro (fun z => eX7_has (eX7_has <| And.intro (Or.inl rfl) (RQ_eq (b2i_f (fun q => b2i_0.mp z ⟨q.1, q.2.1⟩)).symm))) (fun z => ?_))
  have z := b2i_n z
  obtain ⟨k, hk, rfl⟩ := nI_of2 (M := 16383) (n := 16383) (by decide) (Int32.not_lt.mpr z.1) z.2
  have e1 : nI k >>> ((6 : Int32) &&& 31) = nI (k / 64) := shr6 (by omega)
  have e2 : vp_in (nI k >>> ((6 : Int32) &&& 31)) 256 := by rw [e1]; exact vp_in_nI (by omega) (by decide)
  have e3 : inS h o_marked_words k ↔ ¬ lg_cmp ((hJ h o_marked_words (nI k >>> ((6 : Int32) &&& 31)).toNatClampNeg >>> ((nI k &&& 63).toInt64 &&& 63)) &&& kl 1 0) (kl 0 0) = 0 := by
    rw [e1, nI_clamp (by omega), and63, lg_cmp_0]; rfl
  refine And.intro e2 (And.intro (fun q => eX7_has (eX7_has <| And.intro (Or.inl rfl) (RQ_eq (b2i_f (fun y => ?_)).symm))) (fun q => eX7_has (And.intro (Or.inr rfl) (RQ_eq (b2i_t ⟨z.1, z.2, ?_⟩).symm))))
  · have y := y.2.2; rw [nI_clamp (by omega)] at y; exact e3.mp y q
  · rw [nI_clamp (by omega)]; exact e3.mpr q
def hwo_marked (h : Hp) (s t : Int32) (n : Nat) : Prop := ∃ k, k < n ∧ ¬ (((1 : Int32) <<< (nI k &&& 31)) &&& t &&& s) = 0 ∧ inSI h o_marked_words (s &&& ((((1 : Int32) <<< (nI k &&& 31)) &&& t &&& s) ^^^ -1))
theorem m_hasWithoutOne_marked (hd : 2 ≤ d) {s t : Int32} : M cx jX7_hasWithoutOne d a [.ref o_marked, .int s, .int t] h (RQ (.int (b2i (hwo_marked h s t 14))) h) := by
  have loop : ∀ n k (w : Option Value), n + k = 14 → ¬ hwo_marked h s t k → E cx jX7_hasWithoutOne d a 2 [some (.ref o_marked), some (.int s), some (.int t), some (.int (nI k)), w] [] h (RQ (.int (b2i (hwo_marked h s t 14))) h) := by
    intro n
    induction n with
    | zero =>
      intro k w hk hn
      obtain rfl : k = 14 := by omega
      exact eX7_hasWithoutOne (And.intro (fun _ => eX7_hasWithoutOne (And.intro (Or.inl rfl) (RQ_eq (b2i_f hn).symm))) (fun q => absurd (nI_le (a := 14) (b := 14) (Nat.le_refl _) (by decide)) q))
    | succ n ih =>
      intro k w hk hn
      have go : ¬ (¬ (((1 : Int32) <<< (nI k &&& 31)) &&& t &&& s) = 0 ∧ inSI h o_marked_words (s &&& ((((1 : Int32) <<< (nI k &&& 31)) &&& t &&& s) ^^^ -1))) → E cx jX7_hasWithoutOne d a 37 [some (.ref o_marked), some (.int s), some (.int t), some (.int (nI k)), some (.int (((1 : Int32) <<< (nI k &&& 31)) &&& t &&& s))] [] h (RQ (.int (b2i (hwo_marked h s t 14))) h) := fun hk2 => by
        refine eX7_hasWithoutOne (e_eq (ih (k + 1) (some (.int (((1 : Int32) <<< (nI k &&& 31)) &&& t &&& s))) (by omega) ?_) ?_ rfl rfl)
        · rintro ⟨i, hi, hf⟩
          rcases Nat.lt_succ_iff_lt_or_eq.mp hi with hi | rfl
          · exact hn ⟨i, hi, hf⟩
          · exact hk2 hf
        · rw [nI_succ]; rfl
      cases w with
      | none =>
        refine eX7_hasWithoutOne (And.intro (fun q => absurd q (nI_ge (a := k) (b := 14) (by omega) (by decide))) (fun _ => And.intro (fun q => go (fun z => z.1 q)) (fun q => wcV (m_has_marked (by omega)) (And.intro (fun q2 => go (fun z => b2i_0.mp q2 z.2)) (fun q2 => And.intro (Or.inr rfl) (RQ_eq (b2i_t ?_).symm))))))
        exact ⟨k, by omega, q, b2i_n q2⟩
      | some w =>
        refine eX7_hasWithoutOne (And.intro (fun q => absurd q (nI_ge (a := k) (b := 14) (by omega) (by decide))) (fun _ => And.intro (fun q => go (fun z => z.1 q)) (fun q => wcV (m_has_marked (by omega)) (And.intro (fun q2 => go (fun z => b2i_0.mp q2 z.2)) (fun q2 => And.intro (Or.inr rfl) (RQ_eq (b2i_t ?_).symm))))))
        exact ⟨k, by omega, q, b2i_n q2⟩
  exact sX7_hasWithoutOne rfl (loop 14 0 none rfl (fun z => by obtain ⟨i, hi, _⟩ := z; omega))
def hw1_marked (h : Hp) (s t : Int32) (n : Nat) : Prop := ∃ k, k < n ∧ ¬ (((1 : Int32) <<< (nI k &&& 31)) &&& t &&& (s ^^^ -1)) = 0 ∧ inSI h o_marked_words (s ||| (((1 : Int32) <<< (nI k &&& 31)) &&& t &&& (s ^^^ -1)))
theorem m_hasWithOne_marked (hd : 2 ≤ d) {s t : Int32} : M cx jX7_hasWithOne d a [.ref o_marked, .int s, .int t] h (RQ (.int (b2i (hw1_marked h s t 14))) h) := by
  have loop : ∀ n k (w : Option Value), n + k = 14 → ¬ hw1_marked h s t k → E cx jX7_hasWithOne d a 2 [some (.ref o_marked), some (.int s), some (.int t), some (.int (nI k)), w] [] h (RQ (.int (b2i (hw1_marked h s t 14))) h) := by
    intro n
    induction n with
    | zero =>
      intro k w hk hn
      obtain rfl : k = 14 := by omega
      exact eX7_hasWithOne (And.intro (fun _ => eX7_hasWithOne (And.intro (Or.inl rfl) (RQ_eq (b2i_f hn).symm))) (fun q => absurd (nI_le (a := 14) (b := 14) (Nat.le_refl _) (by decide)) q))
    | succ n ih =>
      intro k w hk hn
      have go : ¬ (¬ (((1 : Int32) <<< (nI k &&& 31)) &&& t &&& (s ^^^ -1)) = 0 ∧ inSI h o_marked_words (s ||| (((1 : Int32) <<< (nI k &&& 31)) &&& t &&& (s ^^^ -1)))) → E cx jX7_hasWithOne d a 37 [some (.ref o_marked), some (.int s), some (.int t), some (.int (nI k)), some (.int (((1 : Int32) <<< (nI k &&& 31)) &&& t &&& (s ^^^ -1)))] [] h (RQ (.int (b2i (hw1_marked h s t 14))) h) := fun hk2 => by
        refine eX7_hasWithOne (e_eq (ih (k + 1) (some (.int (((1 : Int32) <<< (nI k &&& 31)) &&& t &&& (s ^^^ -1)))) (by omega) ?_) ?_ rfl rfl)
        · rintro ⟨i, hi, hf⟩
          rcases Nat.lt_succ_iff_lt_or_eq.mp hi with hi | rfl
          · exact hn ⟨i, hi, hf⟩
          · exact hk2 hf
        · rw [nI_succ]; rfl
      cases w with
      | none =>
        refine eX7_hasWithOne (And.intro (fun q => absurd q (nI_ge (a := k) (b := 14) (by omega) (by decide))) (fun _ => And.intro (fun q => go (fun z => z.1 q)) (fun q => wcV (m_has_marked (by omega)) (And.intro (fun q2 => go (fun z => b2i_0.mp q2 z.2)) (fun q2 => And.intro (Or.inr rfl) (RQ_eq (b2i_t ?_).symm))))))
        exact ⟨k, by omega, q, b2i_n q2⟩
      | some w =>
        refine eX7_hasWithOne (And.intro (fun q => absurd q (nI_ge (a := k) (b := 14) (by omega) (by decide))) (fun _ => And.intro (fun q => go (fun z => z.1 q)) (fun q => wcV (m_has_marked (by omega)) (And.intro (fun q2 => go (fun z => b2i_0.mp q2 z.2)) (fun q2 => And.intro (Or.inr rfl) (RQ_eq (b2i_t ?_).symm))))))
        exact ⟨k, by omega, q, b2i_n q2⟩
  exact sX7_hasWithOne rfl (loop 14 0 none rfl (fun z => by obtain ⟨i, hi, _⟩ := z; omega))
theorem fFact_cong {g : Hp} (e : ∀ k, hI g o_wall_facts k = hI h o_wall_facts k) (p w : Int32) : fFact g p w = fFact h p w := by unfold fFact; rw [e]
theorem wtR_cong {g : Hp} (e : ∀ k, hI g o_wall_facts k = hI h o_wall_facts k) {s : Int32} : ∀ {n : Nat}, wtR g s n = wtR h s n := by
  intro n
  induction n with
  | zero => rfl
  | succ n ih => unfold wtR; rw [ih, fFact_cong e]
theorem m_clear_onceFound : M cx jX4_clear d a [.ref o_onceFound] h (RV (wI (wI (wI (wI h o_onceFound 0 (-1)) o_onceFound 1 (-1)) o_onceFound 2 (-1)) o_onceFound 3 0)) := sX4_clear rfl ⟨rfl, rfl⟩
theorem m_told_onceFound {w : Int32} : M cx jX4_told d a [.ref o_onceFound, .int w] h (RQ (.int (if w = 0 then hI h o_onceFound 0 else if w = 1 then hI h o_onceFound 1 else if w = 2 then hI h o_onceFound 2 else if w = 3 then hI h o_onceFound 3 else -1)) h) := by
  refine sX4_told rfl (And.intro (fun q => eX4_told (And.intro (fun q1 => eX4_told (And.intro (fun q2 => eX4_told (And.intro (fun q3 => eX4_told (eX4_told (RQ_eq ?_))) (fun q3 => eX4_told (RQ_eq ?_)))) (fun q2 => eX4_told (RQ_eq ?_)))) (fun q1 => eX4_told (RQ_eq ?_)))) (fun q => eX4_told (RQ_eq ?_)))
  · simp [q, q1, q2, q3]
  · subst q3; simp
  · subst q2; simp
  · subst q1; simp
  · subst q; simp
noncomputable def offM_onceFound (h : Hp) (s : Int32) : Hp :=
  @ite _ (bcw s < hI h o_onceFound 0) (Classical.propDecidable _) (wI h o_onceFound 3 (hI h o_onceFound 3 + 1))
    (@ite _ (hI h o_onceFound 0 < bcw s ∨ hI h o_onceFound 1 < wtR h s 14 ∨ (wtR h s 14 = hI h o_onceFound 1 ∧ s < hI h o_onceFound 2)) (Classical.propDecidable _)
      (wI (wI (wI (wI h o_onceFound 3 (hI h o_onceFound 3 + 1)) o_onceFound 0 (bcw s)) o_onceFound 1 (wtR h s 14)) o_onceFound 2 s) (wI h o_onceFound 3 (hI h o_onceFound 3 + 1)))
theorem m_offer_onceFound (hd : 2 ≤ d) {s : Int32} : M cx jX4_offer d a [.ref o_onceFound, .int s, .ref o_wall] h (RV (offM_onceFound h s)) := by
  have e0 : ∀ k : Nat, k ≠ 3 → hI (wI h o_onceFound 3 (hI h o_onceFound 3 + 1)) o_onceFound k = hI h o_onceFound k := fun k hk => rd_k hk
  have ew : wtR (wI h o_onceFound 3 (hI h o_onceFound 3 + 1)) s 14 = wtR h s 14 := wtR_cong (fun k => rd_o (by decide))
  refine sX4_offer rfl ?_
  refine wcS m_bitCount (And.intro (fun q => eX4_offer (wcV (m_weightOf (by omega)) ?_)) (fun q => ⟨rfl, ?_⟩))
  · have q : hI h o_onceFound 0 ≤ bcw s := by have := q; rw [e0 0 (by decide)] at this; exact this
    have nq : ¬ bcw s < hI h o_onceFound 0 := Int32.not_lt.mpr q
    have yes : (hI h o_onceFound 0 < bcw s ∨ hI h o_onceFound 1 < wtR h s 14 ∨ (wtR h s 14 = hI h o_onceFound 1 ∧ s < hI h o_onceFound 2)) → wI (wI (wI (wI h o_onceFound 3 (hI h o_onceFound 3 + 1)) o_onceFound 0 (bcw s)) o_onceFound 1 (wtR (wI h o_onceFound 3 (hI h o_onceFound 3 + 1)) s 14)) o_onceFound 2 s = offM_onceFound h s := fun c => by
      rw [ew]; unfold offM_onceFound; rw [if_neg nq, if_pos c]
    have no : ¬ (hI h o_onceFound 0 < bcw s ∨ hI h o_onceFound 1 < wtR h s 14 ∨ (wtR h s 14 = hI h o_onceFound 1 ∧ s < hI h o_onceFound 2)) → wI h o_onceFound 3 (hI h o_onceFound 3 + 1) = offM_onceFound h s := fun c => by
      unfold offM_onceFound; rw [if_neg nq, if_neg c]
    refine And.intro (fun c1 => eX4_offer (eX4_offer ⟨rfl, yes ?_⟩)) (fun c1 => And.intro (fun c2 => eX4_offer (eX4_offer ⟨rfl, yes ?_⟩)) (fun c2 => And.intro (fun c3 => eX4_offer ⟨rfl, no ?_⟩) (fun c3 => And.intro (fun c4 => eX4_offer ⟨rfl, no ?_⟩) (fun c4 => eX4_offer (eX4_offer ⟨rfl, yes ?_⟩)))))
    · left; rw [e0 0 (by decide)] at c1; exact c1
    · right; left; rw [e0 1 (by decide), ew] at c2; exact c2
    · rw [e0 0 (by decide)] at c1; rw [e0 1 (by decide), ew] at c2 c3
      rintro (z | z | z)
      · exact c1 z
      · exact c2 z
      · exact c3 z.1
    · rw [e0 0 (by decide)] at c1; rw [e0 1 (by decide), ew] at c2; rw [e0 2 (by decide)] at c4
      rintro (z | z | z)
      · exact c1 z
      · exact c2 z
      · exact absurd z.2 (Int32.not_lt.mpr c4)
    · rw [e0 1 (by decide), ew] at c3; rw [e0 2 (by decide)] at c4
      right; right; exact ⟨c3, Int32.not_le.mp c4⟩
  · have q : bcw s < hI h o_onceFound 0 := by have := Int32.not_le.mp q; rw [e0 0 (by decide)] at this; exact this
    unfold offM_onceFound; rw [if_pos q]
theorem m_clear_stepsFound : M cx jX4_clear d a [.ref o_stepsFound] h (RV (wI (wI (wI (wI h o_stepsFound 0 (-1)) o_stepsFound 1 (-1)) o_stepsFound 2 (-1)) o_stepsFound 3 0)) := sX4_clear rfl ⟨rfl, rfl⟩
theorem m_told_stepsFound {w : Int32} : M cx jX4_told d a [.ref o_stepsFound, .int w] h (RQ (.int (if w = 0 then hI h o_stepsFound 0 else if w = 1 then hI h o_stepsFound 1 else if w = 2 then hI h o_stepsFound 2 else if w = 3 then hI h o_stepsFound 3 else -1)) h) := by
  refine sX4_told rfl (And.intro (fun q => eX4_told (And.intro (fun q1 => eX4_told (And.intro (fun q2 => eX4_told (And.intro (fun q3 => eX4_told (eX4_told (RQ_eq ?_))) (fun q3 => eX4_told (RQ_eq ?_)))) (fun q2 => eX4_told (RQ_eq ?_)))) (fun q1 => eX4_told (RQ_eq ?_)))) (fun q => eX4_told (RQ_eq ?_)))
  · simp [q, q1, q2, q3]
  · subst q3; simp
  · subst q2; simp
  · subst q1; simp
  · subst q; simp
noncomputable def offM_stepsFound (h : Hp) (s : Int32) : Hp :=
  @ite _ (bcw s < hI h o_stepsFound 0) (Classical.propDecidable _) (wI h o_stepsFound 3 (hI h o_stepsFound 3 + 1))
    (@ite _ (hI h o_stepsFound 0 < bcw s ∨ hI h o_stepsFound 1 < wtR h s 14 ∨ (wtR h s 14 = hI h o_stepsFound 1 ∧ s < hI h o_stepsFound 2)) (Classical.propDecidable _)
      (wI (wI (wI (wI h o_stepsFound 3 (hI h o_stepsFound 3 + 1)) o_stepsFound 0 (bcw s)) o_stepsFound 1 (wtR h s 14)) o_stepsFound 2 s) (wI h o_stepsFound 3 (hI h o_stepsFound 3 + 1)))
theorem m_offer_stepsFound (hd : 2 ≤ d) {s : Int32} : M cx jX4_offer d a [.ref o_stepsFound, .int s, .ref o_wall] h (RV (offM_stepsFound h s)) := by
  have e0 : ∀ k : Nat, k ≠ 3 → hI (wI h o_stepsFound 3 (hI h o_stepsFound 3 + 1)) o_stepsFound k = hI h o_stepsFound k := fun k hk => rd_k hk
  have ew : wtR (wI h o_stepsFound 3 (hI h o_stepsFound 3 + 1)) s 14 = wtR h s 14 := wtR_cong (fun k => rd_o (by decide))
  refine sX4_offer rfl ?_
  refine wcS m_bitCount (And.intro (fun q => eX4_offer (wcV (m_weightOf (by omega)) ?_)) (fun q => ⟨rfl, ?_⟩))
  · have q : hI h o_stepsFound 0 ≤ bcw s := by have := q; rw [e0 0 (by decide)] at this; exact this
    have nq : ¬ bcw s < hI h o_stepsFound 0 := Int32.not_lt.mpr q
    have yes : (hI h o_stepsFound 0 < bcw s ∨ hI h o_stepsFound 1 < wtR h s 14 ∨ (wtR h s 14 = hI h o_stepsFound 1 ∧ s < hI h o_stepsFound 2)) → wI (wI (wI (wI h o_stepsFound 3 (hI h o_stepsFound 3 + 1)) o_stepsFound 0 (bcw s)) o_stepsFound 1 (wtR (wI h o_stepsFound 3 (hI h o_stepsFound 3 + 1)) s 14)) o_stepsFound 2 s = offM_stepsFound h s := fun c => by
      rw [ew]; unfold offM_stepsFound; rw [if_neg nq, if_pos c]
    have no : ¬ (hI h o_stepsFound 0 < bcw s ∨ hI h o_stepsFound 1 < wtR h s 14 ∨ (wtR h s 14 = hI h o_stepsFound 1 ∧ s < hI h o_stepsFound 2)) → wI h o_stepsFound 3 (hI h o_stepsFound 3 + 1) = offM_stepsFound h s := fun c => by
      unfold offM_stepsFound; rw [if_neg nq, if_neg c]
    refine And.intro (fun c1 => eX4_offer (eX4_offer ⟨rfl, yes ?_⟩)) (fun c1 => And.intro (fun c2 => eX4_offer (eX4_offer ⟨rfl, yes ?_⟩)) (fun c2 => And.intro (fun c3 => eX4_offer ⟨rfl, no ?_⟩) (fun c3 => And.intro (fun c4 => eX4_offer ⟨rfl, no ?_⟩) (fun c4 => eX4_offer (eX4_offer ⟨rfl, yes ?_⟩)))))
    · left; rw [e0 0 (by decide)] at c1; exact c1
    · right; left; rw [e0 1 (by decide), ew] at c2; exact c2
    · rw [e0 0 (by decide)] at c1; rw [e0 1 (by decide), ew] at c2 c3
      rintro (z | z | z)
      · exact c1 z
      · exact c2 z
      · exact c3 z.1
    · rw [e0 0 (by decide)] at c1; rw [e0 1 (by decide), ew] at c2; rw [e0 2 (by decide)] at c4
      rintro (z | z | z)
      · exact c1 z
      · exact c2 z
      · exact absurd z.2 (Int32.not_lt.mpr c4)
    · rw [e0 1 (by decide), ew] at c3; rw [e0 2 (by decide)] at c4
      right; right; exact ⟨c3, Int32.not_le.mp c4⟩
  · have q : bcw s < hI h o_stepsFound 0 := by have := Int32.not_le.mp q; rw [e0 0 (by decide)] at this; exact this
    unfold offM_stepsFound; rw [if_pos q]
theorem m_clear_fellingFound : M cx jX1_clear d a [.ref o_fellingFound] h (RV (wI (wI (wI h o_fellingFound 0 (-1)) o_fellingFound 1 (-1)) o_fellingFound 2 0)) := sX1_clear rfl ⟨rfl, rfl⟩
theorem m_told_fellingFound {w : Int32} : M cx jX1_told d a [.ref o_fellingFound, .int w] h (RQ (.int (if w = 0 then hI h o_fellingFound 0 else if w = 1 then hI h o_fellingFound 1 else if w = 2 then hI h o_fellingFound 2 else -1)) h) := by
  refine sX1_told rfl (And.intro (fun q => eX1_told (And.intro (fun q1 => eX1_told (And.intro (fun q2 => eX1_told (eX1_told (RQ_eq ?_))) (fun q2 => eX1_told (RQ_eq ?_)))) (fun q1 => eX1_told (RQ_eq ?_)))) (fun q => eX1_told (RQ_eq ?_)))
  · simp [q, q1, q2]
  · subst q2; simp
  · subst q1; simp
  · subst q; simp
noncomputable def offF_fellingFound (h : Hp) (s : Int32) : Hp :=
  @ite _ (hI h o_fellingFound 0 = -1 ∨ bcw s < hI h o_fellingFound 0) (Classical.propDecidable _) (wI (wI (wI h o_fellingFound 0 (bcw s)) o_fellingFound 1 s) o_fellingFound 2 1)
    (@ite _ (bcw s = hI h o_fellingFound 0) (Classical.propDecidable _) (wI (wI h o_fellingFound 1 (if s < hI h o_fellingFound 1 then s else hI h o_fellingFound 1)) o_fellingFound 2 (hI h o_fellingFound 2 + 1)) h)
theorem m_offer_fellingFound (hd : 1 ≤ d) {s : Int32} : M cx jX1_offer d a [.ref o_fellingFound, .int s] h (RV (offF_fellingFound h s)) := by
  refine sX1_offer rfl ?_
  have yes : (hI h o_fellingFound 0 = -1 ∨ bcw s < hI h o_fellingFound 0) → wI (wI (wI h o_fellingFound 0 (bcw s)) o_fellingFound 1 s) o_fellingFound 2 1 = offF_fellingFound h s := fun c => by unfold offF_fellingFound; rw [if_pos c]
  refine wcS m_bitCount (And.intro (fun q => eX1_offer (eX1_offer ⟨rfl, yes (Or.inl q)⟩)) (fun q => And.intro (fun q2 => eX1_offer (And.intro (fun q3 => eX1_offer ⟨rfl, ?_⟩) (fun q3 => And.intro ⟨Nat.le_of_ble_eq_true rfl, by omega⟩ (eX1_offer ⟨rfl, ?_⟩)))) (fun q2 => eX1_offer (eX1_offer ⟨rfl, yes (Or.inr (Int32.not_le.mp q2))⟩))))
  · have n1 : ¬ (hI h o_fellingFound 0 = -1 ∨ bcw s < hI h o_fellingFound 0) := fun z => z.elim q (Int32.not_lt.mpr q2)
    unfold offF_fellingFound; rw [if_neg n1, if_neg q3]
  · have n1 : ¬ (hI h o_fellingFound 0 = -1 ∨ bcw s < hI h o_fellingFound 0) := fun z => z.elim q (Int32.not_lt.mpr q2)
    unfold offF_fellingFound; rw [if_neg n1, if_pos q3]
    show wI (wI h o_fellingFound 1 _) o_fellingFound 2 (hI (wI h o_fellingFound 1 _) o_fellingFound 2 + 1) = _
    rw [rd_k (by decide)]
theorem m_clear_mendingFound : M cx jX1_clear d a [.ref o_mendingFound] h (RV (wI (wI (wI h o_mendingFound 0 (-1)) o_mendingFound 1 (-1)) o_mendingFound 2 0)) := sX1_clear rfl ⟨rfl, rfl⟩
theorem m_told_mendingFound {w : Int32} : M cx jX1_told d a [.ref o_mendingFound, .int w] h (RQ (.int (if w = 0 then hI h o_mendingFound 0 else if w = 1 then hI h o_mendingFound 1 else if w = 2 then hI h o_mendingFound 2 else -1)) h) := by
  refine sX1_told rfl (And.intro (fun q => eX1_told (And.intro (fun q1 => eX1_told (And.intro (fun q2 => eX1_told (eX1_told (RQ_eq ?_))) (fun q2 => eX1_told (RQ_eq ?_)))) (fun q1 => eX1_told (RQ_eq ?_)))) (fun q => eX1_told (RQ_eq ?_)))
  · simp [q, q1, q2]
  · subst q2; simp
  · subst q1; simp
  · subst q; simp
noncomputable def offF_mendingFound (h : Hp) (s : Int32) : Hp :=
  @ite _ (hI h o_mendingFound 0 = -1 ∨ bcw s < hI h o_mendingFound 0) (Classical.propDecidable _) (wI (wI (wI h o_mendingFound 0 (bcw s)) o_mendingFound 1 s) o_mendingFound 2 1)
    (@ite _ (bcw s = hI h o_mendingFound 0) (Classical.propDecidable _) (wI (wI h o_mendingFound 1 (if s < hI h o_mendingFound 1 then s else hI h o_mendingFound 1)) o_mendingFound 2 (hI h o_mendingFound 2 + 1)) h)
theorem m_offer_mendingFound (hd : 1 ≤ d) {s : Int32} : M cx jX1_offer d a [.ref o_mendingFound, .int s] h (RV (offF_mendingFound h s)) := by
  refine sX1_offer rfl ?_
  have yes : (hI h o_mendingFound 0 = -1 ∨ bcw s < hI h o_mendingFound 0) → wI (wI (wI h o_mendingFound 0 (bcw s)) o_mendingFound 1 s) o_mendingFound 2 1 = offF_mendingFound h s := fun c => by unfold offF_mendingFound; rw [if_pos c]
  refine wcS m_bitCount (And.intro (fun q => eX1_offer (eX1_offer ⟨rfl, yes (Or.inl q)⟩)) (fun q => And.intro (fun q2 => eX1_offer (And.intro (fun q3 => eX1_offer ⟨rfl, ?_⟩) (fun q3 => And.intro ⟨Nat.le_of_ble_eq_true rfl, by omega⟩ (eX1_offer ⟨rfl, ?_⟩)))) (fun q2 => eX1_offer (eX1_offer ⟨rfl, yes (Or.inr (Int32.not_le.mp q2))⟩))))
  · have n1 : ¬ (hI h o_mendingFound 0 = -1 ∨ bcw s < hI h o_mendingFound 0) := fun z => z.elim q (Int32.not_lt.mpr q2)
    unfold offF_mendingFound; rw [if_neg n1, if_neg q3]
  · have n1 : ¬ (hI h o_mendingFound 0 = -1 ∨ bcw s < hI h o_mendingFound 0) := fun z => z.elim q (Int32.not_lt.mpr q2)
    unfold offF_mendingFound; rw [if_neg n1, if_pos q3]
    show wI (wI h o_mendingFound 1 _) o_mendingFound 2 (hI (wI h o_mendingFound 1 _) o_mendingFound 2 + 1) = _
    rw [rd_k (by decide)]
end T18
