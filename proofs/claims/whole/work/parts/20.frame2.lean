/-! the frame: questions, singles, pairs, neighbours -/
section T20
variable {cx : Cx} {d a : Nat} {h : Hp}
theorem ix_22 {w : Int32} (q : 0 ≤ w ∧ w ≤ 21) : vp_in w 22 := by
  rw [vp_in_iff]
  have h1 := Int32.le_iff_toInt_le.mp q.1
  have h2 := Int32.le_iff_toInt_le.mp q.2
  have e0 : (0 : Int32).toInt = 0 := rfl
  have e1 : (21 : Int32).toInt = 21 := rfl
  omega
theorem m_needOf (hd : 1 ≤ d) {p : Int32} : M cx jX2_needOf d a [.ref o_frame, .int p] h (RQ (.int (if 0 ≤ p ∧ p ≤ 21 then hI h o_fr_needs p.toNatClampNeg else -1)) h) := by
  refine sX2_needOf rfl (wcS m_isWithin (And.intro (fun z => eX2_needOf (eX2_needOf (RQ_eq ?_))) (fun z => And.intro (ix_22 (b2i_n z)) (eX2_needOf (RQ_eq ?_)))))
  · rw [if_neg (b2i_0.mp z)]
  · rw [if_pos (b2i_n z)]; rfl
theorem m_besideOf (hd : 1 ≤ d) {p : Int32} : M cx jX2_besideOf d a [.ref o_frame, .int p] h (RQ (.int (if 0 ≤ p ∧ p ≤ 21 then hI h o_fr_beside p.toNatClampNeg else 0)) h) := by
  refine sX2_besideOf rfl (wcS m_isWithin (And.intro (fun z => eX2_besideOf (eX2_besideOf (RQ_eq ?_))) (fun z => And.intro (ix_22 (b2i_n z)) (eX2_besideOf (RQ_eq ?_)))))
  · rw [if_neg (b2i_0.mp z)]
  · rw [if_pos (b2i_n z)]; rfl
def fBnd (h : Hp) (p : Int32) : Prop := (0 ≤ p ∧ p ≤ 21) ∧ ¬ (hI h o_frame 5 >>> (p &&& 31)) &&& 1 = 0
theorem m_isBoundF (hd : 1 ≤ d) {p : Int32} : M cx jX2_isBound d a [.ref o_frame, .int p] h (RQ (.int (b2i (fBnd h p))) h) := by
  refine sX2_isBound rfl (wcS m_isWithin (And.intro (fun z => eX2_isBound (eX2_isBound <| And.intro (Or.inl rfl) (RQ_eq (b2i_f (fun y => b2i_0.mp z y.1)).symm))) (fun z => And.intro (fun q => eX2_isBound (eX2_isBound <| And.intro (Or.inl rfl) (RQ_eq (b2i_f (fun y => y.2 q)).symm))) (fun q => eX2_isBound (And.intro (Or.inr rfl) (RQ_eq (b2i_t ⟨b2i_n z, q⟩).symm))))))
theorem m_touchesOf (hd : 1 ≤ d) {p s : Int32} : M cx jX2_touchesOf d a [.ref o_frame, .int p, .int s] h (RQ (.int (if 0 ≤ p ∧ p ≤ 21 then bcw (hI h o_fr_beside p.toNatClampNeg &&& s) + hI h o_fr_held p.toNatClampNeg else -1)) h) := by
  refine sX2_touchesOf rfl (wcS m_isWithin (And.intro (fun z => eX2_touchesOf (And.intro (ix_22 (b2i_n z)) (wcS m_bitCount (And.intro (ix_22 (b2i_n z)) (RQ_eq ?_))))) (fun z => RQ_eq ?_)))
  · rw [if_pos (b2i_n z)]; rfl
  · rw [if_neg (b2i_0.mp z)]
/-- taking the one stone k of a set leaves that -/
def sgP (h : Hp) (s t : Int32) (k : Nat) : Prop := ¬ (((1 : Int32) <<< (nI k &&& 31)) &&& s) = 0 ∧ setR h 22 (s &&& ((((1 : Int32) <<< (nI k &&& 31)) &&& s) ^^^ -1)) = t
noncomputable def cnt (P : Nat → Prop) : Nat → Nat
  | 0 => 0
  | k + 1 => @ite _ (P k) (Classical.propDecidable _) (cnt P k + 1) (cnt P k)
theorem cnt_t {P : Nat → Prop} {k : Nat} (q : P k) : cnt P (k + 1) = cnt P k + 1 := if_pos q
theorem cnt_f {P : Nat → Prop} {k : Nat} (q : ¬ P k) : cnt P (k + 1) = cnt P k := if_neg q
theorem m_singlesC (hd : 3 ≤ d) {s t : Int32} : M cx jX2_singles d a [.ref o_frame, .int s, .int t, .int 0] h (RQ (.int (nI (cnt (sgP h s t) 14))) h) := by
  have loop : ∀ n k, n + k = 14 → E cx jX2_singles d a 6 [some (.ref o_frame), some (.int s), some (.int t), some (.int 0), some (.int (nI (cnt (sgP h s t) k))), some (.int (nI k)), none] [] h (RQ (.int (nI (cnt (sgP h s t) 14))) h) := by
    intro n
    induction n with
    | zero =>
      intro k hk
      obtain rfl : k = 14 := by omega
      exact eX2_singles (And.intro (fun _ => eX2_singles (And.intro (fun _ => eX2_singles (eX2_singles (RQ_eq rfl))) (fun q => absurd rfl q))) (fun q => absurd (nI_le (a := 14) (b := 14) (Nat.le_refl _) (by decide)) q))
    | succ n ih =>
      intro k hk
      have go : ¬ sgP h s t k → ∀ w, E cx jX2_singles d a 50 [some (.ref o_frame), some (.int s), some (.int t), some (.int 0), some (.int (nI (cnt (sgP h s t) k))), some (.int (nI k)), w] [] h (RQ (.int (nI (cnt (sgP h s t) 14))) h) := fun q w => by
        refine e_clr 6 (eX2_singles (e_eq (ih (k + 1) (by omega)) ?_ rfl rfl))
        rw [cnt_f q, nI_succ]; rfl
      refine eX2_singles (And.intro (fun q => absurd q (nI_ge (a := k) (b := 14) (by omega) (by decide))) (fun _ => And.intro (fun q => go (fun z => z.1 q) _) (fun q => wcV (m_settled (by omega)) (And.intro (fun q2 => go (fun z => q2 z.2) _) (fun q2 => And.intro (fun _ => e_clr 6 (eX2_singles (eX2_singles (e_eq (ih (k + 1) (by omega)) ?_ rfl rfl)))) (fun q3 => absurd rfl q3))))))
      rw [cnt_t ⟨q, q2⟩, nI_succ k, nI_succ (cnt (sgP h s t) k)]; rfl
  exact sX2_singles rfl (loop 14 0 rfl)
/-- the first of those below n, or none -/
noncomputable def fst (P : Nat → Prop) : Nat → Nat → Int32
  | 0, _ => -1
  | n + 1, k => @ite _ (P k) (Classical.propDecidable _) (nI k) (fst P n (k + 1))
theorem fst_t {P : Nat → Prop} {n k : Nat} (q : P k) : fst P (n + 1) k = nI k := if_pos q
theorem fst_f {P : Nat → Prop} {n k : Nat} (q : ¬ P k) : fst P (n + 1) k = fst P n (k + 1) := if_neg q
theorem m_singlesL (hd : 3 ≤ d) {s t : Int32} : M cx jX2_singles d a [.ref o_frame, .int s, .int t, .int 1] h (RQ (.int (fst (sgP h s t) 14 0)) h) := by
  have loop : ∀ n k, n + k = 14 → fst (sgP h s t) n k = fst (sgP h s t) 14 0 → E cx jX2_singles d a 6 [some (.ref o_frame), some (.int s), some (.int t), some (.int 1), some (.int 0), some (.int (nI k)), none] [] h (RQ (.int (fst (sgP h s t) 14 0)) h) := by
    intro n
    induction n with
    | zero =>
      intro k hk hf
      obtain rfl : k = 14 := by omega
      exact eX2_singles (And.intro (fun _ => eX2_singles (And.intro (fun q => absurd q (by decide)) (fun _ => eX2_singles (RQ_eq hf)))) (fun q => absurd (nI_le (a := 14) (b := 14) (Nat.le_refl _) (by decide)) q))
    | succ n ih =>
      intro k hk hf
      have go : ¬ sgP h s t k → ∀ w, E cx jX2_singles d a 50 [some (.ref o_frame), some (.int s), some (.int t), some (.int 1), some (.int 0), some (.int (nI k)), w] [] h (RQ (.int (fst (sgP h s t) 14 0)) h) := fun q w => by
        refine e_clr 6 (eX2_singles (e_eq (ih (k + 1) (by omega) (by rw [← hf, fst_f q])) ?_ rfl rfl))
        rw [nI_succ]; rfl
      refine eX2_singles (And.intro (fun q => absurd q (nI_ge (a := k) (b := 14) (by omega) (by decide))) (fun _ => And.intro (fun q => go (fun z => z.1 q) _) (fun q => wcV (m_settled (by omega)) (And.intro (fun q2 => go (fun z => q2 z.2) _) (fun q2 => And.intro (fun q3 => absurd q3 (by decide)) (fun _ => RQ_eq ?_))))))
      rw [← hf, fst_t ⟨q, q2⟩]
  exact sX2_singles rfl (loop 14 0 rfl rfl)
def prB (i k : Nat) : Int32 := ((1 : Int32) <<< (nI i &&& 31)) ||| ((1 : Int32) <<< (nI k &&& 31))
def prP (h : Hp) (s t : Int32) (i k : Nat) : Prop := (prB i k &&& s) = prB i k ∧ setR h 22 (s &&& (prB i k ^^^ -1)) = t
/-- how many k from i+1 on, added to what was counted -/
noncomputable def prC (h : Hp) (s t : Int32) (i : Nat) : Nat → Nat → Nat → Nat
  | 0, _, m => m
  | n + 1, k, m => @ite _ (prP h s t i k) (Classical.propDecidable _) (prC h s t i n (k + 1) (m + 1)) (prC h s t i n (k + 1) m)
noncomputable def prCC (h : Hp) (s t : Int32) : Nat → Nat → Nat → Nat
  | 0, _, m => m
  | n + 1, i, m => prCC h s t n (i + 1) (prC h s t i (13 - i) (i + 1) m)
theorem m_pairsC (hd : 3 ≤ d) {s t : Int32} : M cx jX2_pairs d a [.ref o_frame, .int s, .int t, .int 0] h (RQ (.int (nI (prCC h s t 14 0 0))) h) := by
  have inner : ∀ (Q : Option Value → Hp → Prop) (i : Nat), i < 14 → ∀ n k m, n + k = 14 → (E cx jX2_pairs d a 76 [some (.ref o_frame), some (.int s), some (.int t), some (.int 0), some (.int (nI (prC h s t i n k m))), some (.int (nI i)), none, none] [] h Q) → E cx jX2_pairs d a 19 [some (.ref o_frame), some (.int s), some (.int t), some (.int 0), some (.int (nI m)), some (.int (nI i)), some (.int (nI k)), none] [] h Q := by
    intro Q i hi n
    induction n with
    | zero =>
      intro k m hk K
      obtain rfl : k = 14 := by omega
      exact eX2_pairs (And.intro (fun _ => e_clr 6 K) (fun q => absurd (nI_le (a := 14) (b := 14) (Nat.le_refl _) (by decide)) q))
    | succ n ih =>
      intro k m hk K
      have go : ¬ prP h s t i k → ∀ w, E cx jX2_pairs d a 70 [some (.ref o_frame), some (.int s), some (.int t), some (.int 0), some (.int (nI m)), some (.int (nI i)), some (.int (nI k)), w] [] h Q := fun q w => by
        refine e_clr 7 (eX2_pairs (e_eq (ih (k + 1) m (by omega) ?_) ?_ rfl rfl))
        · rw [prC, if_neg q] at K; exact K
        · rw [nI_succ]; rfl
      refine eX2_pairs (And.intro (fun q => absurd q (nI_ge (a := k) (b := 14) (by omega) (by decide))) (fun _ => And.intro (fun q => go (fun z => q z.1) _) (fun q => wcV (m_settled (by omega)) (And.intro (fun q2 => go (fun z => q2 z.2) _) (fun q2 => And.intro (fun _ => eX2_pairs (eX2_pairs (e_clr 7 (e_eq (ih (k + 1) (m + 1) (by omega) ?_) ?_ rfl rfl)))) (fun q3 => absurd rfl q3))))))
      · rw [prC, if_pos ⟨q, q2⟩] at K; exact K
      · rw [nI_succ k, nI_succ m]; rfl
  have loop : ∀ n i m, n + i = 14 → prCC h s t n i m = prCC h s t 14 0 0 → E cx jX2_pairs d a 6 [some (.ref o_frame), some (.int s), some (.int t), some (.int 0), some (.int (nI m)), some (.int (nI i)), none, none] [] h (RQ (.int (nI (prCC h s t 14 0 0))) h) := by
    intro n
    induction n with
    | zero =>
      intro i m hi hm
      obtain rfl : i = 14 := by omega
      exact eX2_pairs (And.intro (fun _ => eX2_pairs (And.intro (fun _ => eX2_pairs (eX2_pairs (RQ_eq (by rw [← hm]; rfl)))) (fun q => absurd rfl q))) (fun q => absurd (nI_le (a := 14) (b := 14) (Nat.le_refl _) (by decide)) q))
    | succ n ih =>
      intro i m hi hm
      refine eX2_pairs (And.intro (fun q => absurd q (nI_ge (a := i) (b := 14) (by omega) (by decide))) (fun _ => e_eq (inner _ i (by omega) (13 - i) (i + 1) m (by omega) (eX2_pairs (e_eq (ih (i + 1) _ (by omega) (by rw [← hm, prCC])) ?_ rfl rfl))) ?_ rfl rfl))
      · rw [nI_succ]; rfl
      · rw [nI_succ]; rfl
  exact sX2_pairs rfl (loop 14 0 0 rfl rfl)
noncomputable def prF (h : Hp) (s t : Int32) (i : Nat) : Nat → Nat → Option Int32
  | 0, _ => none
  | n + 1, k => @ite _ (prP h s t i k) (Classical.propDecidable _) (some (prB i k)) (prF h s t i n (k + 1))
noncomputable def prFF (h : Hp) (s t : Int32) : Nat → Nat → Int32
  | 0, _ => -1
  | n + 1, i => match prF h s t i (13 - i) (i + 1) with
    | some v => v
    | none => prFF h s t n (i + 1)
theorem m_pairsL (hd : 3 ≤ d) {s t : Int32} : M cx jX2_pairs d a [.ref o_frame, .int s, .int t, .int 1] h (RQ (.int (prFF h s t 14 0)) h) := by
  have inner : ∀ (R : Int32) (i : Nat), i < 14 → ∀ n k, n + k = 14 → (∀ v, prF h s t i n k = some v → v = R) → (prF h s t i n k = none → E cx jX2_pairs d a 76 [some (.ref o_frame), some (.int s), some (.int t), some (.int 1), some (.int 0), some (.int (nI i)), none, none] [] h (RQ (.int R) h)) → E cx jX2_pairs d a 19 [some (.ref o_frame), some (.int s), some (.int t), some (.int 1), some (.int 0), some (.int (nI i)), some (.int (nI k)), none] [] h (RQ (.int R) h) := by
    intro R i hi n
    induction n with
    | zero =>
      intro k hk _ K
      obtain rfl : k = 14 := by omega
      exact eX2_pairs (And.intro (fun _ => e_clr 6 (K rfl)) (fun q => absurd (nI_le (a := 14) (b := 14) (Nat.le_refl _) (by decide)) q))
    | succ n ih =>
      intro k hk hv K
      have go : ¬ prP h s t i k → ∀ w, E cx jX2_pairs d a 70 [some (.ref o_frame), some (.int s), some (.int t), some (.int 1), some (.int 0), some (.int (nI i)), some (.int (nI k)), w] [] h (RQ (.int R) h) := fun q w => by
        refine e_clr 7 (eX2_pairs (e_eq (ih (k + 1) (by omega) ?_ ?_) ?_ rfl rfl))
        · intro v e; exact hv v (by rw [prF, if_neg q]; exact e)
        · intro e; exact K (by rw [prF, if_neg q]; exact e)
        · rw [nI_succ]; rfl
      refine eX2_pairs (And.intro (fun q => absurd q (nI_ge (a := k) (b := 14) (by omega) (by decide))) (fun _ => And.intro (fun q => go (fun z => q z.1) _) (fun q => wcV (m_settled (by omega)) (And.intro (fun q2 => go (fun z => q2 z.2) _) (fun q2 => And.intro (fun q3 => absurd q3 (by decide)) (fun _ => RQ_eq ?_))))))
      exact hv _ (by rw [prF, if_pos ⟨q, q2⟩]; rfl)
  have loop : ∀ n i, n + i = 14 → prFF h s t n i = prFF h s t 14 0 → E cx jX2_pairs d a 6 [some (.ref o_frame), some (.int s), some (.int t), some (.int 1), some (.int 0), some (.int (nI i)), none, none] [] h (RQ (.int (prFF h s t 14 0)) h) := by
    intro n
    induction n with
    | zero =>
      intro i hi hm
      obtain rfl : i = 14 := by omega
      exact eX2_pairs (And.intro (fun _ => eX2_pairs (And.intro (fun q => absurd q (by decide)) (fun _ => eX2_pairs (RQ_eq (by rw [← hm]; rfl))))) (fun q => absurd (nI_le (a := 14) (b := 14) (Nat.le_refl _) (by decide)) q))
    | succ n ih =>
      intro i hi hm
      refine eX2_pairs (And.intro (fun q => absurd q (nI_ge (a := i) (b := 14) (by omega) (by decide))) (fun _ => e_eq (inner _ i (by omega) (13 - i) (i + 1) (by omega) ?_ (fun e => eX2_pairs (e_eq (ih (i + 1) (by omega) ?_) ?_ rfl rfl))) ?_ rfl rfl))
      · intro v e; rw [← hm, prFF, e]
      · rw [← hm, prFF, e]
      · rw [nI_succ]; rfl
      · rw [nI_succ]; rfl
  exact sX2_pairs rfl (loop 14 0 rfl rfl)
def fHeld (h : Hp) (p : Int32) : Int32 :=
  let b := if fFact h p 1 = 0 then fTerm h 1 else 0
  let c := if fFact h p 0 = 0 then b + fTerm h 2 else b
  if fFact h p 0 + fFact h p 2 = 12 then c + fTerm h 2 else c
theorem m_heldOf (hd : 2 ≤ d) {p : Int32} : M cx jX2_heldOf d a [.ref o_wall, .int p] h (RQ (.int (fHeld h p)) h) := by
  have third : ∀ c, c = (if fFact h p 0 = 0 then (if fFact h p 1 = 0 then fTerm h 1 else 0) + fTerm h 2 else (if fFact h p 1 = 0 then fTerm h 1 else 0)) → E cx jX2_heldOf d a 36 [some (.ref o_wall), some (.int p), some (.int c)] [] h (RQ (.int (fHeld h p)) h) := fun c ec => by
    refine eX2_heldOf (wcV m_fact (wcV m_fact (And.intro (fun q => eX2_heldOf (RQ_eq ?_)) (fun q => wcV (m_term (by omega)) (eX2_heldOf (RQ_eq ?_))))))
    · subst ec; unfold fHeld; rw [if_neg q]
    · subst ec; unfold fHeld; rw [if_pos q]
  have second : ∀ b, b = (if fFact h p 1 = 0 then fTerm h 1 else 0) → E cx jX2_heldOf d a 18 [some (.ref o_wall), some (.int p), none] [.int b] h (RQ (.int (fHeld h p)) h) := fun b eb => by
    refine eX2_heldOf (wcV m_fact (And.intro (fun q => third b ?_) (fun q => wcV (m_term (by omega)) (third _ ?_))))
    · rw [if_neg q]; exact eb
    · rw [if_pos q, eb]
  refine sX2_heldOf rfl (wcV m_fact (And.intro (fun q => eX2_heldOf (second 0 ?_)) (fun q => wcV (m_term (by omega)) (second _ ?_))))
  · rw [if_neg q]
  · rw [if_pos q]
def nbP (h : Hp) (p : Int32) (k : Nat) : Prop := ¬ nI k = p ∧ sPlace h (nI k) ∧ (fCov h (nI k) (fFact h p 0 - 1) (fFact h p 1) (fFact h p 2 + 2) (fFact h p 3) ∨ fCov h (nI k) (fFact h p 0) (fFact h p 1 - 1) (fFact h p 2) (fFact h p 3 + 2))
noncomputable def bitsR (P : Nat → Prop) : Nat → Int32
  | 0 => 0
  | k + 1 => @ite _ (P k) (Classical.propDecidable _) (bitsR P k ||| ((1 : Int32) <<< (nI k &&& 31))) (bitsR P k)
theorem bitsR_t {P : Nat → Prop} {k : Nat} (q : P k) : bitsR P (k + 1) = bitsR P k ||| ((1 : Int32) <<< (nI k &&& 31)) := if_pos q
theorem bitsR_f {P : Nat → Prop} {k : Nat} (q : ¬ P k) : bitsR P (k + 1) = bitsR P k := if_neg q
theorem m_neighbours (hd : 3 ≤ d) {p : Int32} : M cx jX2_neighbours d a [.ref o_wall, .int p] h (RQ (.int (bitsR (nbP h p) 22)) h) := by
  have loop : ∀ n k, n + k = 22 → E cx jX2_neighbours d a 36 [some (.ref o_wall), some (.int p), some (.int (fFact h p 0)), some (.int (fFact h p 1)), some (.int (fFact h p 2)), some (.int (fFact h p 3)), some (.int (bitsR (nbP h p) k)), some (.int (nI k)), none] [] h (RQ (.int (bitsR (nbP h p) 22)) h) := by
    intro n
    induction n with
    | zero =>
      intro k hk
      obtain rfl : k = 22 := by omega
      exact eX2_neighbours (And.intro (fun _ => eX2_neighbours (RQ_eq rfl)) (fun q => absurd (nI_le (a := 22) (b := 22) (Nat.le_refl _) (by decide)) q))
    | succ n ih =>
      intro k hk
      have fin : ∀ w, (w = 0 → ¬ nbP h p k) → (¬ w = 0 → nbP h p k) → E cx jX2_neighbours d a 101 [some (.ref o_wall), some (.int p), some (.int (fFact h p 0)), some (.int (fFact h p 1)), some (.int (fFact h p 2)), some (.int (fFact h p 3)), some (.int (bitsR (nbP h p) k)), some (.int (nI k)), none] [.int w] h (RQ (.int (bitsR (nbP h p) 22)) h) := fun w z0 z1 => by
        refine eX2_neighbours (And.intro (fun q => eX2_neighbours (e_clr 8 (e_eq (ih (k + 1) (by omega)) ?_ rfl rfl))) (fun q => eX2_neighbours (e_clr 8 (e_eq (ih (k + 1) (by omega)) ?_ rfl rfl))))
        · rw [bitsR_f (z0 q), nI_succ]; rfl
        · rw [bitsR_t (z1 q), nI_succ]; rfl
      have no : ¬ nbP h p k → E cx jX2_neighbours d a 100 [some (.ref o_wall), some (.int p), some (.int (fFact h p 0)), some (.int (fFact h p 1)), some (.int (fFact h p 2)), some (.int (fFact h p 3)), some (.int (bitsR (nbP h p) k)), some (.int (nI k)), none] [] h (RQ (.int (bitsR (nbP h p) 22)) h) := fun q => eX2_neighbours (fin 0 (fun _ => q) (fun z => absurd rfl z))
      have yes : nbP h p k → E cx jX2_neighbours d a 96 [some (.ref o_wall), some (.int p), some (.int (fFact h p 0)), some (.int (fFact h p 1)), some (.int (fFact h p 2)), some (.int (fFact h p 3)), some (.int (bitsR (nbP h p) k)), some (.int (nI k)), none] [] h (RQ (.int (bitsR (nbP h p) 22)) h) := fun q => eX2_neighbours (fin 1 (fun z => absurd z (by decide)) (fun _ => q))
      refine eX2_neighbours (And.intro (fun q => absurd q (nI_ge (a := k) (b := 22) (by omega) (by decide))) (fun _ => And.intro (fun q => no (fun z => z.1 q)) (fun q1 => wcV (m_isPlace (by omega)) (And.intro (fun q => no (fun z => b2i_0.mp q z.2.1)) (fun q2 => wcV (m_covers (by omega)) (And.intro (fun q3 => yes ⟨q1, b2i_n q2, Or.inl (b2i_n q3)⟩) (fun q3 => wcV (m_covers (by omega)) (And.intro (fun q4 => no (fun z => z.2.2.elim (b2i_0.mp q3) (b2i_0.mp q4))) (fun q4 => yes ⟨q1, b2i_n q2, Or.inr (b2i_n q4)⟩)))))))))
  exact sX2_neighbours rfl (wcV m_fact (wcV m_fact (wcV m_fact (wcV m_fact (loop 22 0 rfl)))))
end T20
