/-! the frame made anew -/
/-- the same wall and laws -/
def sameW (h g : Hp) : Prop := (∀ k, hI g o_wall k = hI h o_wall k) ∧ (∀ k, hI g o_wall_facts k = hI h o_wall_facts k) ∧ (∀ k, hI g o_wall_terms k = hI h o_wall_terms k) ∧ (∀ o k, 126 ≤ o → hI g o k = hI h o k) ∧ g.2.2 = h.2.2
/-- all but the frame and its asker -/
def sameF (h g : Hp) : Prop := (∀ o k, ¬ (84 ≤ o ∧ o ≤ 90) → hI g o k = hI h o k) ∧ (∀ o k, ¬ (84 ≤ o ∧ o ≤ 90) → hJ g o k = hJ h o k) ∧ g.2.2 = h.2.2
section T24
variable {cx : Cx} {d a : Nat} {h g : Hp}
theorem sameF_W (x : sameF h g) : sameW h g := ⟨fun k => x.1 _ k (by decide), fun k => x.1 _ k (by decide), fun k => x.1 _ k (by decide), fun o k ho => x.1 o k (by omega), x.2.2⟩
theorem sameF_r : sameF h h := ⟨fun _ _ _ => rfl, fun _ _ _ => rfl, rfl⟩
theorem sameF_t {f : Hp} (x : sameF h g) (y : sameF g f) : sameF h f := ⟨fun o k n => (y.1 o k n).trans (x.1 o k n), fun o k n => (y.2.1 o k n).trans (x.2.1 o k n), y.2.2.trans x.2.2⟩
theorem sameF_wI {o k : Nat} {v : Int32} (ho : 84 ≤ o ∧ o ≤ 90) : sameF h (wI h o k v) := ⟨fun p q n => rd_o (fun e => n (by rw [e]; exact ho)), fun _ _ _ => rfl, rfl⟩
theorem sameA_F (x : sameA h g) : sameF h g := ⟨fun o k n => x.1 o k (fun e => n (by rw [e]; decide)), fun o k n => x.2.1 o k (fun e => n (by rw [e]; decide)), x.2.2⟩
theorem fFact_W (x : sameW h g) {p w : Int32} : fFact g p w = fFact h p w := fFact_cong x.2.1 p w
theorem fTerm_W (x : sameW h g) {w : Int32} : fTerm g w = fTerm h w := by unfold fTerm; rw [x.2.2.1]
theorem sPlace_W (x : sameW h g) {p : Int32} : sPlace g p ↔ sPlace h p := by unfold sPlace; rw [x.1, x.1]
theorem fCov_W (x : sameW h g) {p q r s t : Int32} : fCov g p q r s t ↔ fCov h p q r s t := by unfold fCov; simp only [fFact_W x]
theorem nbP_W (x : sameW h g) {p : Int32} {k : Nat} : nbP g p k ↔ nbP h p k := by unfold nbP; simp only [fFact_W x, sPlace_W x, fCov_W x]
theorem bitsR_cong {P R : Nat → Prop} (e : ∀ k, P k ↔ R k) : ∀ n, bitsR P n = bitsR R n := by
  intro n
  induction n with
  | zero => rfl
  | succ n ih =>
    rcases Classical.em (P n) with c | c
    · rw [bitsR_t c, bitsR_t ((e n).mp c), ih]
    · rw [bitsR_f c, bitsR_f (fun z => c ((e n).mpr z)), ih]
theorem fHeld_W (x : sameW h g) {p : Int32} : fHeld g p = fHeld h p := by unfold fHeld; simp only [fFact_W x, fTerm_W x]
theorem W_N (x : sameW h g) : hN g = hN h := congrArg (fun z => z.2.2) x.2.2.2.2
theorem W_L (x : sameW h g) (o : Nat) : hL g o = hL h o := congrArg (fun z => z.2.1 o) x.2.2.2.2
theorem W_R (x : sameW h g) (o k : Nat) : hR g o k = hR h o k := congrArg (fun z => z.1 o k) x.2.2.2.2
theorem fStart_W (x : sameW h g) {o : Nat} {i : Int32} (q : 126 ≤ o) : fStart g o i = fStart h o i := by
  unfold fStart; rw [W_L x, W_L x, x.2.2.2.1 (o + 2) _ (by omega)]
theorem fStep_W (x : sameW h g) {o : Nat} {i : Int32} (q : 126 ≤ o) : fStep g o i = fStep h o i := by
  unfold fStep; rw [W_L x, x.2.2.2.1 (o + 1) _ (by omega)]
theorem lawok_W (x : sameW h g) {o : Nat} (q : lawok h o) : lawok g o := by
  unfold lawok lawp at *; rw [W_N x, W_L x, W_L x]; exact q
theorem lawC_W (x : sameW h g) {o C : Nat} (q : lawC h o C) : lawC g o C := ⟨lawok_W x q.1, q.2.1, by rw [x.2.2.2.1 o 2 q.1.1.1]; exact q.2.2.1, fun k hk => by rw [fStart_W x q.1.1.1]; exact q.2.2.2 k hk⟩
theorem pvS_W (x : sameW h g) {o : Nat} {part p : Int32} (q : 126 ≤ o) : pvS g o part p = pvS h o part p := by
  have e1 : fFact g p = fFact h p := funext fun w => fFact_W x
  have e2 : fStep g o = fStep h o := funext fun w => fStep_W x q
  unfold pvS; rw [e1, e2, fStart_W x q, fStart_W x q]
theorem sEmp_W (x : sameW h g) {o : Nat} {part : Int32} (q : 126 ≤ o) : sEmp g o part ↔ sEmp h o part := by unfold sEmp; rw [fStart_W x q, fStart_W x q]
theorem pSo_W (x : sameW h g) {o : Nat} {part p : Int32} (q : 126 ≤ o) : pSo g o part p ↔ pSo h o part p := by unfold pSo pvV pvB; rw [sEmp_W x q, pvS_W x q]
theorem pBd_W (x : sameW h g) {o C : Nat} {p : Int32} (q : 126 ≤ o) : pBd g o C p ↔ pBd h o C p := by unfold pBd; simp only [sEmp_W x q, pSo_W x q]
theorem pNs_W (x : sameW h g) {o c : Nat} {p nd : Int32} (q : 126 ≤ o) : pNs g o p c nd = pNs h o p c nd := by
  have e : (¬ sEmp g o (nI (2 * c)) ∧ pSo g o (nI (2 * c + 1)) p ∧ pvB g o (nI (2 * c)) p = 0) ↔ (¬ sEmp h o (nI (2 * c)) ∧ pSo h o (nI (2 * c + 1)) p ∧ pvB h o (nI (2 * c)) p = 0) := by
    unfold pvB; rw [sEmp_W x q, pSo_W x q, pvS_W x q]
  unfold pNs pvV
  rcases Classical.em (¬ sEmp h o (nI (2 * c)) ∧ pSo h o (nI (2 * c + 1)) p ∧ pvB h o (nI (2 * c)) p = 0) with z | z
  · rw [if_pos z, if_pos (e.mpr z), pvS_W x q]
  · rw [if_neg z, if_neg (fun y => z (e.mp y))]
theorem pNd_W (x : sameW h g) {o : Nat} {p : Int32} (q : 126 ≤ o) : ∀ (n c : Nat) (nd : Int32), pNd g o p n c nd = pNd h o p n c nd := by
  intro n
  induction n with
  | zero => intro c nd; rfl
  | succ n ih => intro c nd; rw [pNd, pNd, pNs_W x q, ih]
/-- the law in force, its cell and clauses, or none -/
def inF (h : Hp) (L : Option (Nat × Nat)) : Prop := match L with
  | none => hI h o_wall 7 = -1
  | some q => ∃ k, k < 6 ∧ hI h o_wall 7 = nI k ∧ hR h o_wall_laws k = some q.1 ∧ lawC h q.1 q.2
noncomputable def dNeed (h : Hp) (L : Option (Nat × Nat)) (p : Int32) : Int32 := match L with
  | none => fTerm h 0
  | some q => pNd h q.1 p q.2 0 (fTerm h 0)
def dBnd (h : Hp) (L : Option (Nat × Nat)) (p : Int32) : Prop := match L with
  | none => False
  | some q => pBd h q.1 q.2 p
noncomputable def dLack (h : Hp) (L : Option (Nat × Nat)) (p : Int32) : Int32 := @ite _ (dBnd h L p) (Classical.propDecidable _) 0 (dNeed h L p - fHeld h p)
/-- the frame's tables for the first n places -/
def frOk (h : Hp) (L : Option (Nat × Nat)) (n : Nat) (g : Hp) : Prop :=
  (∀ k, k < n → (sPlace h (nI k) → hI g o_fr_beside k = bitsR (nbP h (nI k)) 22 ∧ hI g o_fr_held k = fHeld h (nI k) ∧ hI g o_fr_needs k = dNeed h L (nI k) ∧ hI g o_fr_lack k = dLack h L (nI k)) ∧ (¬ sPlace h (nI k) → hI g o_fr_beside k = 0)) ∧
  hI g o_frame 5 = bitsR (fun k => sPlace h (nI k) ∧ dBnd h L (nI k)) n
def renQ (h : Hp) (L : Option (Nat × Nat)) : Option Value → Hp → Prop := fun r g => r = none ∧ sameF h g ∧ frOk h L 22 g
theorem bit_of_bitsR {P : Nat → Prop} : ∀ (n i : Nat), n ≤ 32 → i < 32 → (bt (bitsR P n) i = true ↔ i < n ∧ P i) := by
  intro n
  induction n with
  | zero => intro i _ _; simp [bitsR, b_0]
  | succ n ih =>
    intro i hn hi
    have e1 : bt ((1 : Int32) <<< (nI n &&& 31)) i = decide (i = n) := by
      rw [b_shl n (by omega) 1 hi]
      by_cases c : n ≤ i
      · by_cases c2 : i = n
        · subst c2; simp; decide
        · have : bt 1 (i - n) = false := by
            have : ∀ m, m < 32 → m ≠ 0 → bt 1 m = false := by decide +kernel
            exact this (i - n) (by omega) (by omega)
          simp [c, c2, this]
      · have : ¬ i = n := by omega
        simp [c, this]
    rcases Classical.em (P n) with c | c
    · rw [bitsR_t c, b_or, e1, Bool.or_eq_true, ih i (by omega) hi, decide_eq_true_eq]
      constructor
      · rintro (z | z)
        · exact ⟨by omega, z.2⟩
        · subst z; exact ⟨by omega, c⟩
      · rintro ⟨z1, z2⟩
        by_cases c2 : i = n
        · exact Or.inr c2
        · exact Or.inl ⟨by omega, z2⟩
    · rw [bitsR_f c, ih i (by omega) hi]
      constructor
      · rintro ⟨z1, z2⟩; exact ⟨by omega, z2⟩
      · rintro ⟨z1, z2⟩
        by_cases c2 : i = n
        · subst c2; exact absurd z2 c
        · exact ⟨by omega, z2⟩
/-- the test of a bit by a shift -/
theorem shr_bt {s : Int32} {k : Nat} (hk : k < 32) : ¬ (s >>> (nI k &&& 31)) &&& 1 = 0 ↔ bt s k = true := by
  have e1 : ∀ i, i < 32 → bt ((s >>> (nI k &&& 31)) &&& 1) i = (decide (i = 0) && bt s k) := fun i hi => by
    rw [b_and, b_sshr k hk s hi]
    by_cases c : i = 0
    · subst c
      have : bt 1 0 = true := by decide
      simp [this, hk]
    · have : bt 1 i = false := by
        have : ∀ m, m < 32 → m ≠ 0 → bt 1 m = false := by decide +kernel
        exact this i hi c
      simp [this, c]
  constructor
  · intro z
    by_cases c : bt s k = true
    · exact c
    · exfalso; apply z
      apply b_ext
      intro i hi
      rw [e1 i hi, b_0]
      simp at c; simp [c]
  · intro c z
    have := e1 0 (by decide)
    rw [z, b_0, c] at this
    simp at this
/-- one place's row of the tables -/
def rowOk (h : Hp) (L : Option (Nat × Nat)) (g : Hp) (k : Nat) : Prop := (sPlace h (nI k) → hI g o_fr_beside k = bitsR (nbP h (nI k)) 22 ∧ hI g o_fr_held k = fHeld h (nI k) ∧ hI g o_fr_needs k = dNeed h L (nI k) ∧ hI g o_fr_lack k = dLack h L (nI k)) ∧ (¬ sPlace h (nI k) → hI g o_fr_beside k = 0)
theorem row_same {L : Option (Nat × Nat)} {g f : Hp} {k : Nat} (q : rowOk h L g k) (e : ∀ o, 87 ≤ o → o ≤ 90 → hI f o k = hI g o k) : rowOk h L f k := by
  unfold rowOk at *
  rw [e o_fr_beside (by decide) (by decide), e o_fr_held (by decide) (by decide), e o_fr_needs (by decide) (by decide), e o_fr_lack (by decide) (by decide)]
  exact q
theorem row_k {L : Option (Nat × Nat)} {g : Hp} {i k o : Nat} {v : Int32} (q : rowOk h L g i) (n : i ≠ k) : rowOk h L (wI g o k v) i := row_same q (fun _ _ _ => rd_k n)
theorem row_o {L : Option (Nat × Nat)} {g : Hp} {i k o : Nat} {v : Int32} (q : rowOk h L g i) (n : o < 87) : rowOk h L (wI g o k v) i := row_same q (fun p h1 _ => rd_o (by omega))
theorem row_A {L : Option (Nat × Nat)} {g f : Hp} {i : Nat} (q : rowOk h L g i) (x : sameA g f) : rowOk h L f i := row_same q (fun p h1 _ => x.1 p i (by show p ≠ 85; omega))
noncomputable abbrev bdB (h : Hp) (L : Option (Nat × Nat)) : Nat → Prop := fun k => sPlace h (nI k) ∧ dBnd h L (nI k)
theorem wIc {g : Hp} {o i k : Nat} {v : Int32} (e : i = k) : wI g o i v = wI g o k v := by rw [e]
theorem e_renewTail (hd : 2 ≤ d) {L : Option (Nat × Nat)} {k : Nat} {lv : Value} {G : Hp} (hk : k < 22) (sf : sameF h G) (rows : ∀ i, i < k → rowOk h L G i) (pl : sPlace h (nI k)) (f1 : hI G o_fr_beside k = bitsR (nbP h (nI k)) 22) (f2 : hI G o_fr_held k = fHeld h (nI k)) (f3 : hI G o_fr_needs k = dNeed h L (nI k)) (f4 : hI G o_frame 5 = bitsR (bdB h L) (k + 1))
    (K : ∀ g, sameF h g → frOk h L (k + 1) g → E cx jX2_renew d a 151 [some (.ref o_frame), some (.ref o_wall), some lv, some (.int (nI k))] [] g (renQ h L)) :
    E cx jX2_renew d a 120 [some (.ref o_frame), some (.ref o_wall), some lv, some (.int (nI k))] [] G (renQ h L) := by
  have i1 : vp_in (nI k) 22 := vp_in_nI hk (by decide)
  have c1 : (nI k).toNatClampNeg = k := nI_clamp (by omega)
  have bnd : fBnd G (nI k) ↔ dBnd h L (nI k) := by
    unfold fBnd
    rw [f4, shr_bt (by omega), bit_of_bitsR _ _ (by omega) (by omega)]
    have : (0 : Int32) ≤ nI k ∧ nI k ≤ 21 := ⟨nI_pos' (by omega), nI_le (b := 21) (by omega) (by decide)⟩
    constructor
    · exact fun z => z.2.2.2
    · exact fun z => ⟨this, by omega, pl, z⟩
  have fin : ∀ v, v = dLack h L (nI k) → E cx jX2_renew d a 150 [some (.ref o_frame), some (.ref o_wall), some lv, some (.int (nI k))] [.int v, .int (nI k), .ref o_fr_lack] G (renQ h L) := fun v ev => by
    refine eX2_renew (And.intro i1 ?_)
    have e : wI G o_fr_lack (nI k).toNatClampNeg v = wI G o_fr_lack k v := by rw [c1]
    refine wp_hp e (K _ (sameF_t sf (sameF_wI (by decide))) ⟨fun i hi => ?_, ?_⟩)
    · rcases Nat.lt_succ_iff_lt_or_eq.mp hi with hi | rfl
      · exact row_k (rows i hi) (by omega)
      · exact ⟨fun _ => ⟨by rw [rd_o (by decide)]; exact f1, by rw [rd_o (by decide)]; exact f2, by rw [rd_o (by decide)]; exact f3, by rw [rd_same]; exact ev⟩, fun z => absurd pl z⟩
    · rw [rd_o (by decide)]; exact f4
  refine eX2_renew (wcV (m_isBoundF (by omega)) (And.intro (fun z => eX2_renew (And.intro i1 (And.intro i1 (fin _ ?_)))) (fun z => fin 0 ?_)))
  · show hI G o_fr_needs (nI k).toNatClampNeg - hI G o_fr_held (nI k).toNatClampNeg = _
    rw [c1, f2, f3]
    unfold dLack; rw [if_neg (fun y => b2i_0.mp z (bnd.mpr y))]
  · unfold dLack; rw [if_pos (bnd.mp (b2i_n z))]
theorem m_renewN (hd : 6 ≤ d) (hL : hI h o_wall 7 = -1) : M cx jX2_renew d a [.ref o_frame, .ref o_wall] h (renQ h (none)) := by
  have loop : ∀ n k g, n + k = 22 → sameF h g → frOk h (none) k g → E cx jX2_renew d a 12 [some (.ref o_frame), some (.ref o_wall), some .null, some (.int (nI k))] [] g (renQ h (none)) := by
    intro n
    induction n with
    | zero =>
      intro k g hk sf fo
      obtain rfl : k = 22 := by omega
      exact eX2_renew (And.intro (fun _ => eX2_renew ⟨rfl, sf, fo⟩) (fun q => absurd (nI_le (a := 22) (b := 22) (Nat.le_refl _) (by decide)) q))
    | succ n ih =>
      intro k g hk sf fo
      have i1 : vp_in (nI k) 22 := vp_in_nI (by omega) (by decide)
      have c1 : (nI k).toNatClampNeg = k := nI_clamp (by omega)
      have K : ∀ g, sameF h g → frOk h (none) (k + 1) g → E cx jX2_renew d a 151 [some (.ref o_frame), some (.ref o_wall), some .null, some (.int (nI k))] [] g (renQ h (none)) := fun g sg fg => by
        refine eX2_renew (e_eq (ih (k + 1) g (by omega) sg fg) ?_ rfl rfl)
        rw [nI_succ]; rfl
      have s1 : sameF h (wI g o_fr_beside k 0) := sameF_t sf (sameF_wI (by decide))
      have w1 := sameF_W s1
      refine eX2_renew (And.intro (fun q => absurd q (nI_ge (a := k) (b := 22) (by omega) (by decide))) (fun _ => And.intro i1 (wp_hp (g := wI g o_fr_beside k 0) (wIc c1) (wcV (m_isPlace (by omega)) (And.intro (fun z => K _ s1 ?_) (fun z => ?_))))))
      · have np : ¬ sPlace h (nI k) := fun y => b2i_0.mp z ((sPlace_W w1).mpr y)
        refine ⟨fun i hi => ?_, ?_⟩
        · rcases Nat.lt_succ_iff_lt_or_eq.mp hi with hi | rfl
          · exact row_k (fo.1 i hi) (by omega)
          · exact ⟨fun y => absurd y np, fun _ => rd_same⟩
        · rw [rd_o (by decide), fo.2, bitsR_f (fun y => np y.1)]
      · have pl : sPlace h (nI k) := (sPlace_W w1).mp (b2i_n z)
        obtain ⟨g1, eg1⟩ : ∃ x, x = wI g o_fr_beside k 0 := ⟨_, rfl⟩
        rw [← eg1] at s1 w1 ⊢
        refine wcS (m_neighbours (by omega)) (And.intro i1 ?_)
        obtain ⟨g2, eg2⟩ : ∃ x, x = wI g1 o_fr_beside k (bitsR (nbP g1 (nI k)) 22) := ⟨_, rfl⟩
        have s2 : sameF h g2 := by rw [eg2]; exact sameF_t s1 (sameF_wI (by decide))
        refine wp_hp (g := g2) (by rw [eg2]; exact wIc c1) (wcS (m_heldOf (by omega)) (And.intro i1 ?_))
        obtain ⟨g3, eg3⟩ : ∃ x, x = wI g2 o_fr_held k (fHeld g2 (nI k)) := ⟨_, rfl⟩
        have s3 : sameF h g3 := by rw [eg3]; exact sameF_t s2 (sameF_wI (by decide))
        refine wp_hp (g := g3) (by rw [eg3]; exact wIc c1) (wcV (m_term (by omega)) (And.intro i1 ?_))
        obtain ⟨g4, eg4⟩ : ∃ x, x = wI g3 o_fr_needs k (fTerm g3 0) := ⟨_, rfl⟩
        have s4 : sameF h g4 := by rw [eg4]; exact sameF_t s3 (sameF_wI (by decide))
        have rows4 : ∀ i, i < k → rowOk h (none) g4 i := fun i hi => by rw [eg4, eg3, eg2, eg1]; exact row_k (row_k (row_k (row_k (fo.1 i hi) (by omega)) (by omega)) (by omega)) (by omega)
        have b4 : hI g4 o_fr_beside k = bitsR (nbP h (nI k)) 22 := by rw [eg4, eg3, eg2, rd_o (by decide), rd_o (by decide), rd_same]; exact bitsR_cong (fun i => nbP_W w1) 22
        have h4 : hI g4 o_fr_held k = fHeld h (nI k) := by rw [eg4, eg3, rd_o (by decide), rd_same]; exact fHeld_W (sameF_W s2)
        have n4 : hI g4 o_fr_needs k = fTerm h 0 := by rw [eg4, rd_same]; exact fTerm_W (sameF_W s3)
        have d4 : hI g4 o_frame 5 = bitsR (bdB h (none)) k := by rw [eg4, eg3, eg2, eg1, rd_o (by decide), rd_o (by decide), rd_o (by decide), rd_o (by decide)]; exact fo.2
        refine wp_hp (g := g4) (by rw [eg4]; exact wIc c1) ?_
        refine e_renewTail (by omega) (by omega) s4 rows4 pl b4 h4 n4 ?_ K
        rw [d4, bitsR_f (fun y => y.2)]
  refine sX2_renew rfl (wcV (m_lawInForceN (by omega) hL) ?_)
  have sz : sameF h (wI h o_frame 5 0) := sameF_wI (by decide)
  exact loop 22 0 _ rfl sz ⟨fun i hi => absurd hi (Nat.not_lt_zero i), rd_same⟩
theorem or_0 {x : Int32} : x ||| 0 = x := by
  apply b_ext; intro i hi; rw [b_or, b_0]; simp
theorem m_renewS (hd : 6 ≤ d) {o C : Nat} (hL : inF h (some (o, C))) : M cx jX2_renew d a [.ref o_frame, .ref o_wall] h (renQ h (some (o, C))) := by
  have loop : lawC h o C → ∀ n k g, n + k = 22 → sameF h g → frOk h (some (o, C)) k g → E cx jX2_renew d a 12 [some (.ref o_frame), some (.ref o_wall), some (.ref o), some (.int (nI k))] [] g (renQ h (some (o, C))) := by
    intro hC n
    induction n with
    | zero =>
      intro k g hk sf fo
      obtain rfl : k = 22 := by omega
      exact eX2_renew (And.intro (fun _ => eX2_renew ⟨rfl, sf, fo⟩) (fun q => absurd (nI_le (a := 22) (b := 22) (Nat.le_refl _) (by decide)) q))
    | succ n ih =>
      intro k g hk sf fo
      have i1 : vp_in (nI k) 22 := vp_in_nI (by omega) (by decide)
      have c1 : (nI k).toNatClampNeg = k := nI_clamp (by omega)
      have K : ∀ g, sameF h g → frOk h (some (o, C)) (k + 1) g → E cx jX2_renew d a 151 [some (.ref o_frame), some (.ref o_wall), some (.ref o), some (.int (nI k))] [] g (renQ h (some (o, C))) := fun g sg fg => by
        refine eX2_renew (e_eq (ih (k + 1) g (by omega) sg fg) ?_ rfl rfl)
        rw [nI_succ]; rfl
      have s1 : sameF h (wI g o_fr_beside k 0) := sameF_t sf (sameF_wI (by decide))
      have w1 := sameF_W s1
      refine eX2_renew (And.intro (fun q => absurd q (nI_ge (a := k) (b := 22) (by omega) (by decide))) (fun _ => And.intro i1 (wp_hp (g := wI g o_fr_beside k 0) (wIc c1) (wcV (m_isPlace (by omega)) (And.intro (fun z => K _ s1 ?_) (fun z => ?_))))))
      · have np : ¬ sPlace h (nI k) := fun y => b2i_0.mp z ((sPlace_W w1).mpr y)
        refine ⟨fun i hi => ?_, ?_⟩
        · rcases Nat.lt_succ_iff_lt_or_eq.mp hi with hi | rfl
          · exact row_k (fo.1 i hi) (by omega)
          · exact ⟨fun y => absurd y np, fun _ => rd_same⟩
        · rw [rd_o (by decide), fo.2, bitsR_f (fun y => np y.1)]
      · have pl : sPlace h (nI k) := (sPlace_W w1).mp (b2i_n z)
        obtain ⟨g1, eg1⟩ : ∃ x, x = wI g o_fr_beside k 0 := ⟨_, rfl⟩
        rw [← eg1] at s1 w1 ⊢
        refine wcS (m_neighbours (by omega)) (And.intro i1 ?_)
        obtain ⟨g2, eg2⟩ : ∃ x, x = wI g1 o_fr_beside k (bitsR (nbP g1 (nI k)) 22) := ⟨_, rfl⟩
        have s2 : sameF h g2 := by rw [eg2]; exact sameF_t s1 (sameF_wI (by decide))
        refine wp_hp (g := g2) (by rw [eg2]; exact wIc c1) (wcS (m_heldOf (by omega)) (And.intro i1 ?_))
        obtain ⟨g3, eg3⟩ : ∃ x, x = wI g2 o_fr_held k (fHeld g2 (nI k)) := ⟨_, rfl⟩
        have s3 : sameF h g3 := by rw [eg3]; exact sameF_t s2 (sameF_wI (by decide))
        refine wp_hp (g := g3) (by rw [eg3]; exact wIc c1) (wcV (m_term (by omega)) (And.intro i1 ?_))
        obtain ⟨g4, eg4⟩ : ∃ x, x = wI g3 o_fr_needs k (fTerm g3 0) := ⟨_, rfl⟩
        have s4 : sameF h g4 := by rw [eg4]; exact sameF_t s3 (sameF_wI (by decide))
        have rows4 : ∀ i, i < k → rowOk h (some (o, C)) g4 i := fun i hi => by rw [eg4, eg3, eg2, eg1]; exact row_k (row_k (row_k (row_k (fo.1 i hi) (by omega)) (by omega)) (by omega)) (by omega)
        have b4 : hI g4 o_fr_beside k = bitsR (nbP h (nI k)) 22 := by rw [eg4, eg3, eg2, rd_o (by decide), rd_o (by decide), rd_same]; exact bitsR_cong (fun i => nbP_W w1) 22
        have h4 : hI g4 o_fr_held k = fHeld h (nI k) := by rw [eg4, eg3, rd_o (by decide), rd_same]; exact fHeld_W (sameF_W s2)
        have n4 : hI g4 o_fr_needs k = fTerm h 0 := by rw [eg4, rd_same]; exact fTerm_W (sameF_W s3)
        have d4 : hI g4 o_frame 5 = bitsR (bdB h (some (o, C))) k := by rw [eg4, eg3, eg2, eg1, rd_o (by decide), rd_o (by decide), rd_o (by decide), rd_o (by decide)]; exact fo.2
        refine wp_hp (g := g4) (by rw [eg4]; exact wIc c1) ?_
        have q4 : lawC g4 o C := lawC_W (sameF_W s4) hC
        refine wcV (m_term (by omega)) (wcV (m_need (by omega) q4) (And.intro i1 ?_) (hok := Or.inr (sameA_N (sameA_ndR _ _ _ _))))
        obtain ⟨g5, eg5⟩ : ∃ x, x = (ndR o (nI k) C 0 (fTerm g4 0) g4).2 := ⟨_, rfl⟩
        have a5 : sameA g4 g5 := by rw [eg5]; exact sameA_ndR _ _ _ _
        have s5 : sameF h g5 := sameF_t s4 (sameA_F a5)
        obtain ⟨g6, eg6⟩ : ∃ x, x = wI g5 o_fr_needs k (dNeed h (some (o, C)) (nI k)) := ⟨_, rfl⟩
        have s6 : sameF h g6 := by rw [eg6]; exact sameF_t s5 (sameF_wI (by decide))
        have ev : (ndR o (nI k) C 0 (fTerm g4 0) g4).1 = dNeed h (some (o, C)) (nI k) := by
          rw [nd_p hC.1.1.1 C 0 _ g4 sameA_r, pNd_W (sameF_W s4) hC.1.1.1, fTerm_W (sameF_W s4)]; rfl
        have q6 : lawC g6 o C := lawC_W (sameF_W s6) hC
        refine wp_hp (g := g6) (by rw [eg6, eg5, ← ev]; exact wIc c1) (wcV (m_isBoundA (by omega) q6) ?_ (hok := Or.inr (sameA_N (sameA_bdR _ _ _))))
        obtain ⟨g7, eg7⟩ : ∃ x, x = (bdR o (nI k) C 0 g6).2 := ⟨_, rfl⟩
        have a7 : sameA g6 g7 := by rw [eg7]; exact sameA_bdR _ _ _
        have s7 : sameF h g7 := sameF_t s6 (sameA_F a7)
        have bd : (bdR o (nI k) C 0 g6).1 ↔ dBnd h (some (o, C)) (nI k) := by
          rw [bd_pBd hC.1.1.1 sameA_r, pBd_W (sameF_W s6) hC.1.1.1]; rfl
        have rows7 : ∀ i, i < k → rowOk h (some (o, C)) g7 i := fun i hi => row_A (by rw [eg6]; exact row_k (row_A (rows4 i hi) a5) (by omega)) a7
        have r7 : ∀ p, 87 ≤ p → p ≤ 90 → p ≠ o_fr_needs → hI g7 p k = hI g4 p k := fun p h1 h2 h3 => by
          rw [a7.1 p k (by show p ≠ 85; omega), eg6, rd_o h3, a5.1 p k (by show p ≠ 85; omega)]
        have n7 : hI g7 o_fr_needs k = dNeed h (some (o, C)) (nI k) := by rw [a7.1 _ k (by decide), eg6, rd_same]
        have d6 : hI g6 o_frame 5 = bitsR (bdB h (some (o, C))) k := by rw [eg6, rd_o (by decide), a5.1 _ 5 (by decide)]; exact d4
        have fin : ∀ w, bitsR (bdB h (some (o, C))) k ||| w = bitsR (bdB h (some (o, C))) (k + 1) → E cx jX2_renew d a 116 [some (.ref o_frame), some (.ref o_wall), some (.ref o), some (.int (nI k))] [.int w, .int (hI g6 o_frame 5), .ref o_frame] g7 (renQ h (some (o, C))) := fun w ew => by
          refine eX2_renew (e_renewTail (by omega) (by omega) (sameF_t s7 (sameF_wI (by decide))) (fun i hi => row_o (rows7 i hi) (by decide)) pl ?_ ?_ ?_ ?_ K)
          · rw [rd_o (by decide), r7 _ (by decide) (by decide) (by decide)]; exact b4
          · rw [rd_o (by decide), r7 _ (by decide) (by decide) (by decide)]; exact h4
          · rw [rd_o (by decide)]; exact n7
          · rw [rd_same, d6]; exact ew
        rw [← eg7]
        refine And.intro (fun y => eX2_renew (fin 0 ?_)) (fun y => fin _ ?_)
        · have ny : ¬ bdB h (some (o, C)) k := fun x => b2i_0.mp y (bd.mpr x.2)
          rw [bitsR_f ny]; exact or_0
        · rw [bitsR_t (show bdB h (some (o, C)) k from ⟨pl, bd.mp (b2i_n y)⟩)]
  obtain ⟨kf, hkf, ef, er, hC⟩ := hL
  refine sX2_renew rfl (wcV (m_lawInForce (by omega) ef hkf er) ?_)
  have sz : sameF h (wI h o_frame 5 0) := sameF_wI (by decide)
  exact loop hC 22 0 _ rfl sz ⟨fun i hi => absurd hi (Nat.not_lt_zero i), rd_same⟩
end T24
