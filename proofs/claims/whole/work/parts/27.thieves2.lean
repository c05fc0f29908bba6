/-! felling, mending, the game, steps -/
section T27
variable {cx : Cx} {d a : Nat} {h g : Hp}
theorem nx2 {x : Hp} {y : Hp} (e : x.2 = y.2) : hN x = hN y := congrArg (fun z => z.2.2.2) e
theorem nx3 {x : Hp} {y : Hp} (e : x.2.2 = y.2.2) : hN x = hN y := congrArg (fun z => z.2.2) e
/-! felling -/
noncomputable def feB (c : Int32) (g : Hp) (s : Int32) : Hp := @ite _ (inSI g o_lawful_words s ∨ hwo_marked g s s 14) (Classical.propDecidable _) (addS g o_marked_words s.toNatClampNeg) (offF_fellingFound g (c &&& (s ^^^ -1)))
noncomputable def feH (c : Int32) (g : Hp) (n : Nat) : Hp := lpH (feB c) (lpS (nxU c) 0) g n
theorem feH_s {c : Int32} {n : Nat} : feH c g (n + 1) = feB c (feH c g n) (lpS (nxU c) 0 n) := rfl
theorem feH_I {c : Int32} {n o k : Nat} (ne : o ≠ 98) : hI (feH c g n) o k = hI g o k := by
  induction n with
  | zero => rfl
  | succ n ih =>
    rw [feH_s]; unfold feB; split
    · exact ih
    · rw [offF_fell_I ne, ih]
theorem feH_2 {c : Int32} {n : Nat} : (feH c g n).2.2 = g.2.2 := by
  induction n with
  | zero => rfl
  | succ n ih =>
    rw [feH_s]; unfold feB; split
    · exact ih
    · rw [offF_fell_2, ih]
noncomputable def feD (h : Hp) : Hp := feH (hI (flA (knw h 8)) o_thieves 12) (clrJ (clrF (flA (knw h 8)) o_fellingFound) o_marked_words 256) (bcS (hI (flA (knw h 8)) o_thieves 12)).toNatClampNeg
noncomputable def feA (h : Hp) : Hp := @ite _ (hI h o_thieves 13 &&& 8 = 0) (Classical.propDecidable _) (feD h) (knw h 8)
/-- the core, where it was found already or is found now -/
def coreOk (h : Hp) : Prop := (∃ m, m < 16384 ∧ setR h 22 (hI h o_wall 5) = nI m) ∧ (¬ hI h o_thieves 13 &&& 1 = 0 → hI h o_thieves 12 = setR h 22 (hI h o_wall 5))
theorem and_or_keep {x k : Int32} (e : k &&& 1 = 0) : (x ||| k) &&& 1 = x &&& 1 := by
  apply b_ext; intro i hi
  have := congrArg (fun z => bt z i) e
  simp only [b_and, b_0] at this
  rw [b_and, b_or, b_and]
  cases h1 : bt k i <;> cases h2 : bt 1 i <;> simp_all
theorem core_fl {k : Int32} (ek : k &&& 1 = 0) (q : coreOk h) : hI (flA (knw h k)) o_thieves 12 = setR h 22 (hI h o_wall 5) := by
  have e5 : hI (knw h k) o_wall 5 = hI h o_wall 5 := knw_I (Or.inl (by decide))
  unfold flA
  split
  · unfold flD
    rw [flH_I, setR_knw, e5]
    show hI (wI (wI (knw h k) o_thieves 13 (hI (knw h k) o_thieves 13 ||| 1)) o_thieves 12 (setR h 22 (hI h o_wall 5))) o_thieves 12 = _
    exact rd_same
  · rename_i z
    rw [rd_k (by decide), knw_I (Or.inr (by decide))]
    apply q.2
    intro y; apply z
    show hI (wI h o_thieves 13 (hI h o_thieves 13 ||| k)) o_thieves 13 &&& 1 = 0
    rw [rd_same, and_or_keep ek]; exact y
theorem m_felling (hd : 5 ≤ d) (q : coreOk h) : M cx jX9_felling d a [.ref o_thieves] h (RQ (.ref o_fellingFound) (feA h)) := by
  obtain ⟨⟨m, hm, ec⟩, q2⟩ := id q
  obtain ⟨f, hf⟩ : ∃ f, f = flA (knw h 8) := ⟨_, rfl⟩
  obtain ⟨c, hc⟩ : ∃ c, c = hI f o_thieves 12 := ⟨_, rfl⟩
  have ecm : c = nI m := by rw [hc, hf, core_fl (by decide) q, ec]
  obtain ⟨g0, hg0⟩ : ∃ g0, g0 = clrJ (clrF f o_fellingFound) o_marked_words 256 := ⟨_, rfl⟩
  have i0 : ∀ o k, o ≠ 98 → hI g0 o k = hI f o k := fun o k n => by rw [hg0]; exact clrF_I n
  have fD : feD h = feH c g0 (bcS c).toNatClampNeg := by unfold feD; rw [← hf, ← hc, ← hg0]
  have hl := clamp_lt (bcS c)
  have loop : ∀ n i, n + i = (bcS c).toNatClampNeg → E cx jX9_felling d a 39 [some (.ref o_thieves), some (.int (bcS c)), some (.int (lpS (nxU c) 0 i)), some (.int (nI i))] [] (feH c g0 i) (RQ (.ref o_fellingFound) (feD h)) := by
    intro n
    induction n with
    | zero =>
      intro i hi
      refine eX9_felling (And.intro (fun _ => eX9_felling ⟨rfl, ?_⟩) (fun q => absurd ((lt_clamp (by omega)).mp q) (by omega)))
      rw [fD, ← hi]; simp
    | succ n ih =>
      intro i hi
      obtain ⟨jj, hj, ej⟩ := lpU_nI ecm hm i
      have eC : hI (feH c g0 i) o_thieves 12 = c := by rw [feH_I (by decide), i0 _ _ (by decide), hc]
      have go : ∀ g', feH c g0 (i + 1) = g' → E cx jX9_felling d a 93 [some (.ref o_thieves), some (.int (bcS c)), some (.int (lpS (nxU c) 0 i)), some (.int (nI i))] [] g' (RQ (.ref o_fellingFound) (feD h)) := fun g' eg => by
        have e12 : hI g' o_thieves 12 = c := by rw [← eg, feH_I (by decide), i0 _ _ (by decide), hc]
        subst eg
        refine eX9_felling (e_eq (ih (i + 1) (by omega)) ?_ rfl rfl)
        rw [nI_succ, e12]; rfl
      have yes : (inSI (feH c g0 i) o_lawful_words (lpS (nxU c) 0 i) ∨ hwo_marked (feH c g0 i) (lpS (nxU c) 0 i) (lpS (nxU c) 0 i) 14) → E cx jX9_felling d a 67 [some (.ref o_thieves), some (.int (bcS c)), some (.int (lpS (nxU c) 0 i)), some (.int (nI i))] [] (feH c g0 i) (RQ (.ref o_fellingFound) (feD h)) := fun z => by
        refine eX9_felling (wcV0 (m_add_marked (by omega) ej hj) (go _ ?_))
        rw [feH_s]; unfold feB; rw [if_pos z, ej, nI_clamp (by omega)]
      refine eX9_felling (And.intro (fun q => absurd ((lt_clamp (by omega)).mpr (by omega)) (fun z => z q)) (fun _ => wcV (m_has_lawful (by omega)) (And.intro (fun z => yes (Or.inl (b2i_n z))) (fun z => wcV (m_hasWithoutOne_marked (by omega)) (And.intro (fun y => eX9_felling (wcV0 (m_offer_fellingFound (by omega)) (go _ ?_) (hok := Or.inr (nx2 offF_fell_2)))) (fun y => yes (Or.inr (b2i_n y))))))))
      rw [feH_s]; unfold feB
      rw [if_neg (fun x => x.elim (b2i_0.mp z) (b2i_0.mp y)), eC]
  refine sX9_felling rfl (wcV m_isDue (And.intro (fun z => eX9_felling ⟨rfl, ?_⟩) (fun z => ?_)))
  · exact (if_neg (b2i_0.mp z)).symm
  · have fA : feA h = feD h := if_pos (b2i_n z)
    rw [fA]
    refine wcV0 (m_findLawful (h := knw h 8) (by omega) (by rw [knw_I (Or.inl (by decide)), setR_knw]; exact ec) hm) (wp_hp (g := f) hf.symm (wcV0 m_clear_fellingFound (wcV0 m_clear_marked (wp_hp (g := g0) hg0.symm (wcS (m_setsOf (by omega)) ?_))))) (hok := Or.inr flA_N)
    refine e_eq (loop _ 0 (by rw [Nat.add_zero])) ?_ rfl rfl
    rw [i0 _ _ (by decide), ← hc]; rfl
/-! mending -/
noncomputable def meB (t : Int32) (g : Hp) (s : Int32) : Hp := @ite _ (lawfulS g (t ||| (s <<< ((14 : Int32) &&& 31)))) (Classical.propDecidable _) (offF_mendingFound g s) g
noncomputable def meH (t : Int32) (g : Hp) (n : Nat) : Hp := lpH (meB t) nI g n
theorem meH_s {t : Int32} {n : Nat} : meH t g (n + 1) = meB t (meH t g n) (nI n) := rfl
theorem meH_I {t : Int32} {n o k : Nat} (ne : o ≠ 99) : hI (meH t g n) o k = hI g o k := by
  induction n with
  | zero => rfl
  | succ n ih =>
    rw [meH_s]; unfold meB; split
    · rw [offF_mend_I ne, ih]
    · exact ih
theorem meH_2 {t : Int32} {n : Nat} : (meH t g n).2 = g.2 := by
  induction n with
  | zero => rfl
  | succ n ih =>
    rw [meH_s]; unfold meB; split
    · rw [offF_mend_2, ih]
    · exact ih
def meN (h : Hp) : Int32 := (1 : Int32) <<< ((if hI h o_wall 4 < 8 then hI h o_wall 4 else 8) &&& 31)
noncomputable def meD (h : Hp) : Hp := meH (hI h o_wall 5) (clrF (knw h 16) o_mendingFound) (meN h).toNatClampNeg
noncomputable def meA (h : Hp) : Hp := @ite _ (hI h o_thieves 13 &&& 16 = 0) (Classical.propDecidable _) (meD h) (knw h 16)
theorem m_mending (hd : 2 ≤ d) : M cx jX9_mending d a [.ref o_thieves] h (RQ (.ref o_mendingFound) (meA h)) := by
  obtain ⟨g0, hg0⟩ : ∃ g0, g0 = clrF (knw h 16) o_mendingFound := ⟨_, rfl⟩
  have i0 : ∀ o k, o ≠ 99 → o ≠ 91 → hI g0 o k = hI h o k := fun o k n n2 => by rw [hg0, clrF_I n, knw_I (Or.inl n2)]
  have fD : meD h = meH (hI h o_wall 5) g0 (meN h).toNatClampNeg := by unfold meD; rw [← hg0]
  have hl := clamp_lt (meN h)
  have loop : ∀ n i, n + i = (meN h).toNatClampNeg → E cx jX9_mending d a 33 [some (.ref o_thieves), some (.int (meN h)), some (.int (nI i))] [] (meH (hI h o_wall 5) g0 i) (RQ (.ref o_mendingFound) (meD h)) := by
    intro n
    induction n with
    | zero =>
      intro i hi
      refine eX9_mending (And.intro (fun _ => eX9_mending ⟨rfl, ?_⟩) (fun q => absurd ((lt_clamp (by omega)).mp q) (by omega)))
      rw [fD, ← hi]; simp
    | succ n ih =>
      intro i hi
      have eT : hI (meH (hI h o_wall 5) g0 i) o_wall 5 = hI h o_wall 5 := by rw [meH_I (by decide), i0 _ _ (by decide) (by decide)]
      have go : ∀ g', meH (hI h o_wall 5) g0 (i + 1) = g' → E cx jX9_mending d a 68 [some (.ref o_thieves), some (.int (meN h)), some (.int (nI i))] [] g' (RQ (.ref o_mendingFound) (meD h)) := fun g' eg => by
        subst eg
        refine eX9_mending (e_eq (ih (i + 1) (by omega)) ?_ rfl rfl)
        rw [nI_succ]; rfl
      refine eX9_mending (And.intro (fun q => absurd ((lt_clamp (by omega)).mpr (by omega)) (fun z => z q)) (fun _ => wcV (m_isLawful (by omega)) (And.intro (fun z => go _ ?_) (fun z => wcV0 (m_offer_mendingFound (by omega)) (go _ ?_) (hok := Or.inr (nx2 offF_mend_2))))))
      · have z := b2i_0.mp z
        rw [meH_s]; unfold meB
        rw [if_neg (fun y => z (by show lawfulS _ (hI (meH (hI h o_wall 5) g0 i) o_wall 5 ||| _); rw [eT]; exact y))]
      · have z : lawfulS (meH (hI h o_wall 5) g0 i) (hI (meH (hI h o_wall 5) g0 i) o_wall 5 ||| (nI i <<< ((14 : Int32) &&& 31))) := b2i_n z
        rw [eT] at z
        rw [meH_s]; unfold meB; rw [if_pos z]
  refine sX9_mending rfl (wcV m_isDue (And.intro (fun z => eX9_mending ⟨rfl, ?_⟩) (fun z => ?_)))
  · exact (if_neg (b2i_0.mp z)).symm
  · have fA : meA h = meD h := if_pos (b2i_n z)
    rw [fA]
    refine wcV0 m_clear_mendingFound (wp_hp (g := g0) hg0.symm (And.intro ⟨Nat.le_of_ble_eq_true rfl, by omega⟩ (e_eq (loop _ 0 (by rw [Nat.add_zero])) ?_ rfl rfl)))
    have e : hI g0 o_wall 4 = hI h o_wall 4 := i0 _ _ (by decide) (by decide)
    show [_, some (Value.int ((1 : Int32) <<< ((if hI g0 o_wall 4 < 8 then hI g0 o_wall 4 else 8) &&& 31))), _] = _
    rw [e]; rfl
/-! the game -/
def wnP (g : Hp) (s : Int32) (k : Nat) : Prop := ¬ (((1 : Int32) <<< (nI k &&& 31)) &&& s) = 0 ∧ inSI g o_lawful_words (s &&& ((((1 : Int32) <<< (nI k &&& 31)) &&& s) ^^^ -1)) ∧ ¬ inSI g o_marked_words (s &&& ((((1 : Int32) <<< (nI k &&& 31)) &&& s) ^^^ -1))
theorem m_winningIn (hd : 2 ≤ d) {s : Int32} : M cx jX9_winningIn d a [.ref o_thieves, .int s] h (RQ (.int (fst (wnP h s) 14 0)) h) := by
  have loop : ∀ n k, n + k = 14 → fst (wnP h s) n k = fst (wnP h s) 14 0 → E cx jX9_winningIn d a 2 [some (.ref o_thieves), some (.int s), some (.int (nI k)), none] [] h (RQ (.int (fst (wnP h s) 14 0)) h) := by
    intro n
    induction n with
    | zero =>
      intro k hk hf
      obtain rfl : k = 14 := by omega
      exact eX9_winningIn (And.intro (fun _ => eX9_winningIn (RQ_eq hf)) (fun q => absurd (nI_le (a := 14) (b := 14) (Nat.le_refl _) (by decide)) q))
    | succ n ih =>
      intro k hk hf
      have go : ¬ wnP h s k → ∀ w, E cx jX9_winningIn d a 50 [some (.ref o_thieves), some (.int s), some (.int (nI k)), w] [] h (RQ (.int (fst (wnP h s) 14 0)) h) := fun q w => by
        refine e_clr 3 (eX9_winningIn (e_eq (ih (k + 1) (by omega) (by rw [← hf, fst_f q])) ?_ rfl rfl))
        rw [nI_succ]; rfl
      refine eX9_winningIn (And.intro (fun q => absurd q (nI_ge (a := k) (b := 14) (by omega) (by decide))) (fun _ => And.intro (fun q => go (fun z => z.1 q) _) (fun q => wcV (m_has_lawful (by omega)) (And.intro (fun q2 => go (fun z => b2i_0.mp q2 z.2.1) _) (fun q2 => wcV (m_has_marked (by omega)) (And.intro (fun q3 => go (fun z => z.2.2 (b2i_n q3)) _) (fun q3 => RQ_eq ?_)))))))
      rw [← hf, fst_t ⟨q, b2i_n q2, b2i_0.mp q3⟩]
  exact sX9_winningIn rfl (loop 14 0 rfl rfl)
noncomputable def gaB (g : Hp) (s : Int32) : Hp := if fst (wnP g s) 14 0 = -1 then g else addS g o_marked_words s.toNatClampNeg
noncomputable def gaH (c : Int32) (g : Hp) (n : Nat) : Hp := lpH gaB (lpS (nxU c) 0) g n
theorem gaH_s {c : Int32} {n : Nat} : gaH c g (n + 1) = gaB (gaH c g n) (lpS (nxU c) 0 n) := rfl
theorem gaH_I {c : Int32} {n o k : Nat} : hI (gaH c g n) o k = hI g o k := by
  induction n with
  | zero => rfl
  | succ n ih =>
    rw [gaH_s]; unfold gaB; split
    · exact ih
    · exact ih
theorem gaH_2 {c : Int32} {n : Nat} : (gaH c g n).2.2 = g.2.2 := by
  induction n with
  | zero => rfl
  | succ n ih =>
    rw [gaH_s]; unfold gaB; split
    · exact ih
    · exact ih
/-- a stone that may be taken of the wall as it is -/
def tkP (g : Hp) (k : Nat) : Prop := ¬ (((1 : Int32) <<< (nI k &&& 31)) &&& hI g o_wall 5) = 0 ∧ inSI g o_lawful_words (hI g o_wall 5 &&& ((((1 : Int32) <<< (nI k &&& 31)) &&& hI g o_wall 5) ^^^ -1))
noncomputable def gaG (h : Hp) : Hp := gaH (hI (flA (knw h 32)) o_thieves 12) (clrJ (flA (knw h 32)) o_marked_words 256) (bcS (hI (flA (knw h 32)) o_thieves 12)).toNatClampNeg
noncomputable def gaD (h : Hp) : Hp := wI (wI (gaG h) o_thieves 10 (fst (wnP (gaG h) (hI h o_wall 5)) 14 0)) o_thieves 11 (nI (cnt (tkP (gaG h)) 14))
noncomputable def gaA (h : Hp) : Hp := @ite _ (hI h o_thieves 13 &&& 32 = 0) (Classical.propDecidable _) (gaD h) (knw h 32)
theorem m_play (hd : 5 ≤ d) (q : coreOk h) : M cx jX9_play d a [.ref o_thieves] h (RV (gaA h)) := by
  obtain ⟨⟨m, hm, ec⟩, q2⟩ := id q
  obtain ⟨f, hf⟩ : ∃ f, f = flA (knw h 32) := ⟨_, rfl⟩
  obtain ⟨c, hc⟩ : ∃ c, c = hI f o_thieves 12 := ⟨_, rfl⟩
  have ecm : c = nI m := by rw [hc, hf, core_fl (by decide) q, ec]
  obtain ⟨g0, hg0⟩ : ∃ g0, g0 = clrJ f o_marked_words 256 := ⟨_, rfl⟩
  have i0 : ∀ o k, hI g0 o k = hI f o k := fun o k => by rw [hg0]; rfl
  have fG : gaG h = gaH c g0 (bcS c).toNatClampNeg := by unfold gaG; rw [← hf, ← hc, ← hg0]
  have gT : hI (gaG h) o_wall 5 = hI h o_wall 5 := by rw [fG, gaH_I, i0, hf, flA_I (by decide), knw_I (Or.inl (by decide))]
  have hl := clamp_lt (bcS c)
  obtain ⟨W0, hW0⟩ : ∃ w, w = fst (wnP (gaG h) (hI h o_wall 5)) 14 0 := ⟨_, rfl⟩
  have tail : ∀ n k, n + k = 14 → ∀ w1 w2 w4, E cx jX9_play d a 95 [some (.ref o_thieves), w1, w2, some (.int (nI k)), w4] [] (wI (wI (gaG h) o_thieves 10 W0) o_thieves 11 (nI (cnt (tkP (gaG h)) k))) (RV (gaD h)) := by
    intro n
    induction n with
    | zero =>
      intro k hk w1 w2 w4
      obtain rfl : k = 14 := by omega
      refine e_clr 1 (e_clr 2 (e_clr 4 (eX9_play (And.intro (fun _ => eX9_play ⟨rfl, ?_⟩) (fun q => absurd (nI_le (a := 14) (b := 14) (Nat.le_refl _) (by decide)) q)))))
      unfold gaD; rw [← hW0]
    | succ n ih =>
      intro k hk w1 w2 w4
      have eI : ∀ v o q, o ≠ 91 → hI (wI (wI (gaG h) o_thieves 10 W0) o_thieves 11 v) o q = hI (gaG h) o q := fun v o q n => by rw [rd_o n, rd_o n]
      have go : ∀ v w4, cnt (tkP (gaG h)) (k + 1) = v → E cx jX9_play d a 151 [some (.ref o_thieves), none, none, some (.int (nI k)), w4] [] (wI (wI (gaG h) o_thieves 10 W0) o_thieves 11 (nI v)) (RV (gaD h)) := fun v w4 ev => by
        subst ev
        refine eX9_play (e_eq (ih (k + 1) (by omega) none none w4) ?_ rfl rfl)
        rw [nI_succ]; rfl
      refine e_clr 1 (e_clr 2 (e_clr 4 (eX9_play (And.intro (fun q => absurd q (nI_ge (a := k) (b := 14) (by omega) (by decide))) (fun _ => And.intro (fun z => go _ _ ?_) (fun z => wcV (m_has_lawful (by omega)) (And.intro (fun y => go _ _ ?_) (fun y => ?_))))))))
      · have z : ((1 : Int32) <<< (nI k &&& 31)) &&& hI (wI (wI (gaG h) o_thieves 10 W0) o_thieves 11 (nI (cnt (tkP (gaG h)) k))) o_wall 5 = 0 := z
        rw [eI _ _ _ (by decide)] at z
        rw [cnt_f (fun x => x.1 z)]
      · have y : ¬ inSI (gaG h) o_lawful_words (hI (wI (wI (gaG h) o_thieves 10 W0) o_thieves 11 (nI (cnt (tkP (gaG h)) k))) o_wall 5 &&& ((((1 : Int32) <<< (nI k &&& 31)) &&& hI (wI (wI (gaG h) o_thieves 10 W0) o_thieves 11 (nI (cnt (tkP (gaG h)) k))) o_wall 5) ^^^ -1)) := b2i_0.mp y
        rw [eI _ _ _ (by decide)] at y
        rw [cnt_f (fun x => y x.2)]
      · have y : inSI (gaG h) o_lawful_words (hI (wI (wI (gaG h) o_thieves 10 W0) o_thieves 11 (nI (cnt (tkP (gaG h)) k))) o_wall 5 &&& ((((1 : Int32) <<< (nI k &&& 31)) &&& hI (wI (wI (gaG h) o_thieves 10 W0) o_thieves 11 (nI (cnt (tkP (gaG h)) k))) o_wall 5) ^^^ -1)) := b2i_n y
        have z : ¬ ((1 : Int32) <<< (nI k &&& 31)) &&& hI (wI (wI (gaG h) o_thieves 10 W0) o_thieves 11 (nI (cnt (tkP (gaG h)) k))) o_wall 5 = 0 := z
        rw [eI _ _ _ (by decide)] at y z
        refine e_eq (go (cnt (tkP (gaG h)) k + 1) _ (cnt_t ⟨z, y⟩)) rfl rfl ?_
        show wI (wI (wI (gaG h) o_thieves 10 W0) o_thieves 11 (nI (cnt (tkP (gaG h)) k))) o_thieves 11 (hI (wI (wI (gaG h) o_thieves 10 W0) o_thieves 11 (nI (cnt (tkP (gaG h)) k))) o_thieves 11 + 1) = _
        rw [rd_same, wI_wI, ← nI_succ]
  have loop : ∀ n i, n + i = (bcS c).toNatClampNeg → E cx jX9_play d a 33 [some (.ref o_thieves), some (.int (bcS c)), some (.int (lpS (nxU c) 0 i)), some (.int (nI i)), none] [] (gaH c g0 i) (RV (gaD h)) := by
    intro n
    induction n with
    | zero =>
      intro i hi
      have eG : gaH c g0 i = gaG h := by rw [fG, ← hi]; simp
      rw [eG]
      refine eX9_play (And.intro (fun _ => eX9_play (wcV (m_winningIn (by omega)) (e_eq (tail 14 0 rfl _ _ _) rfl rfl ?_))) (fun q => absurd ((lt_clamp (by omega)).mp q) (by omega)))
      show wI (wI (gaG h) o_thieves 10 (fst (wnP (gaG h) (hI (gaG h) o_wall 5)) 14 0)) o_thieves 11 0 = _
      rw [gT, ← hW0]; rfl
    | succ n ih =>
      intro i hi
      obtain ⟨jj, hj, ej⟩ := lpU_nI ecm hm i
      have go : ∀ g', gaH c g0 (i + 1) = g' → E cx jX9_play d a 55 [some (.ref o_thieves), some (.int (bcS c)), some (.int (lpS (nxU c) 0 i)), some (.int (nI i)), none] [] g' (RV (gaD h)) := fun g' eg => by
        have e12 : hI g' o_thieves 12 = c := by rw [← eg, gaH_I, i0, hc]
        subst eg
        refine eX9_play (e_eq (ih (i + 1) (by omega)) ?_ rfl rfl)
        rw [nI_succ, e12]; rfl
      refine eX9_play (And.intro (fun q => absurd ((lt_clamp (by omega)).mpr (by omega)) (fun z => z q)) (fun _ => wcV (m_winningIn (by omega)) (And.intro (fun z => go _ ?_) (fun z => wcV0 (m_add_marked (by omega) ej hj) (go _ ?_)))))
      · rw [gaH_s]; unfold gaB; rw [if_pos z]
      · rw [gaH_s]; unfold gaB; rw [if_neg z, ej, nI_clamp (by omega)]
  refine sX9_play rfl (wcV m_isDue (And.intro (fun z => eX9_play ?_) (fun z => ⟨rfl, ?_⟩)))
  · have fA : gaA h = gaD h := if_pos (b2i_n z)
    rw [fA]
    refine wcV0 (m_findLawful (h := knw h 32) (by omega) (by rw [knw_I (Or.inl (by decide)), setR_knw]; exact ec) hm) (wp_hp (g := f) hf.symm (wcV0 m_clear_marked (wp_hp (g := g0) hg0.symm (wcS (m_setsOf (by omega)) ?_)))) (hok := Or.inr flA_N)
    refine e_eq (loop _ 0 (by rw [Nat.add_zero])) ?_ rfl rfl
    rw [i0, ← hc]; rfl
  · exact (if_neg (b2i_0.mp z)).symm
/-! steps -/
def lmP (g : Hp) (s t : Int32) (k : Nat) : Prop := ¬ (((1 : Int32) <<< (nI k &&& 31)) &&& s &&& t) = 0 ∧ inSI g o_marked_words (s &&& ((((1 : Int32) <<< (nI k &&& 31)) &&& s &&& t) ^^^ -1))
theorem m_lowestMarked (hd : 2 ≤ d) {s t : Int32} : M cx jX9_lowestMarked d a [.ref o_thieves, .int s, .int t] h (RQ (.int (fst (lmP h s t) 14 0)) h) := by
  have loop : ∀ n k, n + k = 14 → fst (lmP h s t) n k = fst (lmP h s t) 14 0 → E cx jX9_lowestMarked d a 2 [some (.ref o_thieves), some (.int s), some (.int t), some (.int (nI k)), none] [] h (RQ (.int (fst (lmP h s t) 14 0)) h) := by
    intro n
    induction n with
    | zero =>
      intro k hk hf
      obtain rfl : k = 14 := by omega
      exact eX9_lowestMarked (And.intro (fun _ => eX9_lowestMarked (RQ_eq hf)) (fun q => absurd (nI_le (a := 14) (b := 14) (Nat.le_refl _) (by decide)) q))
    | succ n ih =>
      intro k hk hf
      have go : ¬ lmP h s t k → ∀ w, E cx jX9_lowestMarked d a 40 [some (.ref o_thieves), some (.int s), some (.int t), some (.int (nI k)), w] [] h (RQ (.int (fst (lmP h s t) 14 0)) h) := fun q w => by
        refine e_clr 4 (eX9_lowestMarked (e_eq (ih (k + 1) (by omega) (by rw [← hf, fst_f q])) ?_ rfl rfl))
        rw [nI_succ]; rfl
      refine eX9_lowestMarked (And.intro (fun q => absurd q (nI_ge (a := k) (b := 14) (by omega) (by decide))) (fun _ => And.intro (fun q => go (fun z => z.1 q) _) (fun q => wcV (m_has_marked (by omega)) (And.intro (fun q2 => go (fun z => b2i_0.mp q2 z.2) _) (fun q2 => RQ_eq ?_)))))
      rw [← hf, fst_t ⟨q, b2i_n q2⟩]
  exact sX9_lowestMarked rfl (loop 14 0 rfl rfl)
theorem m_stepTaken (hd : 1 ≤ d) {i : Int32} {n : Nat} (en : hI h o_thieves 9 = nI n) (hn : n ≤ 14) : M cx jX9_stepTaken d a [.ref o_thieves, .int i] h (RQ (.int (if 0 ≤ i ∧ i < nI n then hI h o_th_steps i.toNatClampNeg else -1)) h) := by
  have ei : (0 ≤ i ∧ i ≤ hI h o_thieves 9 - 1) ↔ (0 ≤ i ∧ i < nI n) := by
    rw [en]
    have e1 : (nI n - 1).toInt = (n : Int) - 1 := pk_sub_toInt (a := n) (b := 1) (by omega) (by decide)
    rw [show (i ≤ nI n - 1) ↔ i.toInt ≤ (nI n - 1).toInt from Int32.le_iff_toInt_le, Int32.lt_iff_toInt_lt, e1, nI_toInt (by omega)]
    constructor
    · rintro ⟨x, y⟩; exact ⟨x, by omega⟩
    · rintro ⟨x, y⟩; exact ⟨x, by omega⟩
  refine sX9_stepTaken rfl (wcS m_isWithin (And.intro (fun z => eX9_stepTaken (eX9_stepTaken (RQ_eq ?_))) (fun z => And.intro (fun q => eX9_stepTaken (eX9_stepTaken (RQ_eq ?_))) (fun q => And.intro ?_ (eX9_stepTaken (RQ_eq ?_))))))
  · rw [if_neg (fun y => b2i_0.mp z (ei.mpr y))]
  · rw [if_neg (fun y => ?_)]
    have h1 := Int32.lt_iff_toInt_lt.mp y.2
    have h2 := Int32.le_iff_toInt_le.mp q
    rw [nI_toInt (by omega)] at h1
    have e : (14 : Int32).toInt = 14 := rfl
    omega
  · have y := b2i_n z
    show vp_in i 14
    rw [vp_in_iff]
    have h1 := Int32.le_iff_toInt_le.mp y.1
    have h2 := Int32.lt_iff_toInt_lt.mp (Int32.not_le.mp q)
    have e0 : (0 : Int32).toInt = 0 := rfl
    have e : (14 : Int32).toInt = 14 := rfl
    omega
  · rw [if_pos (ei.mp (b2i_n z))]; rfl
def nxD (c : Int32) : Int32 → Int32 := fun s => (s - 1) &&& c
theorem lpD_nI {c : Int32} {m : Nat} (ec : c = nI m) (hm : m < 16384) : ∀ i, ∃ j, j < 16384 ∧ lpS (nxD c) c i = nI j := by
  intro i
  cases i with
  | zero => exact ⟨m, hm, ec⟩
  | succ i => rw [lpS, nxD, ec]; exact and_nI _ hm
def ssP (t : Int32) (g : Hp) (s : Int32) : Prop := s = t ∨ (inSI g o_lawful_words s ∧ hw1_marked g s t 14)
noncomputable def ssB (t : Int32) (g : Hp) (s : Int32) : Hp := @ite _ (ssP t g s) (Classical.propDecidable _) (offM_stepsFound (addS g o_marked_words s.toNatClampNeg) (t &&& (s ^^^ -1))) g
noncomputable def ssH (t : Int32) (g : Hp) (n : Nat) : Hp := lpH (ssB t) (lpS (nxD t) t) g n
theorem ssH_s {t : Int32} {n : Nat} : ssH t g (n + 1) = ssB t (ssH t g n) (lpS (nxD t) t n) := rfl
theorem ssH_I {t : Int32} {n o k : Nat} (ne : o ≠ 97) : hI (ssH t g n) o k = hI g o k := by
  induction n with
  | zero => rfl
  | succ n ih =>
    rw [ssH_s]; unfold ssB; split
    · rw [offM_steps_I ne, hI_addS, ih]
    · exact ih
theorem ssH_2 {t : Int32} {n : Nat} : (ssH t g n).2.2 = g.2.2 := by
  induction n with
  | zero => rfl
  | succ n ih =>
    rw [ssH_s]; unfold ssB; split
    · rw [offM_steps_2]; exact ih
    · exact ih
noncomputable def ssA (h : Hp) : Hp := ssH (hI h o_wall 5) (clrJ h o_marked_words 256) (bcS (hI h o_wall 5)).toNatClampNeg
theorem m_findStepSets (hd : 4 ≤ d) {m : Nat} (et : hI h o_wall 5 = nI m) (hm : m < 16384) : M cx jX9_findStepSets d a [.ref o_thieves] h (RV (ssA h)) := by
  obtain ⟨t, ht⟩ : ∃ t, t = hI h o_wall 5 := ⟨_, rfl⟩
  obtain ⟨g0, hg0⟩ : ∃ g0, g0 = clrJ h o_marked_words 256 := ⟨_, rfl⟩
  have fD : ssA h = ssH t g0 (bcS t).toNatClampNeg := by unfold ssA; rw [← ht, ← hg0]
  have hl := clamp_lt (bcS t)
  have loop : ∀ n i, n + i = (bcS t).toNatClampNeg → E cx jX9_findStepSets d a 25 [some (.ref o_thieves), some (.int t), some (.int (bcS t)), some (.int (lpS (nxD t) t i)), some (.int (nI i))] [] (ssH t g0 i) (RV (ssA h)) := by
    intro n
    induction n with
    | zero =>
      intro i hi
      refine eX9_findStepSets (And.intro (fun _ => eX9_findStepSets ⟨rfl, ?_⟩) (fun q => absurd ((lt_clamp (by omega)).mp q) (by omega)))
      rw [fD, ← hi]; simp
    | succ n ih =>
      intro i hi
      obtain ⟨jj, hj, ej⟩ := lpD_nI (ht.trans et) hm i
      have go : ∀ g', ssH t g0 (i + 1) = g' → E cx jX9_findStepSets d a 83 [some (.ref o_thieves), some (.int t), some (.int (bcS t)), some (.int (lpS (nxD t) t i)), some (.int (nI i))] [] g' (RV (ssA h)) := fun g' eg => by
        subst eg
        refine eX9_findStepSets (e_eq (ih (i + 1) (by omega)) ?_ rfl rfl)
        rw [nI_succ]; rfl
      have no : ¬ ssP t (ssH t g0 i) (lpS (nxD t) t i) → ssH t g0 (i + 1) = ssH t g0 i := fun z => by rw [ssH_s]; unfold ssB; rw [if_neg z]
      have yes : ssP t (ssH t g0 i) (lpS (nxD t) t i) → E cx jX9_findStepSets d a 59 [some (.ref o_thieves), some (.int t), some (.int (bcS t)), some (.int (lpS (nxD t) t i)), some (.int (nI i))] [] (ssH t g0 i) (RV (ssA h)) := fun z => by
        refine eX9_findStepSets (wcV0 (m_add_marked (by omega) ej hj) (wcV0 (m_offer_stepsFound (by omega)) (go _ ?_) (hok := Or.inr (nx2 offM_steps_2))))
        rw [ssH_s]; unfold ssB; rw [if_pos z]
        have e : (lpS (nxD t) t i).toNatClampNeg = jj := by rw [ej, nI_clamp (by omega)]
        rw [e]
      refine eX9_findStepSets (And.intro (fun q => absurd ((lt_clamp (by omega)).mpr (by omega)) (fun z => z q)) (fun _ => And.intro (fun z => yes (Or.inl z)) (fun z => wcV (m_has_lawful (by omega)) (And.intro (fun y => go _ (no (fun x => x.elim z (fun x => b2i_0.mp y x.1)))) (fun y => wcV (m_hasWithOne_marked (by omega)) (And.intro (fun x => go _ (no (fun w => w.elim z (fun w => b2i_0.mp x w.2)))) (fun x => yes (Or.inr ⟨b2i_n y, b2i_n x⟩))))))))
  refine sX9_findStepSets rfl (wcV0 m_clear_marked (wp_hp (g := g0) hg0.symm (wcS (m_setsOf (by omega)) (e_eq (loop _ 0 (by rw [Nat.add_zero])) ?_ rfl rfl))))
  have e : hI g0 o_wall 5 = t := by rw [hg0, ht]; rfl
  show [_, some (Value.int (hI g0 o_wall 5)), some (Value.int (bcS (hI g0 o_wall 5))), some (Value.int (hI g0 o_wall 5)), _] = _
  rw [e]; rfl
end T27
