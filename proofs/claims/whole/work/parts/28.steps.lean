/-! the order of the steps; walls copied -/
section T28
variable {cx : Cx} {d a : Nat} {h g : Hp}
def foP (l : Int32) (g : Hp) (s : Int32) : Prop := s = 0 ∨ (inSI g o_lawful_words (l ||| s) ∧ hwo_marked g (l ||| s) s 14)
noncomputable def foB (l : Int32) (g : Hp) (s : Int32) : Hp := @ite _ (foP l g s) (Classical.propDecidable _) (addS g o_marked_words (l ||| s).toNatClampNeg) g
noncomputable def foH (l t : Int32) (g : Hp) (n : Nat) : Hp := lpH (foB l) (lpS (nxU t) 0) g n
theorem foH_s {l t : Int32} {n : Nat} : foH l t g (n + 1) = foB l (foH l t g n) (lpS (nxU t) 0 n) := rfl
theorem foH_I {l t : Int32} {n o k : Nat} : hI (foH l t g n) o k = hI g o k := by
  induction n with
  | zero => rfl
  | succ n ih =>
    rw [foH_s]; unfold foB; split
    · exact ih
    · exact ih
theorem foH_2 {l t : Int32} {n : Nat} : (foH l t g n).2.2 = g.2.2 := by
  induction n with
  | zero => rfl
  | succ n ih =>
    rw [foH_s]; unfold foB; split
    · exact ih
    · exact ih
/-- the marked ways of taking t -/
noncomputable def foM (h : Hp) (t : Int32) : Hp := foH (hI h o_wall 5 &&& (t ^^^ -1)) t (clrJ h o_marked_words 256) (bcS t).toNatClampNeg
theorem foM_I {t : Int32} {o k : Nat} : hI (foM h t) o k = hI h o k := by unfold foM; rw [foH_I]; rfl
/-- what is left, and the heap, behind k looks for a step -/
noncomputable def foR (g : Hp) (t s0 : Int32) : Nat → Int32 × Hp
  | 0 => (s0, g)
  | k + 1 => if fst (lmP g (foR g t s0 k).1 t) 14 0 = -1 then foR g t s0 k else ((foR g t s0 k).1 &&& (((1 : Int32) <<< (fst (lmP g (foR g t s0 k).1 t) 14 0 &&& 31)) ^^^ -1), wI (wI (foR g t s0 k).2 o_th_steps k (fst (lmP g (foR g t s0 k).1 t) 14 0)) o_thieves 9 (nI (k + 1)))
theorem foR_2 {t s0 : Int32} {k : Nat} : (foR g t s0 k).2.2 = g.2 := by
  induction k with
  | zero => rfl
  | succ k ih =>
    rw [foR]; split
    · exact ih
    · exact ih
theorem foR_I {t s0 : Int32} {k o q : Nat} (n1 : o ≠ 100) (n2 : o ≠ 91) : hI (foR g t s0 k).2 o q = hI g o q := by
  induction k with
  | zero => rfl
  | succ k ih =>
    rw [foR]; split
    · exact ih
    · show hI (wI (wI (foR g t s0 k).2 o_th_steps k _) o_thieves 9 _) o q = _
      rw [rd_o n2, rd_o n1, ih]
theorem lmP_J {f : Hp} (e : f.2 = g.2) {s t : Int32} {k : Nat} : lmP f s t k ↔ lmP g s t k := by
  unfold lmP inSI inS hJ; rw [e]
theorem fst_cong {P R : Nat → Prop} (e : ∀ k, P k ↔ R k) : ∀ n k, fst P n k = fst R n k := by
  intro n
  induction n with
  | zero => intro k; rfl
  | succ n ih =>
    intro k
    rcases Classical.em (R k) with c | c
    · rw [fst_t c, fst_t ((e k).mpr c)]
    · rw [fst_f c, fst_f (fun z => c ((e k).mp z)), ih]
theorem m_findOrder (hd : 4 ≤ d) {t : Int32} {m n : Nat} (et : t = nI n) (hn : n < 16384) (ew : hI h o_wall 5 = nI m) (hm : m < 16384) : M cx jX9_findOrder d a [.ref o_thieves, .int t] h (RV (foR (foM h t) t (hI h o_wall 5) 14).2) := by
  obtain ⟨l, hL⟩ : ∃ l, l = hI h o_wall 5 &&& (t ^^^ -1) := ⟨_, rfl⟩
  obtain ⟨g0, hg0⟩ : ∃ g0, g0 = clrJ h o_marked_words 256 := ⟨_, rfl⟩
  have eF : foM h t = foH l t g0 (bcS t).toNatClampNeg := by unfold foM; rw [← hL, ← hg0]
  have hl := clamp_lt (bcS t)
  obtain ⟨jl, hjl, ejl⟩ : ∃ j, j < 16384 ∧ l = nI j := by
    have := and_nI (t ^^^ -1) hm
    obtain ⟨j, h1, h2⟩ := this
    refine ⟨j, h1, ?_⟩
    rw [hL, ew, ← h2]
    apply b_ext; intro i hi; rw [b_and, b_and, Bool.and_comm]
  have tail : ∀ n k, n + k = 14 → ∀ w2 w3 w4 w7, E cx jX9_findOrder d a 108 [some (.ref o_thieves), some (.int t), w2, w3, w4, some (.int (foR (foM h t) t (hI h o_wall 5) k).1), some (.int (nI k)), w7] [] (foR (foM h t) t (hI h o_wall 5) k).2 (RV (foR (foM h t) t (hI h o_wall 5) 14).2) := by
    intro n
    induction n with
    | zero =>
      intro k hk w2 w3 w4 w7
      obtain rfl : k = 14 := by omega
      exact e_clr 2 (e_clr 3 (e_clr 4 (e_clr 7 (eX9_findOrder (And.intro (fun _ => eX9_findOrder ⟨rfl, rfl⟩) (fun q => absurd (nI_le (a := 14) (b := 14) (Nat.le_refl _) (by decide)) q))))))
    | succ n ih =>
      intro k hk w2 w3 w4 w7
      have go : ∀ s' g' w7, foR (foM h t) t (hI h o_wall 5) (k + 1) = (s', g') → E cx jX9_findOrder d a 158 [some (.ref o_thieves), some (.int t), none, none, none, some (.int s'), some (.int (nI k)), w7] [] g' (RV (foR (foM h t) t (hI h o_wall 5) 14).2) := fun s' g' w7 e => by
        have i1 := ih (k + 1) (by omega) none none none w7
        rw [e] at i1
        refine eX9_findOrder (e_eq i1 ?_ rfl rfl)
        rw [nI_succ]; rfl
      have ef : fst (lmP (foR (foM h t) t (hI h o_wall 5) k).2 (foR (foM h t) t (hI h o_wall 5) k).1 t) 14 0 = fst (lmP (foM h t) (foR (foM h t) t (hI h o_wall 5) k).1 t) 14 0 := fst_cong (fun i => lmP_J foR_2) 14 0
      have c1 : (nI k).toNatClampNeg = k := nI_clamp (by omega)
      refine e_clr 2 (e_clr 3 (e_clr 4 (e_clr 7 (eX9_findOrder (And.intro (fun q => absurd q (nI_ge (a := k) (b := 14) (by omega) (by decide))) (fun _ => wcV (m_lowestMarked (by omega)) (wp_top (v' := .int (fst (lmP (foM h t) (foR (foM h t) t (hI h o_wall 5) k).1 t) 14 0)) (congrArg Value.int ef) (And.intro (fun z => go _ _ _ ?_) (fun z => And.intro (vp_in_nI (N := 14) (by omega) (by decide)) (e_eq (go _ (wI (wI (foR (foM h t) t (hI h o_wall 5) k).2 o_th_steps k (fst (lmP (foM h t) (foR (foM h t) t (hI h o_wall 5) k).1 t) 14 0)) o_thieves 9 (nI (k + 1))) _ ?_) rfl rfl ?_))))))))))
      · rw [foR, if_pos z]
      · rw [foR, if_neg z]
      · show wI (wI _ o_th_steps (nI k).toNatClampNeg _) o_thieves 9 (nI k + 1) = _
        rw [c1, ← nI_succ]
  have loop : ∀ n i, n + i = (bcS t).toNatClampNeg → E cx jX9_findOrder d a 30 [some (.ref o_thieves), some (.int t), some (.int l), some (.int (bcS t)), some (.int (lpS (nxU t) 0 i)), some (.int (nI i)), none, none] [] (foH l t g0 i) (RV (foR (foM h t) t (hI h o_wall 5) 14).2) := by
    intro n
    induction n with
    | zero =>
      intro i hi
      have eG : foH l t g0 i = foM h t := by rw [eF, ← hi]; simp
      rw [eG]
      refine eX9_findOrder (And.intro (fun _ => eX9_findOrder (e_eq (tail 14 0 rfl (some (.int l)) (some (.int (bcS t))) (some (.int (lpS (nxU t) 0 i))) none) ?_ rfl rfl)) (fun q => absurd ((lt_clamp (by omega)).mp q) (by omega)))
      show [_, _, _, _, _, some (Value.int (hI (foM h t) o_wall 5)), _, _] = _
      rw [foM_I]; rfl
    | succ n ih =>
      intro i hi
      obtain ⟨jj, hj, ej⟩ := lpU_nI et hn i
      have eo : l ||| lpS (nxU t) 0 i = nI (jl ||| jj) := by
        rw [ejl, ej]
        apply Int32.toBitVec_inj.mp
        apply BitVec.eq_of_toNat_eq
        have hb : jl ||| jj < 2 ^ 14 := Nat.or_lt_two_pow hjl hj
        have e1 : (nI jl).toBitVec.toNat = jl := pk_tn (by omega)
        have e2 : (nI jj).toBitVec.toNat = jj := pk_tn (by omega)
        have e3 : (nI (jl ||| jj)).toBitVec.toNat = jl ||| jj := pk_tn (by omega)
        rw [Int32.toBitVec_or, BitVec.toNat_or, e1, e2, e3]
      have hb : jl ||| jj < 16384 := Nat.or_lt_two_pow (n := 14) hjl hj
      have go : ∀ g', foH l t g0 (i + 1) = g' → E cx jX9_findOrder d a 82 [some (.ref o_thieves), some (.int t), some (.int l), some (.int (bcS t)), some (.int (lpS (nxU t) 0 i)), some (.int (nI i)), none, none] [] g' (RV (foR (foM h t) t (hI h o_wall 5) 14).2) := fun g' eg => by
        subst eg
        refine eX9_findOrder (e_eq (ih (i + 1) (by omega)) ?_ rfl rfl)
        rw [nI_succ]; rfl
      have no : ¬ foP l (foH l t g0 i) (lpS (nxU t) 0 i) → foH l t g0 (i + 1) = foH l t g0 i := fun z => by rw [foH_s]; unfold foB; rw [if_neg z]
      have yes : foP l (foH l t g0 i) (lpS (nxU t) 0 i) → E cx jX9_findOrder d a 71 [some (.ref o_thieves), some (.int t), some (.int l), some (.int (bcS t)), some (.int (lpS (nxU t) 0 i)), some (.int (nI i)), none, none] [] (foH l t g0 i) (RV (foR (foM h t) t (hI h o_wall 5) 14).2) := fun z => by
        refine eX9_findOrder (wcV0 (m_add_marked (by omega) eo hb) (go _ ?_))
        rw [foH_s]; unfold foB; rw [if_pos z, eo, nI_clamp (by omega)]
      refine eX9_findOrder (And.intro (fun q => absurd ((lt_clamp (by omega)).mpr (by omega)) (fun z => z q)) (fun _ => And.intro (fun z => yes (Or.inl z)) (fun z => wcV (m_has_lawful (by omega)) (And.intro (fun y => go _ (no (fun x => x.elim z (fun x => b2i_0.mp y x.1)))) (fun y => wcV (m_hasWithoutOne_marked (by omega)) (And.intro (fun x => go _ (no (fun w => w.elim z (fun w => b2i_0.mp x w.2)))) (fun x => yes (Or.inr ⟨b2i_n y, b2i_n x⟩))))))))
  refine sX9_findOrder rfl (wcS (m_setsOf (by omega)) (wcV0 m_clear_marked (wp_hp (g := g0) hg0.symm (e_eq (loop _ 0 (by rw [Nat.add_zero])) ?_ rfl rfl))))
  rw [hL]; rfl
/-! one by one -/
noncomputable def isF (h : Hp) : Hp := wI (clrM (flA (knw h 4)) o_stepsFound) o_thieves 9 0
noncomputable def isG (h : Hp) : Hp := ssA (isF h)
noncomputable def isD (h : Hp) : Hp := @ite _ (inSI (isF h) o_lawful_words (hI h o_wall 5)) (Classical.propDecidable _) (foR (foM (isG h) (hI (isG h) o_stepsFound 2)) (hI (isG h) o_stepsFound 2) (hI h o_wall 5) 14).2 (isF h)
noncomputable def isA (h : Hp) : Hp := @ite _ (hI h o_thieves 13 &&& 4 = 0) (Classical.propDecidable _) (isD h) (knw h 4)
theorem isF_I {o k : Nat} (n1 : o ≠ 91) (n2 : o ≠ 97) : hI (isF h) o k = hI h o k := by
  unfold isF; rw [rd_o n1, clrM_I n2, flA_I n1, knw_I (Or.inl n1)]
theorem ssA_I {o k : Nat} (ne : o ≠ 97) : hI (ssA h) o k = hI h o k := by unfold ssA; rw [ssH_I ne]; rfl
theorem m_inSteps (hd : 5 ≤ d) {m m2 n : Nat} (ec : setR h 22 (hI h o_wall 5) = nI m) (hm : m < 16384) (ew : hI h o_wall 5 = nI m2) (hm2 : m2 < 16384) (ek : inSI (isF h) o_lawful_words (hI h o_wall 5) → hI (isG h) o_stepsFound 2 = nI n ∧ n < 16384) : M cx jX9_inSteps d a [.ref o_thieves] h (RQ (.ref o_stepsFound) (isA h)) := by
  obtain ⟨f, hf⟩ : ∃ f, f = flA (knw h 4) := ⟨_, rfl⟩
  have hF : isF h = wI (clrM f o_stepsFound) o_thieves 9 0 := by unfold isF; rw [← hf]
  have fT : hI (isF h) o_wall 5 = hI h o_wall 5 := isF_I (by decide) (by decide)
  refine sX9_inSteps rfl (wcV m_isDue (And.intro (fun z => eX9_inSteps ⟨rfl, ?_⟩) (fun z => ?_)))
  · exact (if_neg (b2i_0.mp z)).symm
  · have fA : isA h = isD h := if_pos (b2i_n z)
    rw [fA]
    refine wcV0 (m_findLawful (h := knw h 4) (by omega) (by rw [knw_I (Or.inl (by decide)), setR_knw]; exact ec) hm) (wp_hp (g := f) hf.symm (wcV0 m_clear_stepsFound ?_)) (hok := Or.inr flA_N)
    have fT2 : hI (wI (clrM f o_stepsFound) o_thieves 9 0) o_wall 5 = hI h o_wall 5 := by rw [← hF]; exact fT
    have gT : hI (isG h) o_wall 5 = hI h o_wall 5 := by unfold isG; rw [ssA_I (by decide), fT]
    refine wcV (m_has_lawful (h := wI (clrM f o_stepsFound) o_thieves 9 0) (by omega)) (And.intro (fun y => eX9_inSteps ⟨rfl, ?_⟩) (fun y => ?_))
    · have y := b2i_0.mp y
      have y : ¬ inSI (isF h) o_lawful_words (hI h o_wall 5) := by rw [hF, ← fT2]; exact y
      unfold isD; rw [if_neg y, hF]
    · have y := b2i_n y
      have y : inSI (isF h) o_lawful_words (hI h o_wall 5) := by rw [hF, ← fT2]; exact y
      obtain ⟨e1, e2⟩ := ek y
      have eG : ssA (wI (clrM f o_stepsFound) o_thieves 9 0) = isG h := by unfold isG; rw [hF]
      refine wcV0 (m_findStepSets (h := wI (clrM f o_stepsFound) o_thieves 9 0) (by omega) (fT2.trans ew) hm2) (wp_hp (g := isG h) eG (wcV0 (m_findOrder (h := isG h) (by omega) e1 e2 (gT.trans ew) hm2) (eX9_inSteps ⟨rfl, ?_⟩) (hok := Or.inr (nx2 foR_2 |>.trans (nx3 (by unfold foM; rw [foH_2]; rfl)))))) (hok := Or.inr (nx3 (by unfold ssA; rw [ssH_2]; rfl)))
      unfold isD; rw [if_pos y, gT]; rfl
end T28
