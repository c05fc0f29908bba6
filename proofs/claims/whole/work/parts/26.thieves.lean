/-! searches over sets, as heaps made step by step -/
section T26
variable {cx : Cx} {d a : Nat} {h g : Hp}
def lpS (nx : Int32 → Int32) (s0 : Int32) : Nat → Int32
  | 0 => s0
  | i + 1 => nx (lpS nx s0 i)
def lpH (B : Hp → Int32 → Hp) (S : Nat → Int32) (g : Hp) : Nat → Hp
  | 0 => g
  | i + 1 => B (lpH B S g i) (S i)
theorem lt_clamp {m : Int32} {k : Nat} (hk : k < 2 ^ 31) : ¬ m ≤ nI k ↔ k < m.toNatClampNeg := by
  rw [Int32.le_iff_toInt_le, nI_toInt hk]
  have : m.toNatClampNeg = m.toInt.toNat := rfl
  rw [this]
  omega
theorem clamp_lt (m : Int32) : m.toNatClampNeg < 2 ^ 31 := by
  have : m.toNatClampNeg = m.toInt.toNat := rfl
  rw [this]
  have := m.toInt_lt
  omega
/-- a part of a small set is small -/
theorem and_nI (x : Int32) {m : Nat} (hm : m < 16384) : ∃ j, j < 16384 ∧ x &&& nI m = nI j := by
  refine ⟨x.toBitVec.toNat &&& m, Nat.lt_of_le_of_lt Nat.and_le_right hm, ?_⟩
  apply Int32.toBitVec_inj.mp
  rw [Int32.toBitVec_and]
  apply BitVec.eq_of_toNat_eq
  rw [BitVec.toNat_and]
  have e1 : (nI m).toBitVec.toNat = m := pk_tn (by omega)
  have e2 : (nI (x.toBitVec.toNat &&& m)).toBitVec.toNat = x.toBitVec.toNat &&& m := pk_tn (by have : x.toBitVec.toNat &&& m ≤ m := Nat.and_le_right; omega)
  rw [e1, e2]
def nxU (c : Int32) : Int32 → Int32 := fun s => (s - c) &&& c
theorem lpU_nI {c : Int32} {m : Nat} (ec : c = nI m) (hm : m < 16384) : ∀ i, ∃ j, j < 16384 ∧ lpS (nxU c) 0 i = nI j := by
  intro i
  cases i with
  | zero => exact ⟨0, by decide, rfl⟩
  | succ i => rw [lpS, nxU, ec]; exact and_nI _ hm
noncomputable def bcS (v : Int32) : Int32 := (1 : Int32) <<< ((if bcw v < 14 then bcw v else 14) &&& 31)
theorem m_setsOf (hd : 1 ≤ d) {v : Int32} : M cx jX9_setsOf d a [.int v] h (RQ (.int (bcS v)) h) := sX9_setsOf rfl (wcS m_bitCount (And.intro ⟨Nat.le_of_ble_eq_true rfl, by omega⟩ ⟨rfl, rfl⟩))
theorem m_forget : M cx jX9_forget d a [.ref o_thieves] h (RV (wI h o_thieves 13 0)) := sX9_forget rfl ⟨rfl, rfl⟩
theorem m_isDue {k : Int32} : M cx jX9_isDue d a [.ref o_thieves, .int k] h (RQ (.int (b2i (hI h o_thieves 13 &&& k = 0))) (wI h o_thieves 13 (hI h o_thieves 13 ||| k))) := by
  have fin : ∀ w, w = b2i (hI h o_thieves 13 &&& k = 0) → E cx jX9_isDue d a 14 [some (.ref o_thieves), some (.int k), none] [.int w] h (RQ (.int (b2i (hI h o_thieves 13 &&& k = 0))) (wI h o_thieves 13 (hI h o_thieves 13 ||| k))) := fun w ew => by
    refine eX9_isDue (And.intro ?_ (RQ_eq ew))
    rw [ew]; exact b2i_B
  exact sX9_isDue rfl (And.intro (fun q => eX9_isDue (fin 0 (b2i_f q).symm)) (fun q => fin 1 (b2i_t q).symm))
theorem hI_addS {o k p q : Nat} : hI (addS g o k) p q = hI g p q := rfl
/-! all lawful sets -/
noncomputable def flB (h g : Hp) (s : Int32) : Hp := @ite _ (lawfulS h s) (Classical.propDecidable _) (addS g o_lawful_words s.toNatClampNeg) g
noncomputable def flH (h : Hp) (c : Int32) (g : Hp) (n : Nat) : Hp := lpH (flB h) (lpS (nxU c) 0) g n
theorem flH_I {c : Int32} {n o k : Nat} : hI (flH h c g n) o k = hI g o k := by
  induction n with
  | zero => rfl
  | succ n ih =>
    have : flH h c g (n + 1) = flB h (flH h c g n) (lpS (nxU c) 0 n) := rfl
    rw [this]; unfold flB; split
    · exact ih
    · exact ih
theorem flH_2 {c : Int32} {n : Nat} : (flH h c g n).2.2 = g.2.2 := by
  induction n with
  | zero => rfl
  | succ n ih =>
    have : flH h c g (n + 1) = flB h (flH h c g n) (lpS (nxU c) 0 n) := rfl
    rw [this]; unfold flB; split
    · exact ih
    · exact ih
/-- what findLawful leaves, when it is due -/
noncomputable def flD (h : Hp) : Hp := flH h (setR h 22 (hI h o_wall 5)) (clrJ (wI (wI h o_thieves 13 (hI h o_thieves 13 ||| 1)) o_thieves 12 (setR h 22 (hI h o_wall 5))) o_lawful_words 256) (bcS (setR h 22 (hI h o_wall 5))).toNatClampNeg
noncomputable def flA (h : Hp) : Hp := @ite _ (hI h o_thieves 13 &&& 1 = 0) (Classical.propDecidable _) (flD h) (wI h o_thieves 13 (hI h o_thieves 13 ||| 1))
theorem m_findLawful (hd : 4 ≤ d) {m : Nat} (ec : setR h 22 (hI h o_wall 5) = nI m) (hm : m < 16384) : M cx jX9_findLawful d a [.ref o_thieves] h (RV (flA h)) := by
  obtain ⟨c, hc⟩ : ∃ c, c = setR h 22 (hI h o_wall 5) := ⟨_, rfl⟩
  obtain ⟨g0, hg0⟩ : ∃ g0, g0 = clrJ (wI (wI h o_thieves 13 (hI h o_thieves 13 ||| 1)) o_thieves 12 c) o_lawful_words 256 := ⟨_, rfl⟩
  have i0 : ∀ o k, o ≠ 91 → hI g0 o k = hI h o k := fun o k n => by
    rw [hg0]; show hI (wI (wI h o_thieves 13 (hI h o_thieves 13 ||| 1)) o_thieves 12 c) o k = _
    rw [rd_o n, rd_o n]
  have ic : hI g0 o_thieves 12 = c := by rw [hg0]; show hI (wI (wI h o_thieves 13 (hI h o_thieves 13 ||| 1)) o_thieves 12 c) o_thieves 12 = c; exact rd_same
  have fD : flD h = flH h c g0 (bcS c).toNatClampNeg := by unfold flD; rw [← hc, ← hg0]
  have hl := clamp_lt (bcS c)
  have loop : ∀ n i, n + i = (bcS c).toNatClampNeg → E cx jX9_findLawful d a 46 [some (.ref o_thieves), some (.int (bcS c)), some (.int (lpS (nxU c) 0 i)), some (.int (nI i))] [] (flH h c g0 i) (RV (flD h)) := by
    intro n
    induction n with
    | zero =>
      intro i hi
      refine eX9_findLawful (And.intro (fun _ => eX9_findLawful ⟨rfl, ?_⟩) (fun q => absurd ((lt_clamp (by omega)).mp q) (by omega)))
      rw [fD, ← hi]; simp
    | succ n ih =>
      intro i hi
      have eI : ∀ o k, o ≠ 91 → hI (flH h c g0 i) o k = hI h o k := fun o k n => by rw [flH_I, i0 o k n]
      have lw : lawfulS (flH h c g0 i) (lpS (nxU c) 0 i) ↔ lawfulS h (lpS (nxU c) 0 i) := lawfulS_cong (fun k => eI _ k (by decide)) (fun k => eI _ k (by decide))
      have eC : hI (flH h c g0 i) o_thieves 12 = c := by rw [flH_I, ic]
      obtain ⟨jj, hj, ej⟩ := lpU_nI (hc.trans ec) hm i
      have go : ∀ g', flH h c g0 (i + 1) = g' → hI g' o_thieves 12 = c → E cx jX9_findLawful d a 70 [some (.ref o_thieves), some (.int (bcS c)), some (.int (lpS (nxU c) 0 i)), some (.int (nI i))] [] g' (RV (flD h)) := fun g' eg e12 => by
        subst eg
        refine eX9_findLawful (e_eq (ih (i + 1) (by omega)) ?_ rfl rfl)
        rw [nI_succ, e12]; rfl
      have e1 : flH h c g0 (i + 1) = flB h (flH h c g0 i) (lpS (nxU c) 0 i) := rfl
      refine eX9_findLawful (And.intro (fun q => absurd ((lt_clamp (by omega)).mpr (by omega)) (fun z => z q)) (fun _ => wcV (m_isLawful (by omega)) (And.intro (fun z => go _ ?_ eC) (fun z => wcV0 (m_add_lawful (by omega) ej hj) (go _ ?_ eC)))))
      · rw [e1]; unfold flB; rw [if_neg (fun y => b2i_0.mp z (lw.mpr y))]
      · rw [e1]; unfold flB; rw [if_pos (lw.mp (b2i_n z)), ej, nI_clamp (by omega)]
  refine sX9_findLawful rfl (wcV m_isDue (And.intro (fun z => eX9_findLawful ?_) (fun z => ⟨rfl, ?_⟩)))
  · have due : hI h o_thieves 13 &&& 1 = 0 := b2i_n z
    have fA : flA h = flD h := if_pos due
    rw [fA]
    have es : setR (wI h o_thieves 13 (hI h o_thieves 13 ||| 1)) 22 (hI (wI h o_thieves 13 (hI h o_thieves 13 ||| 1)) o_wall 5) = c := by
      rw [rd_o (by decide), setR_cong (fun k => rd_o (by decide)) (fun k => rd_o (by decide)), hc]
    refine wcV (m_settled (by omega)) (wp_top (v' := .int c) (congrArg Value.int es) (wcV0 m_clear_lawful (wp_hp (g := g0) hg0.symm (wcS (m_setsOf (by omega)) ?_))))
    refine e_eq (loop _ 0 (by rw [Nat.add_zero])) ?_ rfl rfl
    rw [ic]; rfl
  · have due : ¬ hI h o_thieves 13 &&& 1 = 0 := b2i_0.mp z
    exact (if_neg due).symm
/-! what the tellers change -/
theorem offM_once_I {s : Int32} {o k : Nat} (n : o ≠ 96) : hI (offM_onceFound g s) o k = hI g o k := by
  unfold offM_onceFound; split
  · exact rd_o n
  split
  · rw [rd_o n, rd_o n, rd_o n, rd_o n]
  · exact rd_o n
theorem offM_once_2 {s : Int32} : (offM_onceFound g s).2 = g.2 := by
  unfold offM_onceFound; split
  · rfl
  split <;> rfl
theorem offM_steps_I {s : Int32} {o k : Nat} (n : o ≠ 97) : hI (offM_stepsFound g s) o k = hI g o k := by
  unfold offM_stepsFound; split
  · exact rd_o n
  split
  · rw [rd_o n, rd_o n, rd_o n, rd_o n]
  · exact rd_o n
theorem offM_steps_2 {s : Int32} : (offM_stepsFound g s).2 = g.2 := by
  unfold offM_stepsFound; split
  · rfl
  split <;> rfl
theorem offF_fell_I {s : Int32} {o k : Nat} (n : o ≠ 98) : hI (offF_fellingFound g s) o k = hI g o k := by
  unfold offF_fellingFound; split
  · rw [rd_o n, rd_o n, rd_o n]
  split
  · rw [rd_o n, rd_o n]
  · rfl
theorem offF_fell_2 {s : Int32} : (offF_fellingFound g s).2 = g.2 := by
  unfold offF_fellingFound; split
  · rfl
  split <;> rfl
theorem offF_mend_I {s : Int32} {o k : Nat} (n : o ≠ 99) : hI (offF_mendingFound g s) o k = hI g o k := by
  unfold offF_mendingFound; split
  · rw [rd_o n, rd_o n, rd_o n]
  split
  · rw [rd_o n, rd_o n]
  · rfl
theorem offF_mend_2 {s : Int32} : (offF_mendingFound g s).2 = g.2 := by
  unfold offF_mendingFound; split
  · rfl
  split <;> rfl
theorem flD_I {o k : Nat} (n : o ≠ 91) : hI (flD h) o k = hI h o k := by
  unfold flD; rw [flH_I]
  show hI (wI (wI h o_thieves 13 _) o_thieves 12 _) o k = _
  rw [rd_o n, rd_o n]
theorem flA_I {o k : Nat} (n : o ≠ 91) : hI (flA h) o k = hI h o k := by
  unfold flA; split
  · exact flD_I n
  · exact rd_o n
theorem flA_2 : (flA h).2.2 = h.2.2 := by
  unfold flA; split
  · unfold flD; rw [flH_2]; rfl
  · rfl
theorem flA_N : hN (flA h) = hN h := congrArg (fun z => z.2.2) flA_2
/-! at once -/
noncomputable def aoB (t : Int32) (g : Hp) (s : Int32) : Hp := @ite _ (inSI g o_lawful_words s) (Classical.propDecidable _) (offM_onceFound g (t &&& (s ^^^ -1))) g
noncomputable def aoH (t c : Int32) (g : Hp) (n : Nat) : Hp := lpH (aoB t) (lpS (nxU c) 0) g n
theorem aoH_I {t c : Int32} {n o k : Nat} (ne : o ≠ 96) : hI (aoH t c g n) o k = hI g o k := by
  induction n with
  | zero => rfl
  | succ n ih =>
    have : aoH t c g (n + 1) = aoB t (aoH t c g n) (lpS (nxU c) 0 n) := rfl
    rw [this]; unfold aoB; split
    · rw [offM_once_I ne, ih]
    · exact ih
theorem aoH_2 {t c : Int32} {n : Nat} : (aoH t c g n).2 = g.2 := by
  induction n with
  | zero => rfl
  | succ n ih =>
    have : aoH t c g (n + 1) = aoB t (aoH t c g n) (lpS (nxU c) 0 n) := rfl
    rw [this]; unfold aoB; split
    · rw [offM_once_2, ih]
    · exact ih
def clrM (g : Hp) (o : Nat) : Hp := wI (wI (wI (wI g o 0 (-1)) o 1 (-1)) o 2 (-1)) o 3 0
def clrF (g : Hp) (o : Nat) : Hp := wI (wI (wI g o 0 (-1)) o 1 (-1)) o 2 0
theorem clrM_I {o p k : Nat} (n : p ≠ o) : hI (clrM g o) p k = hI g p k := by unfold clrM; rw [rd_o n, rd_o n, rd_o n, rd_o n]
theorem clrF_I {o p k : Nat} (n : p ≠ o) : hI (clrF g o) p k = hI g p k := by unfold clrF; rw [rd_o n, rd_o n, rd_o n]
/-- marked as made -/
def knw (h : Hp) (k : Int32) : Hp := wI h o_thieves 13 (hI h o_thieves 13 ||| k)
theorem knw_I {k : Int32} {o q : Nat} (n : o ≠ 91 ∨ q ≠ 13) : hI (knw h k) o q = hI h o q := by
  unfold knw; rcases n with n | n
  · exact rd_o n
  · exact rd_k n
noncomputable def aoD (h : Hp) : Hp := aoH (hI h o_wall 5) (hI (flA (knw h 2)) o_thieves 12) (clrM (flA (knw h 2)) o_onceFound) (bcS (hI (flA (knw h 2)) o_thieves 12)).toNatClampNeg
noncomputable def aoA (h : Hp) : Hp := @ite _ (hI h o_thieves 13 &&& 2 = 0) (Classical.propDecidable _) (aoD h) (knw h 2)
theorem setR_knw {k : Int32} {n : Nat} {s : Int32} : setR (knw h k) n s = setR h n s := setR_cong (fun _ => knw_I (Or.inl (by decide))) (fun _ => knw_I (Or.inl (by decide))) n s
theorem m_atOnce (hd : 5 ≤ d) {m : Nat} (ec : setR h 22 (hI h o_wall 5) = nI m) (hm : m < 16384) : M cx jX9_atOnce d a [.ref o_thieves] h (RQ (.ref o_onceFound) (aoA h)) := by
  obtain ⟨f, hf⟩ : ∃ f, f = flA (knw h 2) := ⟨_, rfl⟩
  obtain ⟨c, hc⟩ : ∃ c, c = hI f o_thieves 12 := ⟨_, rfl⟩
  obtain ⟨g0, hg0⟩ : ∃ g0, g0 = clrM f o_onceFound := ⟨_, rfl⟩
  have i0 : ∀ o k, o ≠ 96 → hI g0 o k = hI f o k := fun o k n => by rw [hg0]; exact clrM_I n
  have fT : hI f o_wall 5 = hI h o_wall 5 := by rw [hf, flA_I (by decide), knw_I (Or.inl (by decide))]
  have fD : aoD h = aoH (hI h o_wall 5) c g0 (bcS c).toNatClampNeg := by unfold aoD; rw [← hf, ← hc, ← hg0]
  have hl := clamp_lt (bcS c)
  have loop : ∀ n i, n + i = (bcS c).toNatClampNeg → E cx jX9_atOnce d a 31 [some (.ref o_thieves), some (.int (bcS c)), some (.int (lpS (nxU c) 0 i)), some (.int (nI i))] [] (aoH (hI h o_wall 5) c g0 i) (RQ (.ref o_onceFound) (aoD h)) := by
    intro n
    induction n with
    | zero =>
      intro i hi
      refine eX9_atOnce (And.intro (fun _ => eX9_atOnce ⟨rfl, ?_⟩) (fun q => absurd ((lt_clamp (by omega)).mp q) (by omega)))
      rw [fD, ← hi]; simp
    | succ n ih =>
      intro i hi
      have eC : hI (aoH (hI h o_wall 5) c g0 i) o_thieves 12 = c := by rw [aoH_I (by decide), i0 _ _ (by decide), hc]
      have eT : hI (aoH (hI h o_wall 5) c g0 i) o_wall 5 = hI h o_wall 5 := by rw [aoH_I (by decide), i0 _ _ (by decide), fT]
      have go : ∀ g', aoH (hI h o_wall 5) c g0 (i + 1) = g' → E cx jX9_atOnce d a 69 [some (.ref o_thieves), some (.int (bcS c)), some (.int (lpS (nxU c) 0 i)), some (.int (nI i))] [] g' (RQ (.ref o_onceFound) (aoD h)) := fun g' eg => by
        have e12 : hI g' o_thieves 12 = c := by rw [← eg, aoH_I (by decide), i0 _ _ (by decide), hc]
        subst eg
        refine eX9_atOnce (e_eq (ih (i + 1) (by omega)) ?_ rfl rfl)
        rw [nI_succ, e12]; rfl
      have e1 : aoH (hI h o_wall 5) c g0 (i + 1) = aoB (hI h o_wall 5) (aoH (hI h o_wall 5) c g0 i) (lpS (nxU c) 0 i) := rfl
      refine eX9_atOnce (And.intro (fun q => absurd ((lt_clamp (by omega)).mpr (by omega)) (fun z => z q)) (fun _ => wcV (m_has_lawful (by omega)) (And.intro (fun z => go _ ?_) (fun z => wcV0 (m_offer_onceFound (by omega)) (go _ ?_) (hok := Or.inr (congrArg (fun z => z.2.2.2) offM_once_2))))))
      · rw [e1]; unfold aoB; rw [if_neg (b2i_0.mp z)]
      · rw [e1]; unfold aoB; rw [if_pos (b2i_n z)]
        show _ = offM_onceFound _ (hI (aoH (hI h o_wall 5) c g0 i) o_wall 5 &&& _)
        rw [eT]
  refine sX9_atOnce rfl (wcV m_isDue (And.intro (fun z => eX9_atOnce ⟨rfl, ?_⟩) (fun z => ?_)))
  · exact (if_neg (b2i_0.mp z)).symm
  · have fA : aoA h = aoD h := if_pos (b2i_n z)
    rw [fA]
    refine wcV0 (m_findLawful (h := knw h 2) (by omega) (by rw [knw_I (Or.inl (by decide)), setR_knw]; exact ec) hm) (wp_hp (g := f) hf.symm (wcV0 m_clear_onceFound (wp_hp (g := g0) hg0.symm (wcS (m_setsOf (by omega)) ?_)))) (hok := Or.inr flA_N)
    refine e_eq (loop _ 0 (by rw [Nat.add_zero])) ?_ rfl rfl
    rw [i0 _ _ (by decide), ← hc]; rfl
end T26
