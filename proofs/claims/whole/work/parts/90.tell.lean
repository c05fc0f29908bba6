/-! the tellers: what they hold of the sets offered; the model's folds -/
def mI (W : Int32 → Int32) (P : Int32 → Prop) (g : Hp) (o : Nat) : Prop := (hI g o 2 = -1 ∧ hI g o 0 = -1 ∧ hI g o 1 = -1 ∧ ∀ s, ¬ P s) ∨ ∃ b, hI g o 2 = b ∧ isBest W P b ∧ hI g o 0 = nI (sz b) ∧ hI g o 1 = W b
def fI (P : Int32 → Prop) (Cn : Nat → Nat) (g : Hp) (o : Nat) : Prop := (hI g o 1 = -1 ∧ hI g o 0 = -1 ∧ hI g o 2 = 0 ∧ ∀ s, ¬ P s) ∨ ∃ b, hI g o 1 = b ∧ isFew P b ∧ hI g o 0 = nI (sz b) ∧ hI g o 2 = nI (Cn (sz b))
section T90
variable {cx : Cx} {d a c : Nat} {h g f : Hp} {w : Wd}
theorem mI_onceFound {W : Int32 → Int32} {P R : Int32 → Prop} {s : Int32} (q : mI W P g o_onceFound) (ls : low 22 s) (ws : wtR g s 14 = W s) (hR : ∀ x, R x ↔ P x ∨ x = s) : mI W R (offM_onceFound g s) o_onceFound := by
  have hz := sz_le s
  have nb : bcw s = nI (sz s) := bcw_sz ls
  unfold offM_onceFound
  rw [nb, ws]
  have e3 : ∀ k v, k ≠ 3 → hI (wI g o_onceFound 3 v) o_onceFound k = hI g o_onceFound k := fun k v nk => rd_k nk
  rcases q with ⟨q1, q2, q3, q4⟩ | ⟨b, q1, q2, q3, q4⟩
  · rw [q2, if_neg (fun z => by have := Int32.lt_iff_toInt_lt.mp z; rw [nI_toInt (by omega)] at this; have e : (-1 : Int32).toInt = -1 := rfl; omega), if_pos (Or.inl (Int32.lt_iff_toInt_lt.mpr (by rw [nI_toInt (by omega)]; have e : (-1 : Int32).toInt = -1 := rfl; omega)))]
    refine Or.inr ⟨s, rd_same, best_first q4 hR, ?_, ?_⟩
    · rw [rd_k (by decide), rd_k (by decide), rd_same]
    · rw [rd_k (by decide), rd_same]
  · have hb := sz_le b
    rw [q3, q4, q1]
    by_cases c1 : nI (sz s) < nI (sz b)
    · rw [if_pos c1]
      have c1 := (nI_ltI (by omega) (by omega)).mp c1
      exact Or.inr ⟨b, by rw [e3 2 _ (by decide)]; exact q1, best_old q2 (fun z => by unfold btr at z; omega) hR, by rw [e3 0 _ (by decide)]; exact q3, by rw [e3 1 _ (by decide)]; exact q4⟩
    · rw [if_neg c1]
      have c1 : ¬ sz s < sz b := fun z => c1 (nI_lt z (by omega))
      by_cases c2 : nI (sz b) < nI (sz s) ∨ W b < W s ∨ (W s = W b ∧ s < b)
      · rw [if_pos c2]
        refine Or.inr ⟨s, rd_same, best_new q2 ?_ hR, ?_, ?_⟩
        · unfold btr
          rcases c2 with z | z | ⟨z1, z2⟩
          · have := (nI_ltI (by omega) (by omega)).mp z; omega
          · have := Int32.lt_iff_toInt_lt.mp z; omega
          · have := Int32.lt_iff_toInt_lt.mp z2; rw [z1]; omega
        · rw [rd_k (by decide), rd_k (by decide), rd_same]
        · rw [rd_k (by decide), rd_same]
      · rw [if_neg c2]
        refine Or.inr ⟨b, by rw [e3 2 _ (by decide)]; exact q1, best_old q2 (fun z => c2 ?_) hR, by rw [e3 0 _ (by decide)]; exact q3, by rw [e3 1 _ (by decide)]; exact q4⟩
        unfold btr at z
        rcases z with z | ⟨z1, z | ⟨z2, z3⟩⟩
        · exact Or.inl (nI_lt z (by omega))
        · exact Or.inr (Or.inl (Int32.lt_iff_toInt_lt.mpr z))
        · exact Or.inr (Or.inr ⟨i_ext z2.symm, Int32.lt_iff_toInt_lt.mpr z3⟩)
theorem mS_onceFound {s : Int32} : hI (offM_onceFound g s) o_onceFound 3 = hI g o_onceFound 3 + 1 := by
  unfold offM_onceFound
  split
  · exact rd_same
  · split
    · rw [rd_k (by decide), rd_k (by decide), rd_k (by decide), rd_same]
    · exact rd_same
theorem mI_stepsFound {W : Int32 → Int32} {P R : Int32 → Prop} {s : Int32} (q : mI W P g o_stepsFound) (ls : low 22 s) (ws : wtR g s 14 = W s) (hR : ∀ x, R x ↔ P x ∨ x = s) : mI W R (offM_stepsFound g s) o_stepsFound := by
  have hz := sz_le s
  have nb : bcw s = nI (sz s) := bcw_sz ls
  unfold offM_stepsFound
  rw [nb, ws]
  have e3 : ∀ k v, k ≠ 3 → hI (wI g o_stepsFound 3 v) o_stepsFound k = hI g o_stepsFound k := fun k v nk => rd_k nk
  rcases q with ⟨q1, q2, q3, q4⟩ | ⟨b, q1, q2, q3, q4⟩
  · rw [q2, if_neg (fun z => by have := Int32.lt_iff_toInt_lt.mp z; rw [nI_toInt (by omega)] at this; have e : (-1 : Int32).toInt = -1 := rfl; omega), if_pos (Or.inl (Int32.lt_iff_toInt_lt.mpr (by rw [nI_toInt (by omega)]; have e : (-1 : Int32).toInt = -1 := rfl; omega)))]
    refine Or.inr ⟨s, rd_same, best_first q4 hR, ?_, ?_⟩
    · rw [rd_k (by decide), rd_k (by decide), rd_same]
    · rw [rd_k (by decide), rd_same]
  · have hb := sz_le b
    rw [q3, q4, q1]
    by_cases c1 : nI (sz s) < nI (sz b)
    · rw [if_pos c1]
      have c1 := (nI_ltI (by omega) (by omega)).mp c1
      exact Or.inr ⟨b, by rw [e3 2 _ (by decide)]; exact q1, best_old q2 (fun z => by unfold btr at z; omega) hR, by rw [e3 0 _ (by decide)]; exact q3, by rw [e3 1 _ (by decide)]; exact q4⟩
    · rw [if_neg c1]
      have c1 : ¬ sz s < sz b := fun z => c1 (nI_lt z (by omega))
      by_cases c2 : nI (sz b) < nI (sz s) ∨ W b < W s ∨ (W s = W b ∧ s < b)
      · rw [if_pos c2]
        refine Or.inr ⟨s, rd_same, best_new q2 ?_ hR, ?_, ?_⟩
        · unfold btr
          rcases c2 with z | z | ⟨z1, z2⟩
          · have := (nI_ltI (by omega) (by omega)).mp z; omega
          · have := Int32.lt_iff_toInt_lt.mp z; omega
          · have := Int32.lt_iff_toInt_lt.mp z2; rw [z1]; omega
        · rw [rd_k (by decide), rd_k (by decide), rd_same]
        · rw [rd_k (by decide), rd_same]
      · rw [if_neg c2]
        refine Or.inr ⟨b, by rw [e3 2 _ (by decide)]; exact q1, best_old q2 (fun z => c2 ?_) hR, by rw [e3 0 _ (by decide)]; exact q3, by rw [e3 1 _ (by decide)]; exact q4⟩
        unfold btr at z
        rcases z with z | ⟨z1, z | ⟨z2, z3⟩⟩
        · exact Or.inl (nI_lt z (by omega))
        · exact Or.inr (Or.inl (Int32.lt_iff_toInt_lt.mpr z))
        · exact Or.inr (Or.inr ⟨i_ext z2.symm, Int32.lt_iff_toInt_lt.mpr z3⟩)
theorem mS_stepsFound {s : Int32} : hI (offM_stepsFound g s) o_stepsFound 3 = hI g o_stepsFound 3 + 1 := by
  unfold offM_stepsFound
  split
  · exact rd_same
  · split
    · rw [rd_k (by decide), rd_k (by decide), rd_k (by decide), rd_same]
    · exact rd_same
theorem fI_fellingFound {P R : Int32 → Prop} {Cn : Nat → Nat} {s : Int32} (q : fI P Cn g o_fellingFound) (ls : low 22 s) (hR : ∀ x, R x ↔ P x ∨ x = s) {Dn : Nat → Nat} (hD : ∀ z, Dn z = Cn z + (if sz s = z then 1 else 0)) (hC : (∀ x, ¬ P x) → ∀ z, Cn z = 0) (hC2 : ∀ b, isFew P b → ∀ z, z < sz b → Cn z = 0) : fI R Dn (offF_fellingFound g s) o_fellingFound := by
  have hz := sz_le s
  have nb : bcw s = nI (sz s) := bcw_sz ls
  unfold offF_fellingFound
  rw [nb]
  rcases q with ⟨q1, q2, q3, q4⟩ | ⟨b, q1, q2, q3, q4⟩
  · rw [q2, if_pos (Or.inl rfl)]
    refine Or.inr ⟨s, ?_, few_first q4 hR, ?_, ?_⟩
    · rw [rd_k (by decide), rd_same]
    · rw [rd_k (by decide), rd_k (by decide), rd_same]
    · rw [rd_same, hD, hC q4, if_pos rfl]; rfl
  · have hb := sz_le b
    rw [q3, q1]
    by_cases c1 : nI (sz b) = -1 ∨ nI (sz s) < nI (sz b)
    · rw [if_pos c1]
      have c1 := (nI_ltI (by omega) (by omega)).mp (c1.resolve_left (nI_m1 (by omega)))
      refine Or.inr ⟨s, ?_, few_new q2 (Or.inl c1) hR, ?_, ?_⟩
      · rw [rd_k (by decide), rd_same]
      · rw [rd_k (by decide), rd_k (by decide), rd_same]
      · rw [rd_same, hD, hC2 b q2 _ c1, if_pos rfl]; rfl
    · rw [if_neg c1]
      have c1 : ¬ sz s < sz b := fun z => c1 (Or.inr (nI_lt z (by omega)))
      by_cases c2 : nI (sz s) = nI (sz b)
      · rw [if_pos c2]
        have c2 := (nI_eq (by omega) (by omega)).mp c2
        have cn : hI (wI (wI g o_fellingFound 1 (if s < b then s else b)) o_fellingFound 2 (hI g o_fellingFound 2 + 1)) o_fellingFound 2 = nI (Dn (sz b)) := by rw [rd_same, q4, hD, if_pos c2, nI_succ]
        have c0 : hI (wI (wI g o_fellingFound 1 (if s < b then s else b)) o_fellingFound 2 (hI g o_fellingFound 2 + 1)) o_fellingFound 0 = nI (sz b) := by rw [rd_k (by decide), rd_k (by decide), q3]
        by_cases l : s < b
        · rw [if_pos l] at cn c0 ⊢
          refine Or.inr ⟨s, by rw [rd_k (by decide), rd_same], few_new q2 (Or.inr ⟨c2, Int32.lt_iff_toInt_lt.mp l⟩) hR, by rw [c2]; exact c0, by rw [c2]; exact cn⟩
        · rw [if_neg l] at cn c0 ⊢
          refine Or.inr ⟨b, by rw [rd_k (by decide), rd_same], few_old q2 (fun z => ?_) hR, c0, cn⟩
          rcases z with z | ⟨z, z2⟩
          · omega
          · exact l (Int32.lt_iff_toInt_lt.mpr z2)
      · rw [if_neg c2]
        have c2 : ¬ sz s = sz b := fun z => c2 (by rw [z])
        refine Or.inr ⟨b, q1, few_old q2 (fun z => ?_) hR, q3, ?_⟩
        · rcases z with z | ⟨z, z2⟩ <;> omega
        · rw [q4, hD, if_neg c2]; rfl
theorem fI_mendingFound {P R : Int32 → Prop} {Cn : Nat → Nat} {s : Int32} (q : fI P Cn g o_mendingFound) (ls : low 22 s) (hR : ∀ x, R x ↔ P x ∨ x = s) {Dn : Nat → Nat} (hD : ∀ z, Dn z = Cn z + (if sz s = z then 1 else 0)) (hC : (∀ x, ¬ P x) → ∀ z, Cn z = 0) (hC2 : ∀ b, isFew P b → ∀ z, z < sz b → Cn z = 0) : fI R Dn (offF_mendingFound g s) o_mendingFound := by
  have hz := sz_le s
  have nb : bcw s = nI (sz s) := bcw_sz ls
  unfold offF_mendingFound
  rw [nb]
  rcases q with ⟨q1, q2, q3, q4⟩ | ⟨b, q1, q2, q3, q4⟩
  · rw [q2, if_pos (Or.inl rfl)]
    refine Or.inr ⟨s, ?_, few_first q4 hR, ?_, ?_⟩
    · rw [rd_k (by decide), rd_same]
    · rw [rd_k (by decide), rd_k (by decide), rd_same]
    · rw [rd_same, hD, hC q4, if_pos rfl]; rfl
  · have hb := sz_le b
    rw [q3, q1]
    by_cases c1 : nI (sz b) = -1 ∨ nI (sz s) < nI (sz b)
    · rw [if_pos c1]
      have c1 := (nI_ltI (by omega) (by omega)).mp (c1.resolve_left (nI_m1 (by omega)))
      refine Or.inr ⟨s, ?_, few_new q2 (Or.inl c1) hR, ?_, ?_⟩
      · rw [rd_k (by decide), rd_same]
      · rw [rd_k (by decide), rd_k (by decide), rd_same]
      · rw [rd_same, hD, hC2 b q2 _ c1, if_pos rfl]; rfl
    · rw [if_neg c1]
      have c1 : ¬ sz s < sz b := fun z => c1 (Or.inr (nI_lt z (by omega)))
      by_cases c2 : nI (sz s) = nI (sz b)
      · rw [if_pos c2]
        have c2 := (nI_eq (by omega) (by omega)).mp c2
        have cn : hI (wI (wI g o_mendingFound 1 (if s < b then s else b)) o_mendingFound 2 (hI g o_mendingFound 2 + 1)) o_mendingFound 2 = nI (Dn (sz b)) := by rw [rd_same, q4, hD, if_pos c2, nI_succ]
        have c0 : hI (wI (wI g o_mendingFound 1 (if s < b then s else b)) o_mendingFound 2 (hI g o_mendingFound 2 + 1)) o_mendingFound 0 = nI (sz b) := by rw [rd_k (by decide), rd_k (by decide), q3]
        by_cases l : s < b
        · rw [if_pos l] at cn c0 ⊢
          refine Or.inr ⟨s, by rw [rd_k (by decide), rd_same], few_new q2 (Or.inr ⟨c2, Int32.lt_iff_toInt_lt.mp l⟩) hR, by rw [c2]; exact c0, by rw [c2]; exact cn⟩
        · rw [if_neg l] at cn c0 ⊢
          refine Or.inr ⟨b, by rw [rd_k (by decide), rd_same], few_old q2 (fun z => ?_) hR, c0, cn⟩
          rcases z with z | ⟨z, z2⟩
          · omega
          · exact l (Int32.lt_iff_toInt_lt.mpr z2)
      · rw [if_neg c2]
        have c2 : ¬ sz s = sz b := fun z => c2 (by rw [z])
        refine Or.inr ⟨b, q1, few_old q2 (fun z => ?_) hR, q3, ?_⟩
        · rcases z with z | ⟨z, z2⟩ <;> omega
        · rw [q4, hD, if_neg c2]; rfl
/-- the model's best -/
theorem tmF_cnt {n : Nat} {P : Nat → Prop} : ∀ N, (tmF w n P N).2 = nI (cnt P N) := by
  intro N
  induction N with
  | zero => rfl
  | succ N ih =>
    by_cases p : P N
    · by_cases z : (tmF w n P N).1 = -1 ∨ mBt w n (nI N) (tmF w n P N).1
      · rw [tmF_new p z, cnt_t p, nI_succ, ih]
      · rw [tmF_old p z, cnt_t p, nI_succ, ih]
    · rw [tmF_no p, cnt_f p, ih]
theorem tmF_best {n : Nat} {P : Nat → Prop} : ∀ N, N ≤ 16384 → ((tmF w n P N).1 = -1 ∧ ∀ k, k < N → ¬ P k) ∨ isBest (fun s => nwt w s n) (fun s => ∃ k, k < N ∧ P k ∧ s = nI k) (tmF w n P N).1 := by
  intro N
  induction N with
  | zero => intro _; exact Or.inl ⟨rfl, fun k hk => absurd hk (Nat.not_lt_zero _)⟩
  | succ N ih =>
    intro hN
    have hR : ∀ x, (∃ k, k < N + 1 ∧ P k ∧ x = nI k) ↔ (∃ k, k < N ∧ P k ∧ x = nI k) ∨ (P N ∧ x = nI N) := fun x => by
      constructor
      · rintro ⟨k, hk, p, e⟩
        by_cases ek : k = N
        · subst ek; exact Or.inr ⟨p, e⟩
        · exact Or.inl ⟨k, by omega, p, e⟩
      · rintro (⟨k, hk, p, e⟩ | ⟨p, e⟩)
        · exact ⟨k, by omega, p, e⟩
        · exact ⟨N, by omega, p, e⟩
    by_cases p : P N
    · have hR2 : ∀ x, (∃ k, k < N + 1 ∧ P k ∧ x = nI k) ↔ (∃ k, k < N ∧ P k ∧ x = nI k) ∨ x = nI N := fun x => by rw [hR x]; simp [p]
      rcases ih (by omega) with ⟨e, no⟩ | b
      · rw [tmF_new p (Or.inl e)]
        exact Or.inr (best_first (fun x ⟨k, hk, pk, _⟩ => no k hk pk) hR2)
      · obtain ⟨k, hk, pk, ek⟩ := b.1
        have hb := sz_le (tmF w n P N).1
        have hs := sz_le (nI N)
        have key : mBt w n (nI N) (tmF w n P N).1 ↔ btr (fun s => nwt w s n) (nI N) (tmF w n P N).1 := by
          unfold mBt btr
          rw [ones_sz, ones_sz]
          have l : ¬ (nI N).toInt < (tmF w n P N).1.toInt := by rw [ek, nI_toInt (by omega), nI_toInt (by omega)]; omega
          constructor
          · rintro (z | ⟨z1, z2⟩)
            · exact Or.inl ((nI_ltI (by omega) (by omega)).mp z)
            · exact Or.inr ⟨((nI_eq (by omega) (by omega)).mp z1).symm, Or.inl (Int32.lt_iff_toInt_lt.mp z2)⟩
          · rintro (z | ⟨z1, z2 | ⟨_, z3⟩⟩)
            · exact Or.inl (nI_lt z (by omega))
            · exact Or.inr ⟨by rw [z1], Int32.lt_iff_toInt_lt.mpr z2⟩
            · exact absurd z3 l
        have ne : ¬ (tmF w n P N).1 = -1 := by rw [ek]; exact nI_m1 (by omega)
        by_cases z : mBt w n (nI N) (tmF w n P N).1
        · rw [tmF_new p (Or.inr z)]
          exact Or.inr (best_new b (key.mp z) hR2)
        · rw [tmF_old p (fun y => y.elim ne z)]
          exact Or.inr (best_old b (fun y => z (key.mpr y)) hR2)
    · rw [tmF_no p]
      rcases ih (by omega) with ⟨e, no⟩ | b
      · refine Or.inl ⟨e, fun k hk => ?_⟩
        by_cases ek : k = N
        · rw [ek]; exact p
        · exact no k (by omega)
      · exact Or.inr (best_cg b fun x => by rw [hR x]; simp [p])
/-- the model's fewest -/
theorem fewF_few {P : Nat → Prop} : ∀ N, N ≤ 16384 → ((fewF P N).1 = -1 ∧ (fewF P N).2 = 0 ∧ ∀ k, k < N → ¬ P k) ∨ (isFew (fun s => ∃ k, k < N ∧ P k ∧ s = nI k) (fewF P N).1 ∧ (fewF P N).2 = nI (cnt (fun k => P k ∧ sz (nI k) = sz (fewF P N).1) N)) := by
  intro N
  induction N with
  | zero => intro _; exact Or.inl ⟨rfl, rfl, fun k hk => absurd hk (Nat.not_lt_zero _)⟩
  | succ N ih =>
    intro hN
    have hR : ∀ x, (∃ k, k < N + 1 ∧ P k ∧ x = nI k) ↔ (∃ k, k < N ∧ P k ∧ x = nI k) ∨ (P N ∧ x = nI N) := fun x => by
      constructor
      · rintro ⟨k, hk, p, e⟩
        by_cases ek : k = N
        · subst ek; exact Or.inr ⟨p, e⟩
        · exact Or.inl ⟨k, by omega, p, e⟩
      · rintro (⟨k, hk, p, e⟩ | ⟨p, e⟩)
        · exact ⟨k, by omega, p, e⟩
        · exact ⟨N, by omega, p, e⟩
    have zero : ∀ (Q : Nat → Prop) (M : Nat), (∀ k, k < M → ¬ Q k) → cnt Q M = 0 := fun Q M => by
      induction M with
      | zero => intro _; rfl
      | succ M im => intro z; rw [cnt_f (z M (by omega))]; exact im fun k hk => z k (by omega)
    by_cases p : P N
    · have hR2 : ∀ x, (∃ k, k < N + 1 ∧ P k ∧ x = nI k) ↔ (∃ k, k < N ∧ P k ∧ x = nI k) ∨ x = nI N := fun x => by rw [hR x]; simp [p]
      rw [fewF_yes p]
      rcases ih (by omega) with ⟨e, e2, no⟩ | ⟨b, e2⟩
      · rw [if_pos e]
        refine Or.inr ⟨few_first (fun x ⟨k, hk, pk, _⟩ => no k hk pk) hR2, ?_⟩
        rw [cnt_t (P := fun k => P k ∧ sz (nI k) = sz (nI N)) ⟨p, rfl⟩, zero _ N fun k hk z => no k hk z.1]; rfl
      · obtain ⟨k, hk, pk, ek⟩ := b.1
        have hb := sz_le (fewF P N).1
        have hs := sz_le (nI N)
        have ne : ¬ (fewF P N).1 = -1 := by rw [ek]; exact nI_m1 (by omega)
        have l : (fewF P N).1.toInt < (nI N).toInt := by rw [ek, nI_toInt (by omega), nI_toInt (by omega)]; omega
        rw [if_neg ne, ones_sz, ones_sz]
        by_cases c1 : sz (fewF P N).1 < sz (nI N)
        · rw [if_pos (nI_lt c1 (by omega))]
          refine Or.inr ⟨few_old b (fun z => by unfold fwr at z; omega) hR2, ?_⟩
          rw [cnt_f (P := fun k => P k ∧ sz (nI k) = sz (fewF P N).1) (fun z => by have := z.2; omega)]; exact e2
        · rw [if_neg (fun z => c1 ((nI_ltI (by omega) (by omega)).mp z))]
          by_cases c2 : sz (nI N) < sz (fewF P N).1
          · rw [if_pos (nI_lt c2 (by omega))]
            refine Or.inr ⟨few_new b (Or.inl c2) hR2, ?_⟩
            rw [cnt_t (P := fun k => P k ∧ sz (nI k) = sz (nI N)) ⟨p, rfl⟩, zero _ N fun k hk z => ?_]
            · rfl
            · by_cases eb : nI k = (fewF P N).1
              · rw [eb] at z; omega
              · have := b.2 (nI k) ⟨k, hk, z.1, rfl⟩ eb
                unfold fwr at this; omega
          · rw [if_neg (fun z => c2 ((nI_ltI (by omega) (by omega)).mp z))]
            have fo : isFew (fun s => ∃ k, k < N + 1 ∧ P k ∧ s = nI k) (fewF P N).1 := few_old b (fun z => by unfold fwr at z; omega) hR2
            refine Or.inr ⟨fo, ?_⟩
            show (fewF P N).2 + 1 = nI (cnt (fun k => P k ∧ sz (nI k) = sz (fewF P N).1) (N + 1))
            rw [cnt_t (P := fun k => P k ∧ sz (nI k) = sz (fewF P N).1) ⟨p, by omega⟩, nI_succ, e2]
    · rw [fewF_no p]
      rcases ih (by omega) with ⟨e, e2, no⟩ | ⟨b, e2⟩
      · refine Or.inl ⟨e, e2, fun k hk => ?_⟩
        by_cases ek : k = N
        · rw [ek]; exact p
        · exact no k (by omega)
      · refine Or.inr ⟨few_cg b fun x => by rw [hR x]; simp [p], ?_⟩
        rw [cnt_f (P := fun k => P k ∧ sz (nI k) = sz (fewF P N).1) (fun z => p z.1)]; exact e2
end T90
