/-! the start: both sides stand for the empty wall -/
def A0 : Ab := fun i k => if i = 0 then kpt0 k else if i = 5 ∧ k = 1 then -1 else 0
theorem a0_0 : A0 0 = kpt0 := rfl
theorem a0_w : wfW kpt0 := by
  have no : ∀ i, i < 22 → ¬ cItem kpt0 i := by
    intro i hi q
    rcases q with ⟨_, q1, q2⟩ | ⟨_, q⟩
    · have e : kpt0 157 - 1 = -1 := rfl
      rw [e] at q2
      exact absurd (Int32.le_trans q1 q2) (by decide)
    · have e : kpt0 158 = 0 := rfl
      rw [e] at q
      have : ∀ i, i < 22 → 14 ≤ i → ¬ (nI i - 14 < 0) := by decide
      exact this i hi (by assumption) q
  refine ⟨0, 0, 0, ⟨Nat.zero_le _, Nat.zero_le _, Nat.zero_le _, rfl, rfl, low_0, rfl, .inl rfl⟩, ⟨⟨5, by decide, by decide, rfl⟩, ⟨2, by decide, by decide, rfl⟩, ⟨1, by decide, by decide, rfl⟩⟩, ⟨fun i hi q => absurd q (no i hi), fun i j hi _ _ q _ => absurd q (no i hi)⟩, fun f hf => absurd hf (Nat.not_lt_zero _)⟩
theorem a0_wf : wfA A0 :=
  ⟨a0_w, fun k _ => ⟨.inl (by show (if 3 = 0 then _ else if 3 = 5 ∧ k = 1 then (-1 : Int32) else 0) = 0; rw [if_neg (by decide), if_neg (fun z => absurd z.1 (by decide))]), fun q => absurd ((show A0 3 k = 0 from by show (if 3 = 0 then _ else if 3 = 5 ∧ k = 1 then (-1 : Int32) else 0) = 0; rw [if_neg (by decide), if_neg (fun z => absurd z.1 (by decide))]).symm.trans q) (by decide)⟩, ⟨0, Nat.zero_le _, rfl⟩, fun k => ⟨0, by decide, by show (if 4 = 0 then _ else if 4 = 5 ∧ k = 1 then (-1 : Int32) else 0) = 0; rw [if_neg (by decide), if_neg (fun z => absurd z.1 (by decide))]⟩, ⟨0, Nat.zero_le _, rfl⟩⟩
theorem a0_z {i k : Nat} (h0 : i ≠ 0) (h5 : i ≠ 5) : A0 i k = 0 := by
  show (if i = 0 then kpt0 k else if i = 5 ∧ k = 1 then (-1 : Int32) else 0) = 0
  rw [if_neg h0, if_neg (fun z => h5 z.1)]
theorem kpt_lo {k : Nat} (hk : k < 154) : kpt0 k = 0 := by
  unfold kpt0 upd
  rw [if_neg (by omega), if_neg (by omega), if_neg (by omega), if_neg (by omega)]
theorem r0_laws {k j : Nat} (hk : k < 2) : hR H0 (73 + 3 * k) j = none := by
  obtain rfl | rfl : k = 0 ∨ k = 1 := by omega
  · rfl
  · rfl
theorem rx_start : RX A0 H0 := by
  refine ⟨⟨⟨⟨fun k hk => (kpt_lo hk).symm, fun k hk => ?_, rfl, rfl, rfl, rfl, rfl⟩, ⟨fun k _ o q => (nomatch (show (none : Option Nat) = some o from q)), fun t e ht f hf => ?_⟩⟩, fun k _ q => absurd ((a0_z (by decide) (by decide)).symm.trans q) (by decide), fun k _ => (a0_z (by decide) (by decide)).symm, fun k _ => (a0_z (by decide) (by decide)).symm, rfl, rfl, rfl, rfl, ⟨rfl, rfl, rfl, rfl, rfl⟩, fun k _ => (a0_z (by decide) (by decide)).symm, rfl⟩, ⟨⟨.inr rfl, ⟨fun k hk => ?_, fun k hk j hj o ho => ?_⟩⟩, fun q => absurd q (by decide)⟩⟩
  · obtain rfl | rfl | rfl : k = 0 ∨ k = 1 ∨ k = 2 := by omega
    · rfl
    · rfl
    · rfl
  · have : ∀ t, t ≤ 6 → (0 : Int32) = nI t → t = 0 := by decide
    have := this t ht e
    omega
  · obtain rfl | rfl : k = 0 ∨ k = 1 := by omega
    · rfl
    · rfl
  · rw [r0_laws hk] at ho; cases ho
theorem rm_start : RM 0 A0 H0 := by
  refine ⟨⟨rfl, fun k i hk hi => (a0_z (by omega) (by omega)).symm, fun k _ => (a0_z (by decide) (by decide)).symm, fun k _ => by rw [a0_z (by decide) (by decide)]; rfl, rfl, rfl, rfl, rfl, fun k _ => (a0_z (by decide) (by decide)).symm, fun k _ => (a0_z (by decide) (by decide)).symm, rfl, fun k hk => ?_⟩, ⟨.inl rfl, ⟨0, Nat.le_refl _, rfl, .inl rfl, .inl rfl⟩, fun q => absurd q (by decide), fun q => absurd q (by decide)⟩⟩
  show (if k < 64 then wdB.getD k 0 else 0) = _
  rw [if_pos hk]
