/-! the class's reader: words of the text -/
noncomputable def srt (x : Int32) : Int32 := @ite _ (ltr x) (Classical.propDecidable _) 0 (@ite _ (dig x) (Classical.propDecidable _) 1 2)
section T9995
variable {cx : Cx} {d a c : Nat} {h g f : Hp} {b : Nat → Int32} {n k : Nat}
theorem srt_0 {x : Int32} : srt x = 0 ↔ ltr x := by
  unfold srt
  by_cases z : ltr x
  · rw [if_pos z]; exact ⟨fun _ => z, fun _ => rfl⟩
  · rw [if_neg z]
    by_cases y : dig x
    · rw [if_pos y]; exact ⟨fun q => absurd q (by decide), fun q => absurd q z⟩
    · rw [if_neg y]; exact ⟨fun q => absurd q (by decide), fun q => absurd q z⟩
theorem dig_ltr {x : Int32} (q : dig x) : ¬ ltr x := fun z => by
  have h1 := Int32.le_iff_toInt_le.mp q.2
  have h2 := Int32.le_iff_toInt_le.mp z.1
  have e1 : (57 : Int32).toInt = 57 := rfl
  have e2 : (97 : Int32).toInt = 97 := rfl
  omega
theorem srt_1 {x : Int32} : srt x = 1 ↔ dig x := by
  unfold srt
  by_cases y : dig x
  · rw [if_neg (dig_ltr y), if_pos y]; exact ⟨fun _ => y, fun _ => rfl⟩
  · by_cases z : ltr x
    · rw [if_pos z]; exact ⟨fun q => absurd q (by decide), fun q => absurd q y⟩
    · rw [if_neg z, if_neg y]; exact ⟨fun q => absurd q (by decide), fun q => absurd q y⟩
theorem srt_is {x : Int32} : srt x = 0 ∨ srt x = 1 ∨ srt x = 2 := by
  unfold srt
  split
  · exact Or.inl rfl
  · split
    · exact Or.inr (Or.inl rfl)
    · exact Or.inr (Or.inr rfl)
theorem m_sortOf {x : Int32} : M cx jX5_sortOf d a [.int x] h (RQ (.int (srt x)) h) := by
  have j31 : ∀ v, v = srt x → E cx jX5_sortOf d a 31 [some (.int x)] [.int v] h (RQ (.int (srt x)) h) := fun v e => eX5_sortOf (RQ_eq e)
  have j30 : ¬ ltr x → ¬ dig x → E cx jX5_sortOf d a 30 [some (.int x)] [] h (RQ (.int (srt x)) h) := fun n1 n2 => eX5_sortOf (j31 2 (by unfold srt; rw [if_neg n1, if_neg n2]))
  have j14 : ¬ ltr x → E cx jX5_sortOf d a 14 [some (.int x)] [] h (RQ (.int (srt x)) h) := fun n1 => eX5_sortOf (And.intro (fun q3 => j30 n1 fun z => absurd q3 (Int32.not_lt.mpr z.1)) (fun q3 => And.intro (fun q4 => j30 n1 fun z => absurd q4 (Int32.not_lt.mpr z.2)) (fun q4 => j31 1 (srt_1.mpr ⟨Int32.not_lt.mp q3, Int32.not_lt.mp q4⟩).symm)))
  exact sX5_sortOf rfl (And.intro (fun q1 => j14 fun z => absurd q1 (Int32.not_lt.mpr z.1)) (fun q1 => And.intro (fun q2 => j14 fun z => absurd q2 (Int32.not_lt.mpr z.2)) (fun q2 => RQ_eq (srt_0.mpr ⟨Int32.not_lt.mp q1, Int32.not_lt.mp q2⟩).symm)))
end T9995
