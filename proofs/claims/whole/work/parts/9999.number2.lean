/-! the two readers' numbers -/
section T9999
variable {b : Nat → Int32} {k : Nat}
theorem num_step {x y : Int32} (h0 : 0 ≤ x.toInt) (h1 : x.toInt ≤ 1000000) (hy : dig y) : (10 * x + y - 48).toInt = 10 * x.toInt + y.toInt - 48 ∧ 48 ≤ y.toInt ∧ y.toInt ≤ 57 := by
  have y1 := Int32.le_iff_toInt_le.mp hy.1
  have y2 := Int32.le_iff_toInt_le.mp hy.2
  have e48 : (48 : Int32).toInt = 48 := rfl
  have e57 : (57 : Int32).toInt = 57 := rfl
  have e10 : (10 : Int32).toInt = 10 := rfl
  rw [e48] at y1
  rw [e57] at y2
  have m : (10 * x).toInt = 10 * x.toInt := by
    rw [Int32.toInt_mul, e10, Int.bmod_eq_of_le_mul_two (by omega) (by omega)]
  have s : (10 * x + y).toInt = 10 * x.toInt + y.toInt := by rw [fb_addI (by omega) (by omega), m]
  exact ⟨by rw [fb_subI (by omega) (by omega), s, e48], y1, y2⟩
theorem nu_vl {len : Nat} (hd : ∀ i, i < len → dig (b (k + i))) : ∀ i, i ≤ len → 0 ≤ (vlF b k i).toInt ∧ ((nuF b k i).toInt ≤ 1000 → vlF b k i = nuF b k i) ∧ (¬ (nuF b k i).toInt ≤ 1000 → ¬ (vlF b k i).toInt ≤ 1000) := by
  intro i
  induction i with
  | zero => intro _; exact ⟨by show (0 : Int) ≤ (0 : Int32).toInt; decide, fun _ => rfl, fun z => absurd (by show (0 : Int32).toInt ≤ 1000; decide) z⟩
  | succ i ih =>
    intro hi
    obtain ⟨i0, i1, i2⟩ := ih (by omega)
    have t1 : (1000 : Int32).toInt = 1000 := rfl
    have t2 : (1000000 : Int32).toInt = 1000000 := rfl
    have le1 : ∀ x : Int32, x ≤ 1000 ↔ x.toInt ≤ 1000 := fun x => by rw [Int32.le_iff_toInt_le, t1]
    have le2 : ∀ x : Int32, x ≤ 1000000 ↔ x.toInt ≤ 1000000 := fun x => by rw [Int32.le_iff_toInt_le, t2]
    by_cases z : (nuF b k i).toInt ≤ 1000
    · have e := i1 z
      rw [e] at i0
      obtain ⟨s1, s2, s3⟩ := num_step i0 (by omega) (hd i (by omega))
      have en : nuF b k (i + 1) = 10 * nuF b k i + b (k + i) - 48 := by rw [nuF, if_pos ((le1 _).mpr z), Int32.mul_comm]
      have ev : vlF b k (i + 1) = 10 * nuF b k i + b (k + i) - 48 := by rw [vlF, e, if_pos ((le2 _).mpr (by omega))]
      rw [en, ev]
      exact ⟨by rw [s1]; omega, fun _ => rfl, fun q => q⟩
    · have g := i2 z
      have en : nuF b k (i + 1) = nuF b k i := by rw [nuF, if_neg (fun q => z ((le1 _).mp q))]
      rw [en]
      by_cases y : (vlF b k i).toInt ≤ 1000000
      · obtain ⟨s1, s2, s3⟩ := num_step i0 y (hd i (by omega))
        rw [vlF, if_pos ((le2 _).mpr y), s1]
        exact ⟨by omega, fun q => absurd q z, fun _ => by omega⟩
      · rw [vlF, if_neg (fun q => y ((le2 _).mp q))]
        exact ⟨i0, fun q => absurd q z, fun _ => g⟩
end T9999
