/-! the class's reader: a number told -/
noncomputable def nuF (b : Nat → Int32) (k : Nat) : Nat → Int32
  | 0 => 0
  | i + 1 => if nuF b k i ≤ 1000 then nuF b k i * 10 + b (k + i) - 48 else nuF b k i
noncomputable def nuT (b : Nat → Int32) (n k e : Nat) : Int32 := @ite _ (k < n ∧ dig (b k)) (Classical.propDecidable _) (if nuF b k (e - k) ≤ 1000 then nuF b k (e - k) else -1) (-1)
section T9998
variable {cx : Cx} {d a c : Nat} {h g f : Hp} {b : Nat → Int32} {n k e : Nat}
theorem nu_stop {i : Nat} (z : ¬ nuF b k i ≤ 1000) : ∀ m, nuF b k (i + m) = nuF b k i := by
  intro m
  induction m with
  | zero => rfl
  | succ m ih => rw [show i + (m + 1) = i + m + 1 from rfl, nuF, ih, if_neg z]
theorem m_numberTold (hd : 1 ≤ d) (e3 : hI h o_reader 3 = nI n) (hn : n ≤ 400) (e4 : hI h o_reader 4 = nI k) (e5 : hI h o_reader 5 = nI e) (hk : k ≤ e) (he : e ≤ n) (hB : ∀ j, j < 400 → hI h o_tape_bytes j = b j) : M cx jX5_numberTold d a [.ref o_reader] h (RQ (.int (nuT b n k e)) h) := by
  have bt : ∀ {i : Int32} (j : Nat), i = nI j → j < 400 → M cx jX8_byteAt (d - 1) 0 [.ref o_tape, .int i] h (RQ (.int (b j)) h) := fun {i} j ei hj => by
    refine M_mono m_byteAt ?_
    rintro r g ⟨rfl, rfl⟩
    refine ⟨?_, rfl⟩
    rw [ei, if_pos ⟨nI_pos' (by omega), nI_lt (b := 400) hj (by decide)⟩, nI_clamp (by omega), hB j hj]
  have no : ¬ (k < n ∧ dig (b k)) → E cx jX5_numberTold d a 29 [some (.ref o_reader), none, none] [] h (RQ (.int (nuT b n k e)) h) := fun z => eX5_numberTold (RQ_eq (by unfold nuT; rw [if_neg z]))
  have j76 : (k < n ∧ dig (b k)) → ∀ i l2, nuF b k i = nuF b k (e - k) → E cx jX5_numberTold d a 76 [some (.ref o_reader), some (.int (nuF b k i)), l2] [] h (RQ (.int (nuT b n k e)) h) := fun y i l2 ei => by
    rw [ei]
    have e88 : ∀ v, v = nuT b n k e → E cx jX5_numberTold d a 88 [some (.ref o_reader), some (.int (nuF b k (e - k))), l2] [.int v] h (RQ (.int (nuT b n k e)) h) := fun v ev => eX5_numberTold (RQ_eq ev)
    refine eX5_numberTold (And.intro (fun z => (eX5_numberTold (e88 (-1) ?_))) (fun z => (e88 _ ?_)))
    · unfold nuT; rw [if_pos y, if_neg (fun q => absurd z (Int32.not_lt.mpr q))]
    · unfold nuT; rw [if_pos y, if_pos (Int32.not_lt.mp z)]
  have loop : (k < n ∧ dig (b k)) → ∀ m i, m + (k + i) = e → E cx jX5_numberTold d a 38 [some (.ref o_reader), some (.int (nuF b k i)), some (.int (nI (k + i)))] [] h (RQ (.int (nuT b n k e)) h) := by
    intro y m
    induction m with
    | zero =>
      intro i hi
      refine eX5_numberTold (And.intro (fun _ => j76 y i _ (by rw [show e - k = i by omega])) (fun z => absurd ?_ z))
      rw [e5]; exact nI_le (by omega) (by omega)
    | succ m ih =>
      intro i hi
      refine eX5_numberTold (And.intro (fun z => absurd z (by rw [e5]; exact nI_ge (by omega) (by omega))) (fun _ => And.intro (fun z => ?_) (fun z => wcV (bt (k + i) rfl (by omega)) ?_)))
      · refine j76 y i _ ?_
        have := nu_stop (b := b) (k := k) (i := i) (fun q => absurd z (Int32.not_lt.mpr q)) (e - k - i)
        rw [show i + (e - k - i) = e - k by omega] at this
        exact this.symm
      · have i2 := ih (i + 1) (by omega)
        rw [nuF, if_pos (Int32.not_lt.mp z), show k + (i + 1) = k + i + 1 from rfl, nI_succ] at i2
        exact i2
  refine sX5_numberTold rfl (And.intro (fun q1 => no fun z => absurd (by rw [e3, e4] at q1; exact q1) (nI_ge (a := k) (b := n) z.1 (by omega))) (fun q1 => ?_))
  have kn : k < n := by rw [e3, e4] at q1; exact Classical.byContradiction fun z => q1 (nI_le (by omega) (by omega))
  refine wcV (bt k e4 (by omega)) (wcS m_sortOf (And.intro (fun q2 => ?_) (fun q2 => no fun z => q2 (srt_1.mpr z.2))))
  have l := loop ⟨kn, srt_1.mp q2⟩ (e - k) 0 (by omega)
  refine eX5_numberTold (e_eq l ?_ rfl rfl)
  show [some (Value.ref o_reader), some (Value.int 0), some (Value.int (hI h o_reader 4))] = _
  rw [e4]; rfl
end T9998
