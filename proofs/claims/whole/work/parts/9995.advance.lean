/-! the class's reader: words of the text -/
noncomputable def srt (x : Int32) : Int32 := @ite _ (ltr x) (Classical.propDecidable _) 0 (@ite _ (dig x) (Classical.propDecidable _) 1 2)
section T9995
variable {cx : Cx} {d a c : Nat} {h g f : Hp} {b : Nat → Int32} {n k : Nat}
theorem srt_0 {x : Int32} : srt x = 0 ↔ ltr x := by
  unfold srt
  by_cases z : ltr x
  · rw [if_pos z]; exact ⟨fun _ => z, fun _ => rfl⟩
  · rw [if_neg z]
    by_cases y : dig x
    · rw [if_pos y]; exact ⟨fun q => absurd q (by decide), fun q => absurd q z⟩
    · rw [if_neg y]; exact ⟨fun q => absurd q (by decide), fun q => absurd q z⟩
theorem dig_ltr {x : Int32} (q : dig x) : ¬ ltr x := fun z => by
  have h1 := Int32.le_iff_toInt_le.mp q.2
  have h2 := Int32.le_iff_toInt_le.mp z.1
  have e1 : (57 : Int32).toInt = 57 := rfl
  have e2 : (97 : Int32).toInt = 97 := rfl
  omega
theorem srt_1 {x : Int32} : srt x = 1 ↔ dig x := by
  unfold srt
  by_cases y : dig x
  · rw [if_neg (dig_ltr y), if_pos y]; exact ⟨fun _ => y, fun _ => rfl⟩
  · by_cases z : ltr x
    · rw [if_pos z]; exact ⟨fun q => absurd q (by decide), fun q => absurd q y⟩
    · rw [if_neg z, if_neg y]; exact ⟨fun q => absurd q (by decide), fun q => absurd q y⟩
theorem srt_is {x : Int32} : srt x = 0 ∨ srt x = 1 ∨ srt x = 2 := by
  unfold srt
  split
  · exact Or.inl rfl
  · split
    · exact Or.inr (Or.inl rfl)
    · exact Or.inr (Or.inr rfl)
theorem m_sortOf {x : Int32} : M cx jX5_sortOf d a [.int x] h (RQ (.int (srt x)) h) := by
  have j31 : ∀ v, v = srt x → E cx jX5_sortOf d a 31 [some (.int x)] [.int v] h (RQ (.int (srt x)) h) := fun v e => eX5_sortOf (RQ_eq e)
  have j30 : ¬ ltr x → ¬ dig x → E cx jX5_sortOf d a 30 [some (.int x)] [] h (RQ (.int (srt x)) h) := fun n1 n2 => eX5_sortOf (j31 2 (by unfold srt; rw [if_neg n1, if_neg n2]))
  have j14 : ¬ ltr x → E cx jX5_sortOf d a 14 [some (.int x)] [] h (RQ (.int (srt x)) h) := fun n1 => eX5_sortOf (And.intro (fun q3 => j30 n1 fun z => absurd q3 (Int32.not_lt.mpr z.1)) (fun q3 => And.intro (fun q4 => j30 n1 fun z => absurd q4 (Int32.not_lt.mpr z.2)) (fun q4 => j31 1 (srt_1.mpr ⟨Int32.not_lt.mp q3, Int32.not_lt.mp q4⟩).symm)))
  exact sX5_sortOf rfl (And.intro (fun q1 => j14 fun z => absurd q1 (Int32.not_lt.mpr z.1)) (fun q1 => And.intro (fun q2 => j14 fun z => absurd q2 (Int32.not_lt.mpr z.2)) (fun q2 => RQ_eq (srt_0.mpr ⟨Int32.not_lt.mp q1, Int32.not_lt.mp q2⟩).symm)))
/-- the reader stands before the word that begins at k -/
def rdrH (h : Hp) (s e : Nat) : Hp := wI (wI h o_reader 4 (nI s)) o_reader 5 (nI e)
theorem m_advance (hd : 1 ≤ d) (e3 : hI h o_reader 3 = nI n) (hn : n ≤ 400) (e5 : hI h o_reader 5 = nI k) (hk : k ≤ n) (hB : ∀ j, j < 400 → hI h o_tape_bytes j = b j) : M cx jX5_advance d a [.ref o_reader] h (RV (rdrH h (run blk b n 401 k) (tkE b n (run blk b n 401 k)))) := by
  have bt : ∀ {G : Hp} {i : Int32} (j : Nat), (∀ q, hI G o_tape_bytes q = hI h o_tape_bytes q) → i = nI j → j < 400 → M cx jX8_byteAt (d - 1) 0 [.ref o_tape, .int i] G (RQ (.int (b j)) G) := fun {G i} j eg ei hj => by
    refine M_mono m_byteAt ?_
    rintro r g ⟨rfl, rfl⟩
    refine ⟨?_, rfl⟩
    rw [ei, if_pos ⟨nI_pos' (by omega), nI_lt (b := 400) hj (by decide)⟩, nI_clamp (by omega), eg, hB j hj]
  generalize eS : run blk b n 401 k = S
  have hS : k ≤ S ∧ S ≤ n := by rw [← eS]; exact run_le 401 k hk
  -- the second loop
  have l2 : ∀ m j, m + j = n → S ≤ j → ∀ v, (srt v = 2 → j = tkE b n S) → (srt v = 0 → run ltr b n 401 j = tkE b n S) → (srt v = 1 → run dig b n 401 j = tkE b n S) → (j = n → j = tkE b n S) → E cx jX5_advance d a 80 [some (.ref o_reader), some (.int (srt v))] [] (rdrH h S j) (RV (rdrH h S (tkE b n S))) := by
    intro m
    induction m with
    | zero =>
      intro j hj hSj v a1 a2 a3 a4
      obtain rfl : j = n := by omega
      have f5 : hI (rdrH h S j) o_reader 5 = nI j := rd_same
      have f3 : hI (rdrH h S j) o_reader 3 = nI j := by unfold rdrH; rw [rd_k (by decide), rd_k (by decide)]; exact e3
      refine eX5_advance (And.intro (fun _ => eX5_advance ⟨rfl, ?_⟩) (fun z => absurd ?_ z))
      · rw [← a4 rfl]
      · rw [f3, f5]; exact Int32.le_refl _
    | succ m ih =>
      intro j hj hSj v a1 a2 a3 a4
      have f5 : hI (rdrH h S j) o_reader 5 = nI j := rd_same
      have f3 : hI (rdrH h S j) o_reader 3 = nI n := by unfold rdrH; rw [rd_k (by decide), rd_k (by decide)]; exact e3
      have ob : ∀ q, hI (rdrH h S j) o_tape_bytes q = hI h o_tape_bytes q := fun q => by unfold rdrH; rw [rd_o (by decide), rd_o (by decide)]
      have stop : j = tkE b n S → E cx jX5_advance d a 127 [some (.ref o_reader), some (.int (srt v))] [] (rdrH h S j) (RV (rdrH h S (tkE b n S))) := fun e => eX5_advance ⟨rfl, by rw [← e]⟩
      refine eX5_advance (And.intro (fun z => absurd z (by rw [f3, f5]; exact nI_ge (by omega) (by omega))) (fun _ => And.intro (fun z => stop (a1 z)) (fun z2 => wcV (bt j ob f5 (by omega)) (wcS m_sortOf (And.intro (fun z => stop ?_) (fun z => ?_))))))
      · rcases srt_is (x := v) with y | y | y
        · rw [← a2 y]; exact (run_stop fun q => z ((srt_0.mpr q.2).trans y.symm)).symm
        · rw [← a3 y]; exact (run_stop fun q => z ((srt_1.mpr q.2).trans y.symm)).symm
        · exact absurd y z2
      · have i := ih (j + 1) (by omega) (by omega) v (fun y => absurd y z2) (fun y => by rw [← run_step hn ⟨by omega, srt_0.mp (z.trans y)⟩]; exact a2 y) (fun y => by rw [← run_step hn ⟨by omega, srt_1.mp (z.trans y)⟩]; exact a3 y) (fun e => ?_)
        · refine e_eq i rfl rfl ?_
          show wI (rdrH h S j) o_reader 5 (hI (rdrH h S j) o_reader 5 + 1) = _
          rw [f5]; unfold rdrH; rw [wI_wI, nI_succ]
        · rcases srt_is (x := v) with y | y | y
          · rw [← a2 y, run_step hn ⟨by omega, srt_0.mp (z.trans y)⟩]; exact (run_stop fun q => by omega).symm
          · rw [← a3 y, run_step hn ⟨by omega, srt_1.mp (z.trans y)⟩]; exact (run_stop fun q => by omega).symm
          · exact absurd y z2
  have j48 : E cx jX5_advance d a 48 [some (.ref o_reader), none] [] (wI h o_reader 4 (nI S)) (RV (rdrH h S (tkE b n S))) := by
    have f3 : hI (wI h o_reader 4 (nI S)) o_reader 3 = nI n := by rw [rd_k (by decide)]; exact e3
    have f4 : hI (wI h o_reader 4 (nI S)) o_reader 4 = nI S := rd_same
    generalize eT : (if n < S + 1 then n else S + 1) = T
    have hT : T ≤ n ∧ S ≤ T := by rw [← eT]; by_cases z : n < S + 1 <;> simp only [z, if_true, if_false] <;> omega
    have eh : wI (wI h o_reader 4 (nI S)) o_reader 5 (if hI (wI h o_reader 4 (nI S)) o_reader 3 < hI (wI h o_reader 4 (nI S)) o_reader 4 + 1 then hI (wI h o_reader 4 (nI S)) o_reader 3 else hI (wI h o_reader 4 (nI S)) o_reader 4 + 1) = rdrH h S T := by
      rw [f3, f4, show (1 : Int32) = nI 1 from rfl, nI_add]
      unfold rdrH
      by_cases z : n < S + 1
      · rw [if_pos (nI_lt z (by omega)), ← eT, if_pos z]
      · rw [if_neg (fun y => z ((nI_ltI (by omega) (by omega)).mp y)), ← eT, if_neg z]
    have g4 : hI (rdrH h S T) o_reader 4 = nI S := by unfold rdrH; rw [rd_k (by decide), rd_same]
    have ob : ∀ q, hI (rdrH h S T) o_tape_bytes q = hI h o_tape_bytes q := fun q => by unfold rdrH; rw [rd_o (by decide), rd_o (by decide)]
    refine eX5_advance (And.intro ⟨by decide, by omega⟩ (wp_hp (h := wI (wI h o_reader 4 (nI S)) o_reader 5 (if hI (wI h o_reader 4 (nI S)) o_reader 3 < hI (wI h o_reader 4 (nI S)) o_reader 4 + 1 then hI (wI h o_reader 4 (nI S)) o_reader 3 else hI (wI h o_reader 4 (nI S)) o_reader 4 + 1)) (g := rdrH h S T) eh (wcV m_byteAt (wcS m_sortOf (l2 (n - T) T (by omega) hT.2 _ ?_ ?_ ?_ ?_)))))
    all_goals
      by_cases sn : S < n
      · have ev : (if 0 ≤ hI (rdrH h S T) o_reader 4 ∧ hI (rdrH h S T) o_reader 4 < 400 then hI (rdrH h S T) o_tape_bytes (hI (rdrH h S T) o_reader 4).toNatClampNeg else -1) = b S := by
          rw [g4, if_pos ⟨nI_pos' (by omega), nI_lt (b := 400) (by omega) (by decide)⟩, nI_clamp (by omega), ob, hB S (by omega)]
        have eT' : T = S + 1 := by rw [← eT, if_neg (by omega)]
        have ek : tkE b n S = tend b n S := if_pos sn
        intro y
        try rw [ev] at y
        rw [ek, eT']
        unfold tend
        first
        | (have nl : ¬ ltr (b S) := fun q => by rw [srt_0.mpr q] at y; exact absurd y (by decide)
           have nd : ¬ dig (b S) := fun q => by rw [srt_1.mpr q] at y; exact absurd y (by decide)
           rw [if_neg nl, if_neg nd]; done)
        | (rw [if_pos (srt_0.mp y)]; done)
        | (rw [if_neg (dig_ltr (srt_1.mp y)), if_pos (srt_1.mp y)]; done)
        | (by_cases q1 : ltr (b S)
           · rw [if_pos q1]; exact (run_stop fun q => by omega).symm
           · rw [if_neg q1]
             by_cases q2 : dig (b S)
             · rw [if_pos q2]; exact (run_stop fun q => by omega).symm
             · rw [if_neg q2])
      · have eT' : T = n := by rw [← eT, if_pos (by omega)]
        have ek : tkE b n S = n := if_neg sn
        intro y
        rw [ek, eT']
        try exact run_stop fun q => by omega
  have l1 : ∀ m j, m + j = n → run blk b n 401 j = S → E cx jX5_advance d a 8 [some (.ref o_reader), none] [] (wI h o_reader 4 (nI j)) (RV (rdrH h S (tkE b n S))) := by
    intro m
    induction m with
    | zero =>
      intro j hj e
      obtain rfl : j = n := by omega
      have f3 : hI (wI h o_reader 4 (nI j)) o_reader 3 = nI j := by rw [rd_k (by decide)]; exact e3
      have f4 : hI (wI h o_reader 4 (nI j)) o_reader 4 = nI j := rd_same
      rw [run_stop fun q => by omega] at e
      subst e
      exact eX5_advance (And.intro (fun _ => j48) (fun z => absurd (by rw [f3, f4]; exact Int32.le_refl _) z))
    | succ m ih =>
      intro j hj e
      have f3 : hI (wI h o_reader 4 (nI j)) o_reader 3 = nI n := by rw [rd_k (by decide)]; exact e3
      have f4 : hI (wI h o_reader 4 (nI j)) o_reader 4 = nI j := rd_same
      refine eX5_advance (And.intro (fun z => absurd z (by rw [f3, f4]; exact nI_ge (by omega) (by omega))) (fun _ => wcV (bt j (fun q => rd_o (by decide)) f4 (by omega)) (And.intro (fun z => ?_) (fun z => ?_))))
      · rw [run_stop fun q => z q.2] at e
        subst e; exact j48
      · rw [run_step hn ⟨by omega, z⟩] at e
        refine e_eq (ih (j + 1) (by omega) e) rfl rfl ?_
        show wI (wI h o_reader 4 (nI j)) o_reader 4 (hI (wI h o_reader 4 (nI j)) o_reader 4 + 1) = _
        rw [f4, wI_wI, nI_succ]
  have := l1 (n - k) k (by omega) eS
  refine sX5_advance rfl (e_eq this rfl rfl ?_)
  show wI h o_reader 4 (hI h o_reader 5) = _
  rw [e5]
end T9995
