/-! tokens of a text of n bytes; the model's words -/
def ltr (x : Int32) : Prop := 97 ≤ x ∧ x ≤ 122
def dig (x : Int32) : Prop := 48 ≤ x ∧ x ≤ 57
noncomputable def run (p : Int32 → Prop) (b : Nat → Int32) (n : Nat) : Nat → Nat → Nat
  | 0, k => k
  | f + 1, k => @ite _ (k < n ∧ p (b k)) (Classical.propDecidable _) (run p b n f (k + 1)) k
abbrev blk (x : Int32) : Prop := x = 32
noncomputable def tend (b : Nat → Int32) (n k : Nat) : Nat := @ite _ (ltr (b k)) (Classical.propDecidable _) (run ltr b n 401 (k + 1)) (@ite _ (dig (b k)) (Classical.propDecidable _) (run dig b n 401 (k + 1)) (k + 1))
noncomputable def tkE (b : Nat → Int32) (n k : Nat) : Nat := if k < n then tend b n k else n
noncomputable def tkS (b : Nat → Int32) (n : Nat) : Nat → Nat
  | 0 => run blk b n 401 0
  | t + 1 => run blk b n 401 (tkE b n (tkS b n t))
def wOff : List Nat := [0, 6, 12, 15, 18, 22, 26, 32, 34, 36, 41, 46, 53, 58, 64]
def wLen : List Nat := [5, 5, 2, 2, 3, 3, 5, 1, 1, 4, 4, 6, 4, 5]
def wMt (b : Nat → Int32) (k e j : Nat) : Prop := e - k = wLen.getD j 0 ∧ ∀ i, i < wLen.getD j 0 → b (k + i) = wdB.getD (wOff.getD j 0 + i) 0
noncomputable def vlF (b : Nat → Int32) (k : Nat) : Nat → Int32
  | 0 => 0
  | i + 1 => if vlF b k i ≤ 1000000 then 10 * vlF b k i + b (k + i) - 48 else vlF b k i
noncomputable def cdT (b : Nat → Int32) (k e : Nat) : Int32 := @ite _ (ltr (b k)) (Classical.propDecidable _) (fst (wMt b k e) 14 0 + 1) (@ite _ (dig (b k)) (Classical.propDecidable _) 50 (100 + b k))
noncomputable def vlT (b : Nat → Int32) (k e : Nat) : Int32 := @ite _ (dig (b k)) (Classical.propDecidable _) (vlF b k (e - k)) 0
noncomputable def tC (b : Nat → Int32) (n t : Nat) : Int32 := if tkS b n t < n then cdT b (tkS b n t) (tkE b n (tkS b n t)) else 0
noncomputable def tV (b : Nat → Int32) (n t : Nat) : Int32 := if tkS b n t < n then vlT b (tkS b n t) (tkE b n (tkS b n t)) else 0
def isBy (b : Nat → Int32) : Prop := ∀ k, ∃ v, v < 256 ∧ b k = nI v
section T83
variable {cx : Cx} {d a : Nat} {h g : Hp} {b : Nat → Int32} {n : Nat}
theorem run_yes {p : Int32 → Prop} {f k : Nat} (y : k < n ∧ p (b k)) : run p b n (f + 1) k = run p b n f (k + 1) := if_pos y
theorem run_no {p : Int32 → Prop} {f k : Nat} (y : ¬ (k < n ∧ p (b k))) : run p b n (f + 1) k = k := if_neg y
theorem run_le {p : Int32 → Prop} : ∀ f k, k ≤ n → k ≤ run p b n f k ∧ run p b n f k ≤ n := by
  intro f
  induction f with
  | zero => intro k h; exact ⟨Nat.le_refl _, h⟩
  | succ f ih =>
    intro k hk
    by_cases y : k < n ∧ p (b k)
    · rw [run_yes y]; have := ih (k + 1) (by omega); omega
    · rw [run_no y]; exact ⟨Nat.le_refl _, hk⟩
theorem run_fuel {p : Int32 → Prop} : ∀ f f' k, n < f + k → n < f' + k → run p b n f k = run p b n f' k := by
  intro f
  induction f with
  | zero =>
    intro f' k h1 h2
    cases f' with
    | zero => rfl
    | succ f' => rw [run_no (fun z => by omega)]; rfl
  | succ f ih =>
    intro f' k h1 h2
    by_cases y : k < n ∧ p (b k)
    · cases f' with
      | zero => omega
      | succ f' => rw [run_yes y, run_yes y]; exact ih f' (k + 1) (by omega) (by omega)
    · rw [run_no y]
      cases f' with
      | zero => rfl
      | succ f' => rw [run_no y]
theorem run_step {p : Int32 → Prop} {k : Nat} (hn : n ≤ 400) (y : k < n ∧ p (b k)) : run p b n 401 k = run p b n 401 (k + 1) := by
  rw [run_yes (f := 400) y]; exact run_fuel _ _ _ (by omega) (by omega)
theorem run_stop {p : Int32 → Prop} {k : Nat} (y : ¬ (k < n ∧ p (b k))) : run p b n 401 k = k := run_no y
theorem run_end {p : Int32 → Prop} : ∀ f k, n < f + k → k ≤ n → ¬ (run p b n f k < n ∧ p (b (run p b n f k))) := by
  intro f
  induction f with
  | zero => intro k h1 h2; omega
  | succ f ih =>
    intro k h1 h2
    by_cases y : k < n ∧ p (b k)
    · rw [run_yes y]; exact ih (k + 1) (by omega) (by omega)
    · rw [run_no y]; exact y
theorem tend_le {k : Nat} (hk : k < n) : k < tend b n k ∧ tend b n k ≤ n := by
  unfold tend
  split
  · have := run_le (p := ltr) (b := b) 401 (k + 1) hk; omega
  · split
    · have := run_le (p := dig) (b := b) 401 (k + 1) hk; omega
    · omega
theorem tkE_le {k : Nat} (hk : k ≤ n) : k ≤ tkE b n k ∧ tkE b n k ≤ n := by
  unfold tkE; split
  · rename_i h; have := tend_le (b := b) h; omega
  · omega
theorem tkS_le : ∀ t, tkS b n t ≤ n := by
  intro t
  cases t with
  | zero => exact (run_le 401 0 (Nat.zero_le _)).2
  | succ t =>
    have : ∀ t, tkS b n t ≤ n → tkS b n (t + 1) ≤ n := fun t h => (run_le 401 _ (tkE_le h).2).2
    induction t with
    | zero => exact this 0 (run_le 401 0 (Nat.zero_le _)).2
    | succ t ih => exact this _ ih
theorem tkS_lt {t : Nat} (h : tkS b n t < n) : tkS b n t < tkS b n (t + 1) := by
  have h1 := tend_le (b := b) h
  have h2 := run_le (p := blk) (b := b) 401 (tkE b n (tkS b n t)) (tkE_le (tkS_le t)).2
  show _ < run blk b n 401 (tkE b n (tkS b n t))
  have : tkE b n (tkS b n t) = tend b n (tkS b n t) := if_pos h
  omega
theorem tkS_end {t : Nat} (h : tkS b n t = n) : ∀ j, tkS b n (t + j) = n := by
  intro j
  induction j with
  | zero => exact h
  | succ j ih =>
    show run blk b n 401 (tkE b n (tkS b n (t + j))) = n
    rw [ih, show tkE b n n = n from if_neg (Nat.lt_irrefl n)]
    exact run_stop (fun z => absurd z.1 (Nat.lt_irrefl n))
/-- how many tokens -/
theorem tkS_N : ∃ N, N ≤ n ∧ tkS b n N = n ∧ ∀ t, t < N → tkS b n t < n := by
  have grow : ∀ t, (∀ j, j < t → tkS b n j < n) → t ≤ tkS b n t := by
    intro t
    induction t with
    | zero => intro _; exact Nat.zero_le _
    | succ t ih => intro hj; have := ih (fun j h => hj j (by omega)); have := tkS_lt (hj t (by omega)); omega
  have : ∀ m, (∃ N, N ≤ m ∧ tkS b n N = n ∧ ∀ t, t < N → tkS b n t < n) ∨ (∀ t, t ≤ m → tkS b n t < n) := by
    intro m
    induction m with
    | zero =>
      by_cases e : tkS b n 0 = n
      · exact Or.inl ⟨0, Nat.le_refl _, e, fun t h => absurd h (Nat.not_lt_zero _)⟩
      · exact Or.inr fun t h => by obtain rfl : t = 0 := by omega
                                   have := tkS_le (b := b) (n := n) 0; omega
    | succ m ih =>
      rcases ih with ⟨N, h1, h2, h3⟩ | h
      · exact Or.inl ⟨N, by omega, h2, h3⟩
      · by_cases e : tkS b n (m + 1) = n
        · exact Or.inl ⟨m + 1, Nat.le_refl _, e, fun t ht => h t (by omega)⟩
        · exact Or.inr fun t ht => by
            by_cases et : t = m + 1
            · rw [et]; have := tkS_le (b := b) (n := n) (m + 1); omega
            · exact h t (by omega)
  rcases this n with h | h
  · exact h
  · have := grow n (fun j hj => h j (by omega)); have := h n (Nat.le_refl _); omega
/-! the model's letters -/
theorem sg_eq {x : Int32} {v : Nat} (hx : ∃ k, k < 256 ∧ x = nI k) (hv : v < 128) : sg x = nI v ↔ x = nI v := by
  obtain ⟨k, hk, rfl⟩ := hx
  by_cases l : k < 128
  · rw [sg_small l]
  · constructor
    · intro e; have := sg_neg k hk (by omega); rw [e] at this; exact absurd this (nI_pos (by omega))
    · intro e; have := (nI_eq (by omega) (by omega)).mp e; omega
theorem sg_in {x : Int32} {lo hi : Nat} (hx : ∃ k, k < 256 ∧ x = nI k) (hl : 0 < lo) (hl2 : lo < 128) (hh : hi < 128) : (nI lo ≤ sg x ∧ sg x ≤ nI hi) ↔ (nI lo ≤ x ∧ x ≤ nI hi) := by
  obtain ⟨k, hk, rfl⟩ := hx
  by_cases l : k < 128
  · rw [sg_small l]
  · constructor
    · intro e
      have h1 := Int32.lt_iff_toInt_lt.mp (sg_neg k hk (by omega))
      have h2 := Int32.le_iff_toInt_le.mp e.1
      rw [nI_toInt (by omega)] at h2
      have e0 : (0 : Int32).toInt = 0 := rfl
      omega
    · intro e; have := (nI_leI (by omega) (by omega)).mp e.2; omega
theorem sg_255 : ∀ k, k < 256 → sg (nI k) &&& 255 = nI k := by decide +kernel
theorem n_isSmall {x : Int32} : M cx jX12_isSmall d a [.int x] h (RQ (.int (b2i (ltr x))) h) :=
  sX12_isSmall rfl (And.intro (fun q1 => (eX12_isSmall (eX12_isSmall (And.intro (Or.inl rfl) (RQ_eq (b2i_f (fun z => absurd q1 (Int32.not_lt.mpr z.1))).symm))))) (fun q1 => (And.intro (fun q2 => (eX12_isSmall (eX12_isSmall (And.intro (Or.inl rfl) (RQ_eq (b2i_f (fun z => absurd q2 (Int32.not_lt.mpr z.2))).symm))))) (fun q2 => (eX12_isSmall (And.intro (Or.inr rfl) (RQ_eq (b2i_t ⟨Int32.not_lt.mp q1, Int32.not_lt.mp q2⟩).symm)))))))
theorem n_isDigit {x : Int32} : M cx jX12_isDigit d a [.int x] h (RQ (.int (b2i (dig x))) h) :=
  sX12_isDigit rfl (And.intro (fun q1 => (eX12_isDigit (eX12_isDigit (And.intro (Or.inl rfl) (RQ_eq (b2i_f (fun z => absurd q1 (Int32.not_lt.mpr z.1))).symm))))) (fun q1 => (And.intro (fun q2 => (eX12_isDigit (eX12_isDigit (And.intro (Or.inl rfl) (RQ_eq (b2i_f (fun z => absurd q2 (Int32.not_lt.mpr z.2))).symm))))) (fun q2 => (eX12_isDigit (And.intro (Or.inr rfl) (RQ_eq (b2i_t ⟨Int32.not_lt.mp q1, Int32.not_lt.mp q2⟩).symm)))))))
theorem w_tab : ∀ j, j < 14 → wOff.getD j 0 + wLen.getD j 0 + 1 = wOff.getD (j + 1) 0 ∧ wOff.getD j 0 < 64 ∧ wOff.getD (j + 1) 0 ≤ 64 ∧ wdB.getD (wOff.getD j 0 + wLen.getD j 0) 0 = 32 ∧ ∀ i, i < wLen.getD j 0 → ¬ wdB.getD (wOff.getD j 0 + i) 0 = 32 := by decide +kernel
theorem w_asc : ∀ k, k < 64 → ∃ v, v < 128 ∧ wdB.getD k 0 = nI v := by
  have : ∀ k, k < 64 → (wdB.getD k 0).toNatClampNeg < 128 ∧ wdB.getD k 0 = nI (wdB.getD k 0).toNatClampNeg := by decide +kernel
  exact fun k hk => ⟨_, (this k hk).1, (this k hk).2⟩
/-- the model finds the word -/
theorem n_wordOf {k e : Nat} (hke : k < e) (he : e ≤ 400) (hb : isBy b) (tp : ∀ k, k < 400 → hI h o_m_tape k = sg (b k)) (wd : ∀ k, k < 64 → hI h o_m_words k = wdB.getD k 0) : M cx jX12_wordOf d a [.ref o_m, .int (nI k), .int (nI e)] h (RQ (.int (fst (wMt b k e) 14 0 + 1)) h) := by
  have loop : ∀ r j, r + j = 14 → fst (wMt b k e) r j = fst (wMt b k e) 14 0 → ∀ l5 l6 l7, E cx jX12_wordOf d a 5 [some (.ref o_m), some (.int (nI k)), some (.int (nI e)), some (.int (nI (j + 1))), some (.int (nI (wOff.getD j 0))), l5, l6, l7] [] h (RQ (.int (fst (wMt b k e) 14 0 + 1)) h) := by
    intro r
    induction r with
    | zero =>
      intro j hj ef l5 l6 l7
      obtain rfl : j = 14 := by omega
      refine eX12_wordOf (And.intro (fun _ => (eX12_wordOf (RQ_eq ?_))) (fun q => absurd (Int32.le_refl _) q))
      rw [← ef, show fst (wMt b k e) 0 14 = -1 from rfl]; decide
    | succ r ih =>
      intro j hj ef l5 l6 l7
      obtain ⟨w1, w2, w3, w4, w5⟩ := w_tab j (by omega)
      generalize eo : wOff.getD j 0 = o at w1 w2 w4 w5
      generalize el : wLen.getD j 0 = L at w1 w4 w5
      have sub : nI e - nI k = nI (e - k) := pk_sub (by omega)
      -- behind the letters
      have e104 : ∀ v l7, v = b2i (wMt b k e j) → E cx jX12_wordOf d a 104 [some (.ref o_m), some (.int (nI k)), some (.int (nI e)), some (.int (nI (j + 1))), some (.int (nI o)), some (.int (nI L)), some (.int v), l7] [] h (RQ (.int (fst (wMt b k e) 14 0 + 1)) h) := fun v l7 ev => by
        subst ev
        refine eX12_wordOf (And.intro (fun q => (eX12_wordOf ?_)) (fun q => RQ_eq ?_))
        · have i := ih (j + 1) (by omega) (by rw [← ef, fst_f (b2i_0.mp q)]) (some (.int (nI L))) (some (.int (b2i (wMt b k e j)))) l7
          rw [nI_succ (j + 1), ← w1] at i
          refine e_eq i ?_ rfl rfl
          have : nI o + (nI L + 1) = nI (o + L + 1) := by rw [← nI_succ, nI_add, Nat.add_assoc]
          rw [this]; rfl
        · rw [← ef, fst_t (b2i_n q), nI_succ]
      have same : ∀ r' i, r' + i = L → i ≤ L → e - k = L → (∀ i', i' < i → b (k + i') = wdB.getD (o + i') 0) → E cx jX12_wordOf d a 57 [some (.ref o_m), some (.int (nI k)), some (.int (nI e)), some (.int (nI (j + 1))), some (.int (nI o)), some (.int (nI L)), some (.int 1), some (.int (nI i))] [] h (RQ (.int (fst (wMt b k e) 14 0 + 1)) h) := by
        intro r'
        induction r' with
        | zero =>
          intro i hi hL hek all
          obtain rfl : i = L := by omega
          exact eX12_wordOf (And.intro (fun _ => e104 1 _ (b2i_t ⟨by rw [el]; exact hek, fun i' h' => by rw [eo]; rw [el] at h'; exact all i' h'⟩).symm) (fun q => absurd (Int32.le_refl _) q))
        | succ r' ih' =>
          intro i hi hL hek all
          have vw : vp_in (nI o + nI i) 64 := by rw [nI_add]; exact vp_in_nI (by omega) (by decide)
          have vt : vp_in (nI k + nI i) 400 := by rw [nI_add]; exact vp_in_nI (by omega) (by decide)
          have rw1 : hI h (ly_rf o_m 7) (nI o + nI i).toNatClampNeg = wdB.getD (o + i) 0 := by rw [nI_add, nI_clamp (by omega)]; exact wd _ (by omega)
          have rt1 : hI h (ly_rf o_m 8) (nI k + nI i).toNatClampNeg = sg (b (k + i)) := by rw [nI_add, nI_clamp (by omega)]; exact tp _ (by omega)
          obtain ⟨v, hv, ev⟩ := w_asc (o + i) (by omega)
          refine eX12_wordOf (And.intro (fun q => absurd q (nI_ge (by omega) (by omega))) (fun _ => And.intro (fun q => absurd q (by decide)) (fun _ => And.intro vw (And.intro vt (And.intro (fun q => (eX12_wordOf (eX12_wordOf ?_))) (fun q => (eX12_wordOf ?_)))))))
          · have ne : ¬ b (k + i) = wdB.getD (o + i) 0 := fun z => q (by rw [rw1, rt1, ev]; exact ((sg_eq (hb _) hv).mpr (z.trans ev)).symm)
            have f0 : E cx jX12_wordOf d a 57 [some (.ref o_m), some (.int (nI k)), some (.int (nI e)), some (.int (nI (j + 1))), some (.int (nI o)), some (.int (nI L)), some (.int 0), some (.int (nI i + 1))] [] h (RQ (.int (fst (wMt b k e) 14 0 + 1)) h) := by
              have z0 : (0 : Int32) = b2i (wMt b k e j) := (b2i_f fun z => ne (by have := z.2 i (by rw [el]; omega); rw [eo] at this; exact this)).symm
              exact eX12_wordOf (And.intro (fun _ => e104 0 _ z0) (fun _ => And.intro (fun _ => e104 0 _ z0) (fun q => absurd rfl q)))
            exact f0
          · have y : b (k + i) = wdB.getD (o + i) 0 := by
              have q : wdB.getD (o + i) 0 = sg (b (k + i)) := by rw [← rw1, ← rt1]; exact q
              rw [ev] at q ⊢
              exact (sg_eq (hb _) hv).mp q.symm
            have i2 := ih' (i + 1) (by omega) (by omega) hek (fun i' h' => by
              by_cases e' : i' = i
              · rw [e']; exact y
              · exact all i' (by omega))
            rw [nI_succ i] at i2
            exact i2
      have e52 : ∀ v l7, v = b2i (L = e - k) → E cx jX12_wordOf d a 52 [some (.ref o_m), some (.int (nI k)), some (.int (nI e)), some (.int (nI (j + 1))), some (.int (nI o)), some (.int (nI L)), l6, l7] [.int v] h (RQ (.int (fst (wMt b k e) 14 0 + 1)) h) := fun v l7 ev => by
        by_cases y : L = e - k
        · rw [b2i_t y] at ev; subst ev
          exact eX12_wordOf (same L 0 rfl (Nat.zero_le _) y.symm (fun i' h' => absurd h' (Nat.not_lt_zero _)))
        · rw [b2i_f y] at ev; subst ev
          have z0 : (0 : Int32) = b2i (wMt b k e j) := (b2i_f fun z => y (by rw [← el]; exact z.1.symm)).symm
          exact eX12_wordOf (eX12_wordOf (And.intro (fun _ => e104 0 _ z0) (fun _ => And.intro (fun _ => e104 0 _ z0) (fun q => absurd rfl q))))
      have len : ∀ r' i, r' + i = L → E cx jX12_wordOf d a 18 [some (.ref o_m), some (.int (nI k)), some (.int (nI e)), some (.int (nI (j + 1))), some (.int (nI o)), some (.int (nI i)), l6, l7] [] h (RQ (.int (fst (wMt b k e) 14 0 + 1)) h) := by
        intro r'
        induction r' with
        | zero =>
          intro i hi
          obtain rfl : i = L := by omega
          have vw : vp_in (nI o + nI i) 64 := by rw [nI_add]; exact vp_in_nI (by omega) (by decide)
          have rw1 : hI h (ly_rf o_m 7) (nI o + nI i).toNatClampNeg = wdB.getD (o + i) 0 := by rw [nI_add, nI_clamp (by omega)]; exact wd _ (by omega)
          refine eX12_wordOf (And.intro vw (And.intro (fun _ => (eX12_wordOf (And.intro (fun q => (eX12_wordOf (e52 0 _ (b2i_f ?_).symm))) (fun q => (e52 1 _ (b2i_t ?_).symm))))) (fun q => absurd (rw1.trans w4) q)))
          · intro z; exact q (by rw [sub, z])
          · rw [sub] at q; exact (nI_eq (by omega) (by omega)).mp q
        | succ r' ih' =>
          intro i hi
          have vw : vp_in (nI o + nI i) 64 := by rw [nI_add]; exact vp_in_nI (by omega) (by decide)
          have rw1 : hI h (ly_rf o_m 7) (nI o + nI i).toNatClampNeg = wdB.getD (o + i) 0 := by rw [nI_add, nI_clamp (by omega)]; exact wd _ (by omega)
          have i2 := ih' (i + 1) (by omega)
          rw [nI_succ i] at i2
          exact eX12_wordOf (And.intro vw (And.intro (fun q => absurd (rw1.symm.trans q) (w5 i (by omega))) (fun _ => i2)))
      refine eX12_wordOf (And.intro (fun q => absurd q (nI_ge (b := 64) (by omega) (by decide))) (fun _ => ?_))
      exact len L 0 rfl
  exact sX12_wordOf rfl (loop 14 0 rfl rfl none none none)
end T83
