/-! the model: what stands, what falls -/
section T59
variable {cx : Cx} {d a : Nat} {h g : Hp}
def inB (s : Int32) (k : Nat) : Prop := (s >>> (nI k &&& 31)) &&& 1 = 1
def nStd (g : Hp) (s : Int32) (i : Nat) : Prop := ¬ hI g o_m_bound i = 0 ∨ hI g o_m_needs i ≤ onesR (hI g o_m_near i &&& s) 22 + hI g o_m_firm i
theorem n_stands (hd : 1 ≤ d) {i : Nat} {p s : Int32} (ep : p = nI i) (hi : i < 22) : M cx jX12_stands d a [.ref o_m, .int p, .int s] h (RQ (.int (b2i (nStd h s i))) h) := by
  subst ep
  have vi : vp_in (nI i) 22 := vp_in_nI hi (by decide)
  have ci : (nI i).toNatClampNeg = i := nI_clamp (by omega)
  have yes : nStd h s i → E cx jX12_stands d a 36 [some (.ref o_m), some (.int (nI i)), some (.int s)] [] h (RQ (.int (b2i (nStd h s i))) h) := fun z => eX12_stands (eX12_stands (And.intro (Or.inr rfl) (RQ_eq (b2i_t z).symm)))
  refine sX12_stands rfl (And.intro vi (And.intro (fun q1 => yes (Or.inl ?_)) (fun q1 => And.intro vi (wcS n_ones (And.intro vi (And.intro vi (And.intro (fun q2 => eX12_stands (eX12_stands (And.intro (Or.inl rfl) (RQ_eq (b2i_f ?_).symm)))) (fun q2 => yes (Or.inr ?_)))))))))
  · rw [← ci]; exact q1
  · rw [ci] at q1 q2
    rintro (z | z)
    · exact z q1
    · exact absurd q2 (Int32.not_lt.mpr z)
  · rw [ci] at q2; exact Int32.not_lt.mp q2
def nlo (g : Hp) (s : Int32) (k : Nat) : Prop := inB s k ∧ ¬ nStd g s k
noncomputable def nuns (g : Hp) (s : Int32) : Int32 := bitsR (nlo g s) 22
theorem n_loose (hd : 2 ≤ d) {s : Int32} : M cx jX12_loose d a [.ref o_m, .int s] h (RQ (.int (nuns h s)) h) := by
  have loop : ∀ n k, n + k = 22 → E cx jX12_loose d a 4 [some (.ref o_m), some (.int s), some (.int (bitsR (nlo h s) k)), some (.int (nI k))] [] h (RQ (.int (nuns h s)) h) := by
    intro n
    induction n with
    | zero =>
      intro k hk
      obtain rfl : k = 22 := by omega
      exact eX12_loose (And.intro (fun _ => eX12_loose (RQ_eq rfl)) (fun q => absurd (nI_le (a := 22) (b := 22) (Nat.le_refl _) (by decide)) q))
    | succ n ih =>
      intro k hk
      have no : ¬ nlo h s k → E cx jX12_loose d a 33 [some (.ref o_m), some (.int s), some (.int (bitsR (nlo h s) k)), some (.int (nI k))] [] h (RQ (.int (nuns h s)) h) := fun z => by
        have := ih (k + 1) (by omega)
        rw [nI_succ, bitsR_f z] at this
        exact eX12_loose this
      refine eX12_loose (And.intro (fun q => absurd q (nI_ge (a := k) (b := 22) (by omega) (by decide))) (fun _ => wcS n_isIn (And.intro (fun q1 => no fun z => b2i_0.mp q1 z.1) (fun q1 => wcV (n_stands (by omega) rfl (by omega)) (And.intro (fun q2 => no fun z => z.2 (b2i_n q2)) (fun q2 => eX12_loose ?_))))))
      have := ih (k + 1) (by omega)
      rw [nI_succ, bitsR_t ⟨b2i_n q1, b2i_0.mp q2⟩] at this
      exact this
  exact sX12_loose rfl (loop 22 0 rfl)
noncomputable def nfR (g : Hp) : Nat → Int32 → Int32
  | 0, s => s
  | n + 1, s => if nuns g s = 0 then s else nfR g n (s &&& (nuns g s ^^^ -1))
noncomputable def nrR (g : Hp) : Nat → Int32 → Nat
  | 0, _ => 0
  | n + 1, s => if nuns g s = 0 then 0 else nrR g n (s &&& (nuns g s ^^^ -1)) + 1
theorem nrR_le {n : Nat} : ∀ {s : Int32}, nrR g n s ≤ n := by
  induction n with
  | zero => intro s; exact Nat.le_refl _
  | succ n ih => intro s; rw [nrR]; split
                 · omega
                 · have := @ih (s &&& (nuns g s ^^^ -1)); omega
theorem n_fall (hd : 3 ≤ d) {n : Nat} {s : Int32} (hz : nuns h (nfR h n s) = 0) : M cx jX12_fall d a [.ref o_m, .int s] h (RQ (.int (nfR h n s)) h) := by
  have loop : ∀ n s t, nuns h (nfR h n s) = 0 → E cx jX12_fall d a 2 [some (.ref o_m), some (.int t), some (.int s)] [] h (RQ (.int (nfR h n s)) h) := by
    intro n
    induction n with
    | zero =>
      intro s t hz
      exact eX12_fall (wcV (n_loose (by omega)) (And.intro (fun _ => eX12_fall (RQ_eq rfl)) (fun q => absurd hz q)))
    | succ n ih =>
      intro s t hz
      rw [nfR] at hz ⊢
      refine eX12_fall (wcV (n_loose (by omega)) (And.intro (fun q => eX12_fall (RQ_eq ?_)) (fun q => wcV (n_loose (by omega)) ?_)))
      · rw [if_pos q]
      · rw [if_neg q] at hz ⊢
        exact ih _ t hz
  exact sX12_fall rfl (loop n s s hz)
noncomputable def nwt (w : Wd) (s : Int32) : Nat → Int32
  | 0 => 0
  | k + 1 => nwt w s k + @ite _ (inB s k) (Classical.propDecidable _) (w (7 * k + 4)) 0
theorem n_weightOf (hd : 1 ≤ d) {n : Nat} {s : Int32} (en : kW h 157 = nI n) (hn : n ≤ 14) : M cx jX12_weightOf d a [.ref o_m, .int s] h (RQ (.int (nwt (kW h) s n)) h) := by
  have st : M cx jX12_stones (d - 1) 0 [.ref o_m] h (RQ (.int (nI n)) h) := by rw [← en]; exact n_stones
  have loop : ∀ m k, m + k = n → E cx jX12_weightOf d a 4 [some (.ref o_m), some (.int s), some (.int (nwt (kW h) s k)), some (.int (nI k))] [] h (RQ (.int (nwt (kW h) s n)) h) := by
    intro m
    induction m with
    | zero =>
      intro k hk
      obtain rfl : k = n := by omega
      exact eX12_weightOf (wcV st (And.intro (fun _ => eX12_weightOf (RQ_eq rfl)) (fun q => absurd (Int32.le_refl _) q)))
    | succ m ih =>
      intro k hk
      refine eX12_weightOf (wcV st (And.intro (fun q => absurd q (nI_ge (by omega) (by omega))) (fun _ => wcS n_isIn (And.intro (fun q1 => eX12_weightOf (eX12_weightOf ?_)) (fun q1 => wcV (n_factOf (k := k) (f := 4) rfl rfl (by omega) (by decide)) (eX12_weightOf ?_))))))
      · have := ih (k + 1) (by omega)
        rw [nI_succ, nwt, if_neg (show ¬ inB s k from b2i_0.mp q1)] at this
        exact this
      · have := ih (k + 1) (by omega)
        rw [nI_succ, nwt, if_pos (show inB s k from b2i_n q1)] at this
        exact this
  exact sX12_weightOf rfl (loop n 0 rfl)
theorem n_at (hd : 2 ≤ d) {n : Nat} {x y : Int32} (en : kW h 157 = nI n) (hn : n ≤ 14) : M cx jX12_at d a [.ref o_m, .int x, .int y] h (RQ (.int (fst (fun k => inB (kW h 159) k ∧ cCov (kW h) k x y) n 0)) h) := by
  have st : M cx jX12_stones (d - 1) 0 [.ref o_m] h (RQ (.int (nI n)) h) := by rw [← en]; exact n_stones
  have loop : ∀ m k, m + k = n → E cx jX12_at d a 2 [some (.ref o_m), some (.int x), some (.int y), some (.int (nI k))] [] h (RQ (.int (fst (fun k => inB (kW h 159) k ∧ cCov (kW h) k x y) m k)) h) := by
    intro m
    induction m with
    | zero =>
      intro k hk
      obtain rfl : k = n := by omega
      exact eX12_at (wcV st (And.intro (fun _ => eX12_at (RQ_eq rfl)) (fun q => absurd (Int32.le_refl _) q)))
    | succ m ih =>
      intro k hk
      have no : ¬ (inB (kW h 159) k ∧ cCov (kW h) k x y) → E cx jX12_at d a 37 [some (.ref o_m), some (.int x), some (.int y), some (.int (nI k))] [] h (RQ (.int (fst (fun k => inB (kW h 159) k ∧ cCov (kW h) k x y) (m + 1) k)) h) := fun z => by
        have := ih (k + 1) (by omega)
        rw [nI_succ] at this
        rw [fst_f z]
        exact eX12_at this
      refine eX12_at (wcV st (And.intro (fun q => absurd q (nI_ge (by omega) (by omega))) (fun _ => And.intro (vp_in_nI (n := 159) (by decide) (by decide)) (wcS n_isIn (And.intro (fun q1 => no fun z => b2i_0.mp q1 z.1) (fun q1 => wcV (n_covers (by omega) rfl (by omega)) (And.intro (fun q2 => no fun z => b2i_0.mp q2 z.2) (fun q2 => RQ_eq ?_))))))))
      exact (fst_t (P := fun k => inB (kW h 159) k ∧ cCov (kW h) k x y) ⟨b2i_n q1, b2i_n q2⟩).symm
  exact sX12_at rfl (loop n 0 rfl)
end T59
