/-! the model looks: who touches whom, what each needs -/
section T57
variable {cx : Cx} {d a : Nat} {h g : Hp}
/-- cell k of item i (A cells wide) has a neighbour cell in item j -/
def tchK (w : Wd) (i j A k : Nat) : Prop := cCov w j (w (7 * i + 0) + nI (k % A) + 1) (w (7 * i + 1) + nI (k / A)) ∨ cCov w j (w (7 * i + 0) + nI (k % A) - 1) (w (7 * i + 1) + nI (k / A)) ∨ cCov w j (w (7 * i + 0) + nI (k % A)) (w (7 * i + 1) + nI (k / A) + 1) ∨ cCov w j (w (7 * i + 0) + nI (k % A)) (w (7 * i + 1) + nI (k / A) - 1)
def sizeOk (w : Wd) (i A B : Nat) : Prop := w (7 * i + 2) = nI A ∧ w (7 * i + 3) = nI B ∧ 0 < A ∧ A ≤ 6 ∧ 0 < B ∧ B ≤ 6
def tch (w : Wd) (i j : Nat) : Prop := ∃ A B, sizeOk w i A B ∧ ∃ k, k < A * B ∧ tchK w i j A k
theorem size_inj {w : Wd} {i A B A' B' : Nat} (p : sizeOk w i A B) (q : sizeOk w i A' B') : A = A' ∧ B = B' := by
  have e1 := congrArg Int32.toNatClampNeg (p.1.symm.trans q.1)
  have e2 := congrArg Int32.toNatClampNeg (p.2.1.symm.trans q.2.1)
  have := p.2.2; have := q.2.2
  rw [nI_clamp (by omega), nI_clamp (by omega)] at e1 e2
  exact ⟨e1, e2⟩
theorem n_touch (hd : 2 ≤ d) {i j A B : Nat} (hi : i < 22) (hj : j < 22) (sz : sizeOk (kW h) i A B) : M cx jX12_touch d a [.ref o_m, .int (nI i), .int (nI j)] h (RQ (.int (b2i (tch (kW h) i j))) h) := by
  obtain ⟨eA, eB, hA, hA6, hB, hB6⟩ := sz
  have hAB : A * B ≤ 36 := Nat.mul_le_mul hA6 hB6
  have hA0 : ¬ nI A = 0 := fun z => by
    have := congrArg Int32.toNatClampNeg z; rw [nI_clamp (by omega)] at this; exact absurd this (by show A ≠ 0; omega)
  have f : ∀ (n : Nat) (q : Int32), q = nI n → n < 7 → M cx jX12_factOf (d - 1) 0 [.ref o_m, .int (nI i), .int q] h (RQ (.int (kW h (7 * i + n))) h) := fun n q eq hn => n_factOf rfl eq hi hn
  have f2 : M cx jX12_factOf (d - 1) 0 [.ref o_m, .int (nI i), .int 2] h (RQ (.int (nI A)) h) := by rw [← eA]; exact f 2 _ rfl (by decide)
  have f3 : M cx jX12_factOf (d - 1) 0 [.ref o_m, .int (nI i), .int 3] h (RQ (.int (nI B)) h) := by rw [← eB]; exact f 3 _ rfl (by decide)
  have loop : ∀ n k, n + k = A * B → (∀ c, c < k → ¬ tchK (kW h) i j A c) → ∀ l4 l5, E cx jX12_touch d a 2 [some (.ref o_m), some (.int (nI i)), some (.int (nI j)), some (.int (nI k)), l4, l5] [] h (RQ (.int (b2i (tch (kW h) i j))) h) := by
    intro n
    induction n with
    | zero =>
      intro k hk H l4 l5
      obtain rfl : k = A * B := by omega
      refine eX12_touch (wcV f2 (wcV f3 (And.intro (fun _ => eX12_touch (And.intro (Or.inl rfl) (RQ_eq (b2i_f ?_).symm))) (fun q => absurd (by rw [pk_mul]; exact Int32.le_refl _) q))))
      rintro ⟨A', B', sz', c, hc, ht⟩
      obtain ⟨rfl, rfl⟩ := size_inj ⟨eA, eB, hA, hA6, hB, hB6⟩ sz'
      exact H c hc ht
    | succ n ih =>
      intro k hk H l4 l5
      have eD : nI k / nI A = nI (k / A) := pk_div (by omega) hA (by omega)
      have eR : nI k - nI k / nI A * nI A = nI (k % A) := pk_rem (by omega) hA (by omega)
      have yes : tchK (kW h) i j A k → ∀ l4 l5, E cx jX12_touch d a 109 [some (.ref o_m), some (.int (nI i)), some (.int (nI j)), some (.int (nI k)), l4, l5] [] h (RQ (.int (b2i (tch (kW h) i j))) h) := fun z l4 l5 =>
        eX12_touch (And.intro (Or.inr rfl) (RQ_eq (b2i_t ⟨A, B, ⟨eA, eB, hA, hA6, hB, hB6⟩, k, by omega, z⟩).symm))
      have no : ¬ tchK (kW h) i j A k → ∀ l4 l5, E cx jX12_touch d a 111 [some (.ref o_m), some (.int (nI i)), some (.int (nI j)), some (.int (nI k)), l4, l5] [] h (RQ (.int (b2i (tch (kW h) i j))) h) := fun z l4 l5 => by
        have := ih (k + 1) (by omega) (fun c hc => by
          rcases Nat.lt_succ_iff_lt_or_eq.mp hc with hc | rfl
          · exact H c hc
          · exact z) l4 l5
        rw [nI_succ] at this
        exact eX12_touch this
      have cv : ∀ x y : Int32, M cx jX12_covers (d - 1) 0 [.ref o_m, .int (nI j), .int x, .int y] h (RQ (.int (b2i (cCov (kW h) j x y))) h) := fun x y => n_covers (by omega) rfl hj
      refine eX12_touch (wcV f2 (wcV f3 (And.intro (fun q => absurd q (by rw [pk_mul]; exact nI_ge (by omega) (by omega))) (fun _ => wcV (f 0 _ rfl (by decide)) (wcV f2 (And.intro hA0 (wcV (f 1 _ rfl (by decide)) (wcV f2 (And.intro hA0 (wcV (cv _ _) (And.intro (fun q1 => yes ?_ _ _) (fun q1 => wcV (cv _ _) (And.intro (fun q2 => yes ?_ _ _) (fun q2 => wcV (cv _ _) (And.intro (fun q3 => yes ?_ _ _) (fun q3 => wcV (cv _ _) (And.intro (fun q4 => no ?_ _ _) (fun q4 => yes ?_ _ _))))))))))))))))))
      · have z := b2i_n q1; rw [eR, eD] at z; exact Or.inl z
      · have z := b2i_n q2; rw [eR, eD] at z; exact Or.inr (Or.inl z)
      · have z := b2i_n q3; rw [eR, eD] at z; exact Or.inr (Or.inr (Or.inl z))
      · rw [eR, eD] at q1 q2 q3 q4
        rintro (z | z | z | z)
        · exact b2i_0.mp q1 z
        · exact b2i_0.mp q2 z
        · exact b2i_0.mp q3 z
        · exact b2i_0.mp q4 z
      · have z := b2i_n q4; rw [eR, eD] at z; exact Or.inr (Or.inr (Or.inr z))
  exact sX12_touch rfl (loop (A * B) 0 rfl (fun c hc => by omega) none none)
end T57
