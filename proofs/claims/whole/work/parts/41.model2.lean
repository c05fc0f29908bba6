/-! the model: room for a stone, what is laid -/
section T41
variable {cx : Cx} {d a : Nat} {h g : Hp}
/-- cell k of an oblong from x, y on, wd cells wide, belongs to item i -/
def cHit (w : Wd) (x y : Int32) (wd i k : Nat) : Prop := cItem w i ∧ cCov w i (x + nI (k % wd)) (y + nI (k / wd))
theorem n_isFree (hd : 3 ≤ d) {x y : Int32} {A B : Nat} {p q : Int32} (ep : p = nI A) (eq : q = nI B) (hA : 0 < A) (hA6 : A ≤ 6) (hB : B ≤ 6) : M cx jX12_isFree d a [.ref o_m, .int x, .int y, .int p, .int q] h (RQ (.int (b2i (∀ i, i < 22 → ∀ k, k < A * B → ¬ cHit (kW h) x y A i k))) h) := by
  subst ep; subst eq
  have hAB : A * B ≤ 36 := Nat.mul_le_mul hA6 hB
  have em : nI A * nI B = nI (A * B) := pk_mul A B
  have hA0 : ¬ nI A = 0 := fun z => by
    have := congrArg Int32.toNatClampNeg z; rw [nI_clamp (by omega)] at this; exact absurd this (by show A ≠ 0; omega)
  have eD : ∀ k, k < 40 → nI k / nI A = nI (k / A) := fun k hk => pk_div (by omega) hA (by omega)
  have eR : ∀ k, k < 40 → nI k - nI k / nI A * nI A = nI (k % A) := fun k hk => pk_rem (by omega) hA (by omega)
  have loop : ∀ n i, n + i = 22 → (∀ e, e < i → ∀ k, k < A * B → ¬ cHit (kW h) x y A e k) → ∀ w6, E cx jX12_isFree d a 3 [some (.ref o_m), some (.int x), some (.int y), some (.int (nI A)), some (.int (nI B)), some (.int (nI i)), w6] [] h (RQ (.int (b2i (∀ i, i < 22 → ∀ k, k < A * B → ¬ cHit (kW h) x y A i k))) h) := by
    intro n
    induction n with
    | zero =>
      intro i hi H w6
      obtain rfl : i = 22 := by omega
      exact eX12_isFree (And.intro (fun _ => eX12_isFree (And.intro (Or.inr rfl) (RQ_eq (b2i_t H).symm))) (fun q => absurd (nI_le (a := 22) (b := 22) (Nat.le_refl _) (by decide)) q))
    | succ n ih =>
      intro i hi H w6
      have inner : ∀ n2 k, n2 + k = A * B → (∀ e, e < k → ¬ cHit (kW h) x y A i e) → E cx jX12_isFree d a 13 [some (.ref o_m), some (.int x), some (.int y), some (.int (nI A)), some (.int (nI B)), some (.int (nI i)), some (.int (nI k))] [] h (RQ (.int (b2i (∀ i, i < 22 → ∀ k, k < A * B → ¬ cHit (kW h) x y A i k))) h) := by
        intro n2
        induction n2 with
        | zero =>
          intro k hk H2
          obtain rfl : k = A * B := by omega
          refine eX12_isFree (And.intro (fun _ => eX12_isFree ?_) (fun q => absurd (by rw [em]; exact Int32.le_refl _) q))
          have := ih (i + 1) (by omega) (fun e he k hk => by
            rcases Nat.lt_succ_iff_lt_or_eq.mp he with he | rfl
            · exact H e he k hk
            · exact H2 k hk) (some (.int (nI (A * B))))
          rw [nI_succ] at this
          exact this
        | succ n2 ih2 =>
          intro k hk H2
          have go : ¬ cHit (kW h) x y A i k → E cx jX12_isFree d a 54 [some (.ref o_m), some (.int x), some (.int y), some (.int (nI A)), some (.int (nI B)), some (.int (nI i)), some (.int (nI k))] [] h (RQ (.int (b2i (∀ i, i < 22 → ∀ k, k < A * B → ¬ cHit (kW h) x y A i k))) h) := fun z => by
            have := ih2 (k + 1) (by omega) (fun e he => by
              rcases Nat.lt_succ_iff_lt_or_eq.mp he with he | rfl
              · exact H2 e he
              · exact z)
            rw [nI_succ] at this
            exact eX12_isFree this
          refine eX12_isFree (And.intro (fun q => absurd q (by rw [em]; exact nI_ge (by omega) (by omega))) (fun _ => wcV (n_isItem (by omega) rfl (by omega)) (And.intro (fun q1 => go fun z => b2i_0.mp q1 z.1) (fun q1 => And.intro hA0 (And.intro hA0 (wcV (n_covers (by omega) rfl (by omega)) (And.intro (fun q2 => go ?_) (fun q2 => And.intro (Or.inl rfl) (RQ_eq (b2i_f ?_).symm)))))))))
          · intro z
            refine b2i_0.mp q2 ?_
            rw [eR k (by omega), eD k (by omega)]
            exact z.2
          · intro z
            have z2 := b2i_n q2
            rw [eR k (by omega), eD k (by omega)] at z2
            exact z i (by omega) k (by omega) ⟨b2i_n q1, z2⟩
      refine eX12_isFree (And.intro (fun q => absurd q (nI_ge (a := i) (b := 22) (by omega) (by decide))) (fun _ => ?_))
      exact inner (A * B) 0 rfl (fun e he => by omega)
  exact sX12_isFree rfl (loop 22 0 rfl (fun e he => by omega) none)
/-- what is laid at place k -/
def nlayH (h : Hp) (k : Nat) (x y wd tl wt : Int32) : Hp := wI (wI (wI (wI (wI (wI (wI h o_m_kept (7 * k + 0) x) o_m_kept (7 * k + 1) y) o_m_kept (7 * k + 2) wd) o_m_kept (7 * k + 3) tl) o_m_kept (7 * k + 4) wt) o_m_kept (7 * k + 5) 0) o_m_kept (7 * k + 6) 0
theorem n_lays {k : Nat} {p x y wd tl wt : Int32} (ep : p = nI k) (hk : k < 22) : M cx jX12_lays d a [.ref o_m, .int p, .int x, .int y, .int wd, .int tl, .int wt] h (RV (nlayH h k x y wd tl wt)) := by
  subst ep
  have e0 : (7 : Int32) * nI k = nI (7 * k + 0) := by rw [show (7 : Int32) = nI 7 from rfl, pk_mul]; rfl
  have v : ∀ n, n < 7 → vp_in ((7 : Int32) * nI k + nI n) 4968 ∧ ((7 : Int32) * nI k + nI n).toNatClampNeg = 7 * k + n := fun n hn => by
    rw [ix_7]; exact ⟨vp_in_nI (by omega) (by decide), nI_clamp (by omega)⟩
  have v0 : vp_in ((7 : Int32) * nI k) 4968 ∧ ((7 : Int32) * nI k).toNatClampNeg = 7 * k + 0 := by
    rw [e0]; exact ⟨vp_in_nI (by omega) (by decide), nI_clamp (by omega)⟩
  refine sX12_lays rfl (And.intro v0.1 (And.intro (v 1 (by decide)).1 (And.intro (v 2 (by decide)).1 (And.intro (v 3 (by decide)).1 (And.intro (v 4 (by decide)).1 (And.intro (v 5 (by decide)).1 (And.intro (v 6 (by decide)).1 ⟨rfl, ?_⟩)))))))
  rw [v0.2]
  show wI (wI (wI (wI (wI (wI (wI h o_m_kept (7 * k + 0) x) o_m_kept ((7 : Int32) * nI k + nI 1).toNatClampNeg y) o_m_kept ((7 : Int32) * nI k + nI 2).toNatClampNeg wd) o_m_kept ((7 : Int32) * nI k + nI 3).toNatClampNeg tl) o_m_kept ((7 : Int32) * nI k + nI 4).toNatClampNeg wt) o_m_kept ((7 : Int32) * nI k + nI 5).toNatClampNeg 0) o_m_kept ((7 : Int32) * nI k + nI 6).toNatClampNeg 0 = _
  rw [(v 1 (by decide)).2, (v 2 (by decide)).2, (v 3 (by decide)).2, (v 4 (by decide)).2, (v 5 (by decide)).2, (v 6 (by decide)).2]
  rfl
def naddH (h : Hp) (n : Nat) (x y wd tl wt : Int32) : Hp := wI (wI (nlayH h n x y wd tl wt) o_m_kept 159 (kW (nlayH h n x y wd tl wt) 159 ||| ((1 : Int32) <<< (nI n &&& 31)))) o_m_kept 157 (kW (wI (nlayH h n x y wd tl wt) o_m_kept 159 (kW (nlayH h n x y wd tl wt) 159 ||| ((1 : Int32) <<< (nI n &&& 31)))) 157 + 1)
theorem n_adds (hd : 1 ≤ d) {n : Nat} {x y wd tl wt : Int32} (en : kW h 157 = nI n) (hn : n < 14) : M cx jX12_adds d a [.ref o_m, .int x, .int y, .int wd, .int tl, .int wt] h (RQ (.int (nI n)) (naddH h n x y wd tl wt)) := by
  refine sX12_adds rfl (wcV (v := .int (nI n)) (by rw [← en]; exact n_stones) (wcV0 (n_lays rfl (by omega)) (And.intro (vp_in_nI (n := 159) (by decide) (by decide)) (And.intro (vp_in_nI (n := 159) (by decide) (by decide)) (And.intro (vp_in_nI (n := 157) (by decide) (by decide)) (And.intro (vp_in_nI (n := 157) (by decide) (by decide)) ⟨rfl, rfl⟩))))))
end T41
