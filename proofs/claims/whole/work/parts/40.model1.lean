/-! the model's plain methods -/
abbrev Wd : Type := Nat → Int32
section T40
variable {cx : Cx} {d a : Nat} {h g : Hp}
theorem b2i_cg {p q : Prop} (e : p ↔ q) : b2i p = b2i q := by rw [propext e]
/-- the model's wall -/
abbrev kW (h : Hp) : Wd := hI h o_m_kept
theorem n_lies {v lo hi : Int32} : M cx jX12_lies d a [.int v, .int lo, .int hi] h (RQ (.int (b2i (lo ≤ v ∧ v ≤ hi))) h) := by
  refine sX12_lies rfl (And.intro (fun q1 => (eX12_lies (eX12_lies (And.intro (Or.inl rfl) (RQ_eq (b2i_f ?_).symm))))) (fun q1 => (And.intro (fun q2 => (eX12_lies (eX12_lies (And.intro (Or.inl rfl) (RQ_eq (b2i_f ?_).symm))))) (fun q2 => (eX12_lies (And.intro (Or.inr rfl) (RQ_eq (b2i_t ?_).symm)))))))
  · exact fun q => absurd q1 (Int32.not_lt.mpr q.1)
  · exact fun q => absurd q2 (Int32.not_lt.mpr q.2)
  · exact ⟨Int32.not_lt.mp q1, Int32.not_lt.mp q2⟩
def nrefH (h : Hp) (k : Int32) (n : Nat) : Hp := wI (wI h o_m 0 k) o_m_refused n (hI h o_m_refused n + 1)
theorem n_refuses {k : Int32} {n : Nat} (ek : -k = nI n) (hn : n < 7) : M cx jX12_refuses d a [.ref o_m, .int k] h (RQ (.int k) (nrefH h k n)) := by
  have e1 : (-k).toNatClampNeg = n := by rw [ek, nI_clamp (by omega)]
  have e2 : vp_in (-k) 7 := by rw [ek]; exact vp_in_nI hn (by decide)
  refine sX12_refuses rfl (And.intro e2 (And.intro e2 ⟨rfl, ?_⟩))
  rw [e1]; unfold nrefH; rw [rd_o (by decide)]; rfl
def ngoodH (h : Hp) : Hp := wI (wI h o_m 0 0) o_m 1 (hI h o_m 1 + 1)
theorem n_good {v : Int32} : M cx jX12_good d a [.ref o_m, .int v] h (RQ (.int v) (ngoodH h)) := by
  refine sX12_good rfl ⟨rfl, ?_⟩
  unfold ngoodH; rw [rd_k (by decide)]
theorem n_isIn {s k : Int32} : M cx jX12_isIn d a [.int s, .int k] h (RQ (.int (b2i ((s >>> (k &&& 31)) &&& 1 = 1))) h) := by
  refine sX12_isIn rfl (And.intro (fun q1 => (eX12_isIn (eX12_isIn (And.intro (Or.inl rfl) (RQ_eq (b2i_f q1).symm))))) (fun q1 => (eX12_isIn (And.intro (Or.inr rfl) (RQ_eq (b2i_t q1).symm)))))
def onesR (s : Int32) : Nat → Int32
  | 0 => 0
  | k + 1 => onesR s k + ((s >>> (nI k &&& 31)) &&& 1)
theorem n_ones {s : Int32} : M cx jX12_ones d a [.int s] h (RQ (.int (onesR s 22)) h) := by
  have loop : ∀ n k, n + k = 22 → E cx jX12_ones d a 4 [some (.int s), some (.int (onesR s k)), some (.int (nI k))] [] h (RQ (.int (onesR s 22)) h) := by
    intro n
    induction n with
    | zero =>
      intro k hk
      obtain rfl : k = 22 := by omega
      exact eX12_ones (And.intro (fun _ => eX12_ones (RQ_eq rfl)) (fun q => absurd (nI_le (a := 22) (b := 22) (Nat.le_refl _) (by decide)) q))
    | succ n ih =>
      intro k hk
      refine eX12_ones (And.intro (fun q => absurd q (nI_ge (a := k) (b := 22) (by omega) (by decide))) (fun _ => ?_))
      have := ih (k + 1) (by omega)
      rw [nI_succ] at this
      exact this
  exact sX12_ones rfl (loop 22 0 rfl)
theorem n_stones : M cx jX12_stones d a [.ref o_m] h (RQ (.int (kW h 157)) h) := sX12_stones rfl (And.intro (vp_in_nI (n := 157) (by decide) (by decide)) (RQ_eq rfl))
theorem n_spares : M cx jX12_spares d a [.ref o_m] h (RQ (.int (kW h 158)) h) := sX12_spares rfl (And.intro (vp_in_nI (n := 158) (by decide) (by decide)) (RQ_eq rfl))
def cStone (w : Wd) (p : Int32) : Prop := 0 ≤ p ∧ p ≤ w 157 - 1
theorem n_isStone (hd : 1 ≤ d) {p : Int32} : M cx jX12_isStone d a [.ref o_m, .int p] h (RQ (.int (b2i (cStone (kW h) p))) h) :=
  sX12_isStone rfl (wcV n_stones (wcS n_lies (And.intro b2i_B (RQ_eq rfl))))
theorem ix_7 {k f : Nat} : (7 : Int32) * nI k + nI f = nI (7 * k + f) := by rw [show (7 : Int32) = nI 7 from rfl, pk_mul, nI_add]
theorem n_factOf {k f : Nat} {p q : Int32} (ep : p = nI k) (eq : q = nI f) (hk : k < 22) (hf : f < 7) : M cx jX12_factOf d a [.ref o_m, .int p, .int q] h (RQ (.int (kW h (7 * k + f))) h) := by
  subst ep; subst eq
  have e0 := ix_7 (k := k) (f := f)
  have e1 : ((7 : Int32) * nI k + nI f).toNatClampNeg = 7 * k + f := by rw [e0, nI_clamp (by omega)]
  have e2 : vp_in ((7 : Int32) * nI k + nI f) 4968 := by rw [e0]; exact vp_in_nI (by omega) (by decide)
  refine sX12_factOf rfl (And.intro e2 (RQ_eq ?_))
  rw [e1]; rfl
def cItem (w : Wd) (k : Nat) : Prop := (k < 14 ∧ cStone w (nI k)) ∨ (14 ≤ k ∧ nI k - 14 < w 158)
theorem n_isItem (hd : 2 ≤ d) {k : Nat} {p : Int32} (ep : p = nI k) (hk : k < 22) : M cx jX12_isItem d a [.ref o_m, .int p] h (RQ (.int (b2i (cItem (kW h) k))) h) := by
  subst ep
  refine sX12_isItem rfl (And.intro (fun q1 => (eX12_isItem (wcV n_spares (And.intro (fun q2 => (eX12_isItem (eX12_isItem (And.intro (Or.inl rfl) (RQ_eq (b2i_f ?_).symm))))) (fun q2 => (eX12_isItem (And.intro (Or.inr rfl) (RQ_eq (b2i_t (Or.inr ?_)).symm)))))))) (fun q1 => (wcV (n_isStone (by omega)) (eX12_isItem (And.intro b2i_B (RQ_eq ?_))))))
  · have hk14 : 14 ≤ k := Nat.le_of_not_lt fun n => absurd q1 (nI_ge (a := k) (b := 14) n (by decide))
    rintro (z | z)
    · omega
    · exact absurd z.2 (Int32.not_lt.mpr q2)
  · exact ⟨Nat.le_of_not_lt fun n => absurd q1 (nI_ge (a := k) (b := 14) n (by decide)), Int32.not_le.mp q2⟩
  · have hk14 : k < 14 := Nat.lt_of_not_le fun n => q1 (nI_le (a := 14) (b := k) n (by omega))
    refine b2i_cg ⟨fun z => Or.inl ⟨hk14, z⟩, ?_⟩
    rintro (z | z)
    · exact z.2
    · omega
def cCov (w : Wd) (k : Nat) (x y : Int32) : Prop := (w (7 * k + 0) ≤ x ∧ x ≤ w (7 * k + 0) + w (7 * k + 2) - 1) ∧ (w (7 * k + 1) ≤ y ∧ y ≤ w (7 * k + 1) + w (7 * k + 3) - 1)
theorem n_covers (hd : 1 ≤ d) {k : Nat} {p x y : Int32} (ep : p = nI k) (hk : k < 22) : M cx jX12_covers d a [.ref o_m, .int p, .int x, .int y] h (RQ (.int (b2i (cCov (kW h) k x y))) h) := by
  have f : ∀ (n : Nat) (q : Int32), q = nI n → n < 7 → M cx jX12_factOf (d - 1) 0 [.ref o_m, .int p, .int q] h (RQ (.int (kW h (7 * k + n))) h) := fun n q eq hn => n_factOf ep eq hk hn
  refine sX12_covers rfl (wcV (f 0 _ rfl (by decide)) (wcV (f 0 _ rfl (by decide)) (wcV (f 2 _ rfl (by decide)) (wcS n_lies (And.intro (fun q1 => (eX12_covers (eX12_covers (And.intro (Or.inl rfl) (RQ_eq (b2i_f ?_).symm))))) (fun q1 => (wcV (f 1 _ rfl (by decide)) (wcV (f 1 _ rfl (by decide)) (wcV (f 3 _ rfl (by decide)) (wcS n_lies (And.intro (fun q2 => (eX12_covers (eX12_covers (And.intro (Or.inl rfl) (RQ_eq (b2i_f ?_).symm))))) (fun q2 => (eX12_covers (And.intro (Or.inr rfl) (RQ_eq (b2i_t ?_).symm)))))))))))))))
  · exact fun z => b2i_0.mp q1 z.1
  · exact fun z => b2i_0.mp q2 z.2
  · exact ⟨b2i_n q1, b2i_n q2⟩
def cCan (x y wd tl wt : Int32) : Prop := ((1 : Int32) ≤ wd ∧ wd ≤ 6) ∧ ((1 : Int32) ≤ tl ∧ tl ≤ 6) ∧ ((0 : Int32) ≤ x ∧ x ≤ 12 - wd) ∧ ((0 : Int32) ≤ y ∧ y ≤ 8 - tl) ∧ ((1 : Int32) ≤ wt ∧ wt ≤ 99)
theorem n_canBe (hd : 1 ≤ d) {x y wd tl wt : Int32} : M cx jX12_canBe d a [.int x, .int y, .int wd, .int tl, .int wt] h (RQ (.int (b2i (cCan x y wd tl wt))) h) := by
  have no : ¬ cCan x y wd tl wt → E cx jX12_canBe d a 59 [some (.int x), some (.int y), some (.int wd), some (.int tl), some (.int wt)] [] h (RQ (.int (b2i (cCan x y wd tl wt))) h) := fun z => eX12_canBe (eX12_canBe (And.intro (Or.inl rfl) (RQ_eq (b2i_f z).symm)))
  refine sX12_canBe rfl (wcS n_lies (And.intro (fun q1 => no fun z => b2i_0.mp q1 z.1) (fun q1 => (wcS n_lies (And.intro (fun q2 => no fun z => b2i_0.mp q2 z.2.1) (fun q2 => (wcS n_lies (And.intro (fun q3 => no fun z => b2i_0.mp q3 z.2.2.1) (fun q3 => (wcS n_lies (And.intro (fun q4 => no fun z => b2i_0.mp q4 z.2.2.2.1) (fun q4 => (wcS n_lies (And.intro (fun q5 => no fun z => b2i_0.mp q5 z.2.2.2.2) (fun q5 => (eX12_canBe (And.intro (Or.inr rfl) (RQ_eq (b2i_t ⟨b2i_n q1, b2i_n q2, b2i_n q3, b2i_n q4, b2i_n q5⟩).symm))))))))))))))))))
end T40
