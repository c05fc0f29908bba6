/-! the steps that were read mean the clauses -/
section T99999
variable {g : Hp} {o m : Nat} {cs : List CS} {T ST : Nat → Int32}
theorem law_mean (hl : lawp g o) (e1 : hL g (o + 1) = m) (e2 : hL g (o + 2) = 2 * cs.length + 1) (h4 : m ≤ 400) (h12 : cs.length ≤ 12) (s1 : ∀ i, i < m → hI g (o + 1) i = T i) (s2 : ∀ i, i < 2 * cs.length → hI g (o + 2) i = ST i) (s3 : hI g (o + 2) (2 * cs.length) = nI m) (ec : hI g o 2 = nI cs.length) (ci : clsI T ST m cs) : lawMean g o cs := by
  obtain ⟨f, f1, f2, f3, f4⟩ := ci
  have fS : ∀ k, k ≤ 2 * cs.length → fStart g o (nI k) = nI (f k) := fun k hk => by
    unfold fStart
    rw [e2, if_pos ⟨nI_pos' (by omega), nI_lt (by omega) (by omega)⟩, nI_clamp (by omega)]
    by_cases c : k = 2 * cs.length
    · rw [c, s3, f1]
    · rw [s2 k (by omega), f2 k (by omega)]
  have fle : ∀ k, k ≤ 2 * cs.length → f k ≤ m := fun k hk => by
    have := up_le f3 (2 * cs.length - k) k (by omega)
    rw [show k + (2 * cs.length - k) = 2 * cs.length by omega, f1] at this
    exact this
  have fSt : ∀ i, i < m → fStep g o (nI i) = T i := fun i hi => by
    unfold fStep
    rw [e1, if_pos ⟨nI_pos' (by omega), nI_lt hi (by omega)⟩, nI_clamp (by omega)]
    exact s1 i hi
  refine ⟨⟨⟨hl, by omega, by omega⟩, h12, ec, fun k hk => ⟨f k, by have := fle k hk; omega, fS k hk⟩⟩, fun c hc => ?_⟩
  have sE : ∀ k, k + 1 ≤ 2 * cs.length → (sEmp g o (nI k) ↔ f (k + 1) ≤ f k) := fun k hk => by
    unfold sEmp
    have l1 := fle k (by omega)
    have l2 := fle (k + 1) hk
    rw [← nI_succ, fS k (by omega), fS (k + 1) hk]
    exact nI_leI (by omega) (by omega)
  have aV : ∀ k F p, k + 1 ≤ 2 * cs.length → avP g o k F p = aval F (fStep g o) p (nI (f (k + 1))) 401 (nI (f k)) ([], 0) := fun k F p hk => by
    unfold avP; rw [fS k (by omega), fS (k + 1) hk]
  obtain ⟨a1, a2, a3⟩ := f4 c hc
  have l0 := fle (2 * c) (by omega)
  have l1 := fle (2 * c + 1) (by omega)
  have l2 := fle (2 * c + 2) (by omega)
  refine ⟨?_, fun F p e er => ⟨fun z => ?_, ?_⟩⟩
  · rw [sE (2 * c) (by omega)]
    constructor
    · intro z; rw [a1 z]; exact Nat.le_refl _
    · intro z
      cases hb : cs[c].1 with
      | true => rfl
      | false =>
        obtain ⟨k, _, b2⟩ := a2 hb
        have := b2.2.1; omega
  · obtain ⟨k, hk, b1, b2, b3⟩ := a2 z
    rw [aV (2 * c) F p (by omega)]
    obtain ⟨d1, d2⟩ := b3 F (fStep g o) p e (fun i h1 h2 => fSt i (by omega)) er [] (by show 0 + k ≤ 64; omega)
    unfold rnV
    cases hv : cs[c].2.1 e with
    | none =>
      obtain ⟨i', x', y1, y2, y3⟩ := d2 hv
      exact Go_brk y3 y2 y1 (by omega) (by omega)
    | some u =>
      have := Go_end (d1 u hv) (by omega) (n := 401) (by omega)
      rw [this]; exact ⟨rfl, rfl⟩
  · rcases a3 with ⟨y1, y2⟩ | ⟨k, hk, b1, b2, b3⟩
    · left
      rw [sE (2 * c + 1) (by omega)]
      exact ⟨by rw [show 2 * c + 1 + 1 = 2 * c + 2 from rfl, y1]; exact Nat.le_refl _, by rw [y2]; rfl⟩
    · right
      rw [sE (2 * c + 1) (by omega), aV (2 * c + 1) F p (by omega)]
      refine ⟨by rw [show 2 * c + 1 + 1 = 2 * c + 2 from rfl]; omega, ?_⟩
      obtain ⟨d1, d2⟩ := b3 F (fStep g o) p e (fun i h1 h2 => fSt i (by omega)) er [] (by show 0 + k ≤ 64; omega)
      unfold rbV
      cases hv : cs[c].2.2 e with
      | none =>
        obtain ⟨i', x', y1, y2, y3⟩ := d2 hv
        exact Go_brk y3 y2 y1 (by show f (2 * c + 2) ≤ 400; omega) (by show f (2 * c + 2) < _; omega)
      | some u =>
        obtain ⟨v, hv2, y3⟩ := d1 u hv
        have := Go_end y3 (by omega) (n := 401) (by omega)
        rw [show 2 * c + 1 + 1 = 2 * c + 2 from rfl, this]; exact ⟨rfl, hv2⟩
end T99999
