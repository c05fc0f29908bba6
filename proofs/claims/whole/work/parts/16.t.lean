def b2i (p : Prop) [Decidable p] : Int32 := if p then 1 else 0
/-- answers r, leaves h' -/
abbrev RQ (r : Value) (h' : Hp) : Option Value → Hp → Prop := fun q g => q = some r ∧ g = h'
section T16
variable {cx : Cx} {d a : Nat} {h : Hp}
theorem m_isWithin {v lo hi : Int32} : M cx jX11_isWithin d a [.int v, .int lo, .int hi] h (RQ (.int (b2i (lo ≤ v ∧ v ≤ hi))) h) := by
  refine sX11_isWithin rfl ?_
  refine And.intro (fun q1 => ?_) (fun q1 => And.intro (fun q2 => ?_) (fun q2 => ?_))
  · refine eX11_isWithin ?_
    refine And.intro (Or.inl rfl) ⟨?_, rfl⟩
    trace_state
    sorry
  · trace_state
    sorry
  · refine eX11_isWithin ?_
    trace_state
    sorry
end T16
