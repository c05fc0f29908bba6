/-! a step's word -/
def stW (k x : Int32) : Int32 := (k <<< (10 &&& 31)) ||| (x &&& 1023)
theorem stW_dec : ∀ k, k < 12 → ∀ v, v < 1024 → stW (nI k) (nI v) >>> ((10 : Int32) &&& 31) = nI k ∧ stW (nI k) (nI v) &&& 1023 = nI v := by decide +kernel
