/-! how contracts are written and used -/
noncomputable def b2i (p : Prop) : Int32 := @ite _ p (Classical.propDecidable p) 1 0
/-- answers r, leaves h' -/
abbrev RQ (r : Value) (h' : Hp) : Option Value → Hp → Prop := fun q g => q = some r ∧ g = h'
/-- answers nothing, leaves h' -/
abbrev RV (h' : Hp) : Option Value → Hp → Prop := fun q g => q = none ∧ g = h'
section T16
variable {cx : Cx} {j d a pc : Nat} {h h' : Hp} {Q : Option Value → Hp → Prop} {loc : Lc} {st vs : List Value} {r : List Ins} {o x : Nat} {v : Value}
/-- a call of an instance method that answers v and leaves h' -/
theorem wcV {cnd : Prop} (hM : M cx x (d - 1) 0 (.ref o :: vs) h (RQ v h')) (kk : wp cx j d Q r pc a loc (v :: st) h') (hr : cnd := by rfl) (hs : (st.map fun v => v.category).sum ≤ 8 := by exact Nat.le_of_ble_eq_true rfl) (hd0 : 0 < d := by omega) (hok : rok loc st = true ∨ hN h' = hN h := by first | exact Or.inr rfl | exact Or.inl rfl) :
    cnd ∧ (st.map fun v => v.category).sum ≤ 8 ∧ 0 < d ∧ ∃ (a' : Nat) (Q' : Option Value → Hp → Prop), a' ≤ a ∧ (rok loc st = true ∨ ∀ r h', Q' r h' → hN h' = hN h) ∧ M cx x (d - 1) a' (.ref o :: vs) h Q' ∧ ∀ v h', Q' v h' → wp cx j d Q r pc (a - a') loc (v.toList ++ st) h' :=
  ⟨hr, hs, hd0, 0, RQ v h', Nat.zero_le _, hok.imp id (fun z w g q => by obtain ⟨-, rfl⟩ := q; exact z), hM, fun w g q => by obtain ⟨rfl, rfl⟩ := q; exact kk⟩
theorem wcV0 {cnd : Prop} (hM : M cx x (d - 1) 0 (.ref o :: vs) h (RV h')) (kk : wp cx j d Q r pc a loc st h') (hr : cnd := by rfl) (hs : (st.map fun v => v.category).sum ≤ 8 := by exact Nat.le_of_ble_eq_true rfl) (hd0 : 0 < d := by omega) (hok : rok loc st = true ∨ hN h' = hN h := by first | exact Or.inr rfl | exact Or.inl rfl) :
    cnd ∧ (st.map fun v => v.category).sum ≤ 8 ∧ 0 < d ∧ ∃ (a' : Nat) (Q' : Option Value → Hp → Prop), a' ≤ a ∧ (rok loc st = true ∨ ∀ r h', Q' r h' → hN h' = hN h) ∧ M cx x (d - 1) a' (.ref o :: vs) h Q' ∧ ∀ v h', Q' v h' → wp cx j d Q r pc (a - a') loc (v.toList ++ st) h' :=
  ⟨hr, hs, hd0, 0, RV h', Nat.zero_le _, hok.imp id (fun z w g q => by obtain ⟨-, rfl⟩ := q; exact z), hM, fun w g q => by obtain ⟨rfl, rfl⟩ := q; exact kk⟩
/-- the same of a static method -/
theorem wcS (hM : M cx x (d - 1) 0 vs h (RQ v h')) (kk : wp cx j d Q r pc a loc (v :: st) h') (hs : (st.map fun v => v.category).sum ≤ 8 := by exact Nat.le_of_ble_eq_true rfl) (hd0 : 0 < d := by omega) (hok : rok loc st = true ∨ hN h' = hN h := by first | exact Or.inr rfl | exact Or.inl rfl) :
    (st.map fun v => v.category).sum ≤ 8 ∧ 0 < d ∧ ∃ (a' : Nat) (Q' : Option Value → Hp → Prop), a' ≤ a ∧ (rok loc st = true ∨ ∀ r h', Q' r h' → hN h' = hN h) ∧ M cx x (d - 1) a' vs h Q' ∧ ∀ v h', Q' v h' → wp cx j d Q r pc (a - a') loc (v.toList ++ st) h' :=
  ⟨hs, hd0, 0, RQ v h', Nat.zero_le _, hok.imp id (fun z w g q => by obtain ⟨-, rfl⟩ := q; exact z), hM, fun w g q => by obtain ⟨rfl, rfl⟩ := q; exact kk⟩
theorem b2i_t {p : Prop} (hp : p) : b2i p = 1 := if_pos hp
theorem b2i_f {p : Prop} (hp : ¬ p) : b2i p = 0 := if_neg hp
theorem b2i_B {p : Prop} : isB (b2i p) := by
  rcases Classical.em p with hp | hp
  · rw [b2i_t hp]; exact Or.inr rfl
  · rw [b2i_f hp]; exact Or.inl rfl
theorem b2i_0 {p : Prop} : b2i p = 0 ↔ ¬ p := ⟨fun q hp => by rw [b2i_t hp] at q; exact absurd q (by decide), b2i_f⟩
theorem b2i_n {p : Prop} (q : ¬ b2i p = 0) : p := Classical.byContradiction fun n => q (b2i_f n)
theorem RQ_eq {u w : Int32} (e : u = w) : RQ (.int w) h (some (.int u)) h := ⟨by rw [e], rfl⟩
theorem RQ_eq' {u w : Int32} {g : Hp} (e : u = w) (eg : g = h) : RQ (.int w) h (some (.int u)) g := ⟨by rw [e], eg⟩
theorem rd_same {h : Hp} {o k : Nat} {v : Int32} : hI (wI h o k v) o k = v := by
  show up2 h.1 o k v o k = v; simp [up2]
theorem rd_o {h : Hp} {o k o' k' : Nat} {v : Int32} (n : o' ≠ o) : hI (wI h o k v) o' k' = hI h o' k' := by
  show up2 h.1 o k v o' k' = h.1 o' k'; simp [up2, n]
theorem rd_k {h : Hp} {o k o' k' : Nat} {v : Int32} (n : k' ≠ k) : hI (wI h o k v) o' k' = hI h o' k' := by
  show up2 h.1 o k v o' k' = h.1 o' k'; simp [up2, n]
theorem rd_any {h : Hp} {o k o' k' : Nat} {v : Int32} : hI (wI h o k v) o' k' = if o' = o ∧ k' = k then v else hI h o' k' := by
  show up2 h.1 o k v o' k' = _
  by_cases h1 : o' = o <;> by_cases h2 : k' = k <;> simp [up2, h1, h2]
end T16
