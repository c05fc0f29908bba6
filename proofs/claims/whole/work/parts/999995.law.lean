/-! law on both sides -/
section T999995
variable {cx : Cx} {d a c : Nat} {h g f : Hp} {w w' : Wd} {A : Ab} {n s t N : Nat} {C V : Nat → Int32}
theorem wcA {j d pc o x : Nat} {loc : Lc} {st vs : List Value} {r : List Ins} {Q Q' : Option Value → Hp → Prop} {cnd : Prop} (hM : M cx x (d - 1) 1 (.ref o :: vs) h Q') (ha : 1 ≤ a) (kk : ∀ v h', Q' v h' → wp cx j d Q r pc (a - 1) loc (v.toList ++ st) h') (hok : rok loc st = true) (hr : cnd := by rfl) (hs : (st.map fun v => v.category).sum ≤ 8 := by exact Nat.le_of_ble_eq_true rfl) (hd0 : 0 < d := by omega) :
    cnd ∧ (st.map fun v => v.category).sum ≤ 8 ∧ 0 < d ∧ ∃ (a' : Nat) (Q' : Option Value → Hp → Prop), a' ≤ a ∧ (rok loc st = true ∨ ∀ r h', Q' r h' → hN h' = hN h) ∧ M cx x (d - 1) a' (.ref o :: vs) h Q' ∧ ∀ v h', Q' v h' → wp cx j d Q r pc (a - a') loc (v.toList ++ st) h' :=
  ⟨hr, hs, hd0, 1, Q', ha, Or.inl hok, hM, kk⟩
theorem mean_n {o : Nat} {cs : List CS} (e1 : ∀ p k, 126 ≤ p → p < 126 + 3 * hN h → hI g p k = hI h p k) (e2 : ∀ p, 126 ≤ p → p < 126 + 3 * hN h → hL g p = hL h p) (e3 : hN h ≤ hN g) (q : lawMean h o cs) : lawMean g o cs := by
  obtain ⟨⟨⟨⟨l1, l2, l3⟩, l4, l5⟩, l6, l7, l8⟩, m⟩ := q
  have fS : ∀ i, fStep g o i = fStep h o i := fun i => by unfold fStep; rw [e2 _ (by omega) (by omega), e1 _ _ (by omega) (by omega)]
  have fT : ∀ i, fStart g o i = fStart h o i := fun i => by unfold fStart; rw [e2 _ (by omega) (by omega), e2 _ (by omega) (by omega), e1 _ _ (by omega) (by omega)]
  refine ⟨⟨⟨⟨l1, by omega, l3⟩, by rw [e2 _ (by omega) (by omega)]; exact l4, by rw [e2 _ (by omega) (by omega)]; exact l5⟩, l6, by rw [e1 _ _ l1 l2]; exact l7, fun k hk => by rw [fT]; exact l8 k hk⟩, fun c hc => ?_⟩
  have := m c hc
  unfold clM sEmp avP at *
  simp only [fT]
  rw [show fStep g o = fStep h o from funext fS]
  exact this
/-! the wall with the law more -/
theorem lw_lo {k : Nat} (ht : t < 6) (hk : k < 160 ∨ k = 161) : lawW w t N C V k = w k := by
  unfold lawW; rw [updW_n (by omega)]
  unfold lawP; rw [if_neg (by omega), if_neg (by omega), if_neg (by omega)]
theorem lw_n {f : Nat} (hf : f < 6) : nOf (lawW w t N C V) f = if f = t then (nI N).toNatClampNeg else nOf w f := by
  unfold nOf lawW; rw [updW_n (by omega)]
  unfold lawP
  by_cases e : f = t
  · rw [if_pos (by omega), if_pos e]
  · rw [if_neg (by omega), if_neg e, if_neg (by omega), if_neg (by omega)]
theorem lw_old {f : Nat} (ht : t < 6) (hf : f < t) (hN : N ≤ 400) (h4 : nOf w f ≤ 400) : nOf (lawW w t N C V) f = nOf w f ∧ cOf (lawW w t N C V) f = cOf w f ∧ vOf (lawW w t N C V) f = vOf w f := by
  have e1 : nOf (lawW w t N C V) f = nOf w f := by rw [lw_n (by omega), if_neg (by omega)]
  refine ⟨e1, funext fun k => ?_, funext fun k => ?_⟩
  · unfold cOf; rw [e1]
    by_cases z : k < nOf w f
    · rw [if_pos z, if_pos z]
      unfold lawW; rw [updW_n (by omega)]
      unfold lawP; rw [if_neg (by omega), if_neg (by omega), if_neg (by omega)]
    · rw [if_neg z, if_neg z]
  · unfold vOf; rw [e1]
    by_cases z : k < nOf w f
    · rw [if_pos z, if_pos z]
      unfold lawW; rw [updW_n (by omega)]
      unfold lawP; rw [if_neg (by omega), if_neg (by omega), if_neg (by omega)]
    · rw [if_neg z, if_neg z]
theorem lw_new (ht : t < 6) (hN : N ≤ 400) (hC : ∀ k, N ≤ k → C k = 0) (hV : ∀ k, N ≤ k → V k = 0) : nOf (lawW w t N C V) t = N ∧ cOf (lawW w t N C V) t = C ∧ vOf (lawW w t N C V) t = V := by
  have e1 : nOf (lawW w t N C V) t = N := by rw [lw_n ht, if_pos rfl, nI_clamp (by omega)]
  refine ⟨e1, funext fun k => ?_, funext fun k => ?_⟩
  · unfold cOf; rw [e1]
    by_cases z : k < N
    · rw [if_pos z]
      unfold lawW; rw [updW_n (by omega)]
      unfold lawP; rw [if_neg (by omega), if_pos (by omega)]; congr 1; omega
    · rw [if_neg z, hC k (by omega)]
  · unfold vOf; rw [e1]
    by_cases z : k < N
    · rw [if_pos z]
      unfold lawW; rw [updW_n (by omega)]
      unfold lawP; rw [if_neg (by omega), if_neg (by omega), if_pos (by omega)]; congr 1; omega
    · rw [if_neg z, hV k (by omega)]
theorem lw_cs {f : Nat} (ht : t < 6) (hf : f < t) (hN : N ≤ 400) (h4 : nOf w f ≤ 400) : csOf (lawW w t N C V) f = csOf w f := by
  obtain ⟨e1, e2, e3⟩ := lw_old (w := w) (C := C) (V := V) ht hf hN h4
  unfold csOf; rw [e1, e2, e3]
theorem lw_wf (ht : t < 6) (hN : N ≤ 400) (hC : ∀ k, N ≤ k → C k = 0) (hV : ∀ k, N ≤ k → V k = 0) (ok : (pLaw C V N).1 = true) (ws : wfS w n s t) (wt : wfT w) (wi : wfI w) (wl : wfL w t) : wfW (lawW w t N C V) := by
  have lo : ∀ k, k < 160 → lawW w t N C V k = w k := fun k hk => lw_lo ht (Or.inl hk)
  obtain ⟨a1, a2, a3, a4, a5, a6, a7, a8⟩ := ws
  refine ⟨n, s, t + 1, ⟨a1, a2, by omega, by rw [lo _ (by decide)]; exact a4, by rw [lo _ (by decide)]; exact a5, by rw [lo _ (by decide)]; exact a6, ?_, ?_⟩, ?_, ?_, ?_⟩
  · unfold lawW; rw [updW_s]
  · rw [lw_lo ht (Or.inr rfl)]
    exact a8.imp id fun ⟨f, h1, h2⟩ => ⟨f, by omega, h2⟩
  · unfold wfT; rw [lo _ (by decide), lo _ (by decide), lo _ (by decide)]; exact wt
  · exact wfI_same (fun i j hi hj => lo _ (by omega)) (lo _ (by decide)) (lo _ (by decide)) wi
  · intro f hf
    by_cases e : f = t
    · subst e
      obtain ⟨e1, e2, e3⟩ := lw_new (w := w) ht hN hC hV
      rw [e1, e2, e3]
      refine ⟨?_, hN, fun k hk => ⟨?_, ?_⟩, hC, ok⟩
      · unfold lawW; rw [updW_n (by omega)]; unfold lawP; rw [if_pos rfl]
      · have := congrFun e2 k; unfold cOf at this; rw [e1, if_pos hk] at this; exact this
      · have := congrFun e3 k; unfold vOf at this; rw [e1, if_pos hk] at this; exact this
    · have q := wl f (by omega)
      obtain ⟨l1, l2, l3, l4, l5⟩ := q
      obtain ⟨e1, e2, e3⟩ := lw_old (w := w) (C := C) (V := V) ht (show f < t by omega) hN l2
      rw [e1, e2, e3]
      refine ⟨?_, l2, fun k hk => ⟨?_, ?_⟩, l4, l5⟩
      · have := l1
        unfold lawW; rw [updW_n (by omega)]; unfold lawP; rw [if_neg (by omega), if_neg (by omega), if_neg (by omega)]; exact this
      · have := congrFun e2 k; unfold cOf at this; rw [e1, if_pos hk, if_pos hk] at this; rw [this]; exact (l3 k hk).1
      · have := congrFun e3 k; unfold vOf at this; rw [e1, if_pos hk, if_pos hk] at this; rw [this]; exact (l3 k hk).2
theorem lw_force (ht : t < 6) (hN : N ≤ 400) (ws : wfS w n s t) (wl : wfL w t) : lawOf (lawW w t N C V) = lawOf w := by
  unfold lawOf
  rw [lw_lo ht (Or.inr rfl)]
  rcases ws.2.2.2.2.2.2.2 with z | ⟨f, hf, z⟩
  · rw [if_pos z, if_pos z]
  · rw [z, if_neg (nI_m1 (by omega)), if_neg (nI_m1 (by omega)), nI_clamp (by omega), lw_cs ht hf hN (wl f hf).2.1]
end T999995
