/-! the reader's new law stands in the heap -/
def newH (g : Hp) (m c : Nat) : Hp := (fun o k => if o = 126 + 3 * hN g then (if k = 2 then nI c else 0) else if o = 127 + 3 * hN g then cpy (hI g o_reader_steps) m k else if o = 128 + 3 * hN g then upd (cpy (hI g o_reader_starts) (2 * c)) (2 * c) (nI m) k else hI g o k, g.2.1, g.2.2.1, fun o => if o = 127 + 3 * hN g then m else if o = 128 + 3 * hN g then 2 * c + 1 else hL g o, hN g + 1)
/-- the references of the tables are of cells that stand -/
def refOk (h : Hp) : Prop := ∀ o, o < 126 → (ly_sk o = 24 ∨ ly_sk o = 25) → ∀ k, k < ly_al o → ∀ v, hR h o k = some v → v < 126 + 3 * hN h
def adN (ad : Nat → Nat) (N a a1 a2 : Nat) : Nat → Nat := fun o => if o = 126 + 3 * N then a else if o = 127 + 3 * N then a1 else if o = 128 + 3 * N then a2 else ad o
theorem rf_lt : ∀ o, o < 126 → 64 ≤ o → ly_sk o < 13 → ∀ k, k < tb_NN (ly_sk o) → ly_fk (ly_sk o) k = true → ly_rf o k < 126 := by decide +kernel
theorem nn_lt : ∀ c, c < 13 → tb_NN c ≤ 39 := by decide
theorem sk_lt : ∀ o, o < 126 → 64 ≤ o → ly_sk o < 13 ∨ (20 ≤ ly_sk o ∧ ly_sk o ≤ 25) := by decide +kernel
theorem arrV_cg {cA : ClassId} {n : Nat} {f g : Nat → Value} (h : ∀ k, k < n → f k = g k) : arrV cA n f = arrV cA n g := by
  unfold arrV
  congr 2
  funext j
  exact h j.val j.isLt
section T999992
variable {cx : Cx} {d a : Nat} {h g : Hp} {Q : Option Value → Hp → Prop}
theorem lnth_mp {ad : Nat → Nat} : ∀ {loc : Lc} {i : Nat} {v : Value}, lnth (loc.map (Option.map (cv ad))) i = some v → ∃ w, lnth loc i = some w ∧ v = cv ad w := by
  intro loc
  induction loc with
  | nil => intro i v h; simp [lnth] at h
  | cons x t ih =>
    intro i v h
    match i, h with
    | 0, h =>
      cases x with
      | none => simp [lnth] at h
      | some w => simp [lnth] at h; exact ⟨w, rfl, h.symm⟩
    | i + 1, h => exact ih (i := i) (by simpa [lnth] using h)
theorem e_of_B {j pc : Nat} {loc : Lc} {st : List Value} (nm : ¬ (my j).name = "<init>") (k : ∀ ad, B cx false j d (3 * a) (500 * a) pc (loc.map (Option.map (cv ad))) (st.map (cv ad)) (62 + 3 * hN h) (fun i => (ad (64 + i), cE cx ad h (64 + i))) (fun r K f => ∃ r0 h' ad', r = Option.map (cv ad') r0 ∧ Q r0 h' ∧ hN h ≤ hN h' ∧ (∀ o, o < 126 + 3 * hN h → ad' o = ad o) ∧ (hN h' = hN h → ad' = ad) ∧ (∀ H, va_P (cxD cx) vwCl (wK K f) H → va_P (cxD cx) vwCl (cls cx ad' h') H) ∧ (∀ A, va_D A (wK K f) → va_D A (cls cx ad' h')))) : E cx j d a pc loc st h Q := by
  intro p l e s m args below meth c h0 ad0 ad ls H locs nc ns mc ms hc h1 h2
  intro T hT X
  have bc : Bc cx false j (cls cx ad0 h0) (62 + 3 * hN h) (fun i => (ad (64 + i), cE cx ad h (64 + i))) (loc.map (Option.map (cv ad))) p s m args meth c ls H locs :=
    ⟨⟨hc.1.1, hc.1.2.1, hc.1.2.2.1, hc.1.2.2.2.1, hc.1.2.2.2.2.1, hc.1.2.2.2.2.2.1, hc.1.2.2.2.2.2.2, fun z => absurd z nm⟩, ⟨hc.2.1.1, hc.2.1.2.1, hc.2.1.2.2.1, hc.2.1.2.2.2.1, fun z => by cases z⟩, hc.2.2.2.1, hc.2.2.2.2.1, fun i v hv => by
      obtain ⟨w, hw, e⟩ := lnth_mp hv
      rw [cv_id, e]; exact hc.2.2.2.2.2 i w hw⟩
  obtain ⟨t, s1, o, s2, s3, ⟨⟨r, K, f, q1, ⟨r0, h', ad', z1, z2, z3, z4, z5, z6, z7⟩, q3, q4, q5⟩, s4⟩, s5⟩ := k ad p l e s m args below meth c (cls cx ad0 h0) ls H locs nc ns mc ms bc h1 h2 T hT X
  refine ⟨t, s1, o, s2, s3, ⟨⟨r0, h', ad', by rw [q1, z1], z2, Nat.le_trans hc.2.2.1.2.1 z3, fun o ho => ?_, fun z => ?_, z6 _ q3, q4, z7 _ q5⟩, s4⟩, s5⟩
  · have := hc.2.2.1.2.1
    rw [z4 o (by omega)]; exact hc.2.2.1.1 o ho
  · have := hc.2.2.1.2.1
    rw [z5 (by omega)]; exact hc.2.2.1.2.2 (by omega)
theorem cE_at {ad ad' : Nat → Nat} {h' : Hp} {o : Nat} (ho : 64 ≤ o) (hN' : o < 126 + 3 * hN h) (rf : refOk h) (e1 : ∀ k, hI h' o k = hI h o k) (e2 : ∀ k, hJ h' o k = hJ h o k) (e3 : ∀ k, hR h' o k = hR h o k) (e4 : hL h' o = hL h o) (ea : ∀ o, o < 126 + 3 * hN h → ad' o = ad o) {H : Heap} {x : Nat} (q : va_at (cxD cx) vwCl (x, cE cx ad h o) H) : va_at (cxD cx) vwCl (x, cE cx ad' h' o) H := by
  have eI : hI h' o = hI h o := funext e1
  have eJ : hJ h' o = hJ h o := funext e2
  have eL : ln h' o = ln h o := by unfold ln; rw [e4]
  have obj : ∀ ci, kd o = ci → ci < 13 → va_at (cxD cx) vwCl (x, cE cx ad' h' o) H := fun ci hk h13 => by
    rw [cE_obj hk h13] at q ⊢
    have : fds ad' h' o ci = fds ad h o ci := by
      unfold fds
      refine List.map_congr_left (fun k hk' => ?_)
      have hk' := List.mem_range.mp hk'
      unfold fv
      by_cases fk : ly_fk ci k = true
      · rw [if_pos fk, if_pos fk]
        rw [ea]
        by_cases lt : o < 126
        · have e : kd o = ly_sk o := by unfold kd; rw [if_pos lt]
          have := rf_lt o lt ho (by rw [← e, hk]; exact h13) k (by rw [← e, hk]; exact hk') (by rw [← e, hk]; exact fk)
          omega
        · have k3 : ci = 3 ∧ (o - 126) % 3 = 0 := by
            unfold kd at hk; rw [if_neg lt] at hk
            by_cases z : (o - 126) % 3 = 0
            · rw [if_pos z] at hk; exact ⟨hk.symm, z⟩
            · rw [if_neg z] at hk; omega
          obtain ⟨rfl, k0⟩ := k3
          have hk2 : k < 2 := by
            have : k < 3 := hk'
            by_cases z : k = 2
            · subst z; exact absurd fk (by decide)
            · omega
          rw [rf_d (by omega)]
          omega
      · rw [if_neg fk, if_neg fk, e1]
    rw [this]; exact q
  by_cases lt : o < 126
  · have ek : kd o = ly_sk o := by unfold kd; rw [if_pos lt]
    rcases sk_lt o lt ho with z | ⟨z1, z2⟩
    · exact obj _ ek z
    · have : ly_sk o = 20 ∨ ly_sk o = 21 ∨ ly_sk o = 22 ∨ ly_sk o = 23 ∨ ly_sk o = 24 ∨ ly_sk o = 25 := by omega
      unfold cE at q ⊢
      rw [ek] at q ⊢
      have ln' : ln h o = ly_al o := by unfold ln; rw [if_pos lt]
      have rr : (ly_sk o = 24 ∨ ly_sk o = 25) → ∀ cA, vp_cell cA (ln h' o, .inr (.inr (.inr (.inr (fun k => (hR h' o k).map ad'))))) = vp_cell cA (ln h o, .inr (.inr (.inr (.inr (fun k => (hR h o k).map ad))))) := fun kk cA => by
        rw [eL]
        show arrV cA _ (fun j => va_rf ((hR h' o j).map ad')) = arrV cA _ (fun j => va_rf ((hR h o j).map ad))
        refine arrV_cg (fun k hk => ?_)
        rw [e3]
        cases hv : hR h o k with
        | none => rfl
        | some v =>
          rw [ln'] at hk
          show va_rf (some (ad' v)) = va_rf (some (ad v))
          rw [ea v (rf o lt kk k hk v hv)]
      rcases this with e | e | e | e | e | e
      · rw [e] at q ⊢; rw [eI, eL]; exact q
      · rw [e] at q ⊢; rw [eJ, eL]; exact q
      · rw [e] at q ⊢; rw [eI, eL]; exact q
      · rw [e] at q ⊢; rw [eI, eL]; exact q
      · rw [e] at q ⊢
        show H[x]? = some (vp_cell _ _)
        rw [rr (Or.inl e)]; exact q
      · rw [e] at q ⊢
        show H[x]? = some (vp_cell _ _)
        rw [rr (Or.inr e)]; exact q
  · by_cases z : (o - 126) % 3 = 0
    · exact obj 3 (by unfold kd; rw [if_neg lt, if_pos z]) (by decide)
    · have ek : kd o = 20 := by unfold kd; rw [if_neg lt, if_neg z]
      unfold cE at q ⊢
      rw [ek] at q ⊢
      rw [eI, eL]; exact q
end T999992
