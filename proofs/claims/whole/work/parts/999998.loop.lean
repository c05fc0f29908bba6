/-! the law's own loop: one call on both sides, then the next -/
section T999998
variable {cx : Cx} {d a c i : Nat} {h : Hp} {A : Ab} {Q : Option Value → Hp → Prop}
abbrev lwL (i : Nat) : Lc := [some (.ref 0), some (.ref o_x), some (.ref o_m), some (.int (nI (6 * i)))]
theorem lw_v (hi : 6 * i + 6 ≤ cxL cx) (hL : cxL cx ≤ 3072) (k : Nat) (hk : k < 6) : vp_in (nI (6 * i) + nI k) (cxL cx) := by rw [nI_add]; exact vp_in_nI (by omega) (by omega)
theorem lc_stone (hd : 201 ≤ d) (ha : 1 ≤ a) (hc : c < 1000) (hi : 6 * i + 6 ≤ cxL cx) (hL : cxL cx ≤ 3072) (wf : wfA A) (x : RX A h) (m : RM c A h) (nx : ∀ A' g, wfA A' → RX A' g → RM (c + 1) A' g → E cx 252 d (a - 1) 1193 (lwL i) [] g Q) : E cx 252 d a 188 (lwL i) [] h Q := by
  obtain ⟨r, A', wf', X, Y⟩ := s_stone (cx := cx) wf (x := cxX cx (nI (6 * i) + 1).toNatClampNeg) (y := cxX cx (nI (6 * i) + 2).toNatClampNeg) (wd := cxX cx (nI (6 * i) + 3).toNatClampNeg) (tl := cxX cx (nI (6 * i) + 4).toNatClampNeg) (wt := cxX cx (nI (6 * i) + 5).toNatClampNeg)
  refine eL_law (And.intro (lw_v hi hL 1 (by decide)) (And.intro (lw_v hi hL 2 (by decide)) (And.intro (lw_v hi hL 3 (by decide)) (And.intro (lw_v hi hL 4 (by decide)) (And.intro (lw_v hi hL 5 (by decide)) (wcA (X (d - 1) 1 h (by omega) (Nat.le_refl _) x) ha (fun v g z => ?_) rfl))))))
  obtain ⟨rfl, rx, km⟩ := z
  refine And.intro (lw_v hi hL 1 (by decide)) (And.intro (lw_v hi hL 2 (by decide)) (And.intro (lw_v hi hL 3 (by decide)) (And.intro (lw_v hi hL 4 (by decide)) (And.intro (lw_v hi hL 5 (by decide)) (wcQ (Y (d - 1) c g (by omega) hc (RM_keepMd m km)) (fun v g2 z => ?_) (fun v g2 z => keepC_N z.2.2))))))
  obtain ⟨rfl, rm, kc⟩ := z
  exact And.intro (fun _ => nx A' g2 wf' (RX_keepC rx kc) rm) (fun q => absurd rfl q)
theorem lc_spare (hd : 201 ≤ d) (ha : 1 ≤ a) (hc : c < 1000) (hi : 6 * i + 6 ≤ cxL cx) (hL : cxL cx ≤ 3072) (wf : wfA A) (x : RX A h) (m : RM c A h) (nx : ∀ A' g, wfA A' → RX A' g → RM (c + 1) A' g → E cx 252 d (a - 1) 1193 (lwL i) [] g Q) : E cx 252 d a 251 (lwL i) [] h Q := by
  obtain ⟨r, A', wf', X, Y⟩ := s_spare (cx := cx) wf (x := cxX cx (nI (6 * i) + 1).toNatClampNeg) (y := cxX cx (nI (6 * i) + 2).toNatClampNeg) (wd := cxX cx (nI (6 * i) + 3).toNatClampNeg) (tl := cxX cx (nI (6 * i) + 4).toNatClampNeg) (wt := cxX cx (nI (6 * i) + 5).toNatClampNeg)
  refine eL_law (And.intro (lw_v hi hL 1 (by decide)) (And.intro (lw_v hi hL 2 (by decide)) (And.intro (lw_v hi hL 3 (by decide)) (And.intro (lw_v hi hL 4 (by decide)) (And.intro (lw_v hi hL 5 (by decide)) (wcA (X (d - 1) 1 h (by omega) (Nat.le_refl _) x) ha (fun v g z => ?_) rfl))))))
  obtain ⟨rfl, rx, km⟩ := z
  refine And.intro (lw_v hi hL 1 (by decide)) (And.intro (lw_v hi hL 2 (by decide)) (And.intro (lw_v hi hL 3 (by decide)) (And.intro (lw_v hi hL 4 (by decide)) (And.intro (lw_v hi hL 5 (by decide)) (wcQ (Y (d - 1) c g (by omega) hc (RM_keepMd m km)) (fun v g2 z => ?_) (fun v g2 z => keepC_N z.2.2))))))
  obtain ⟨rfl, rm, kc⟩ := z
  exact And.intro (fun _ => nx A' g2 wf' (RX_keepC rx kc) rm) (fun q => absurd rfl q)
theorem lc_put (hd : 201 ≤ d) (ha : 1 ≤ a) (hc : c < 1000) (hi : 6 * i + 6 ≤ cxL cx) (hL : cxL cx ≤ 3072) (wf : wfA A) (x : RX A h) (m : RM c A h) (nx : ∀ A' g, wfA A' → RX A' g → RM (c + 1) A' g → E cx 252 d (a - 1) 1193 (lwL i) [] g Q) : E cx 252 d a 314 (lwL i) [] h Q := by
  obtain ⟨r, A', wf', X, Y⟩ := s_put (cx := cx) wf (x := cxX cx (nI (6 * i) + 1).toNatClampNeg) (v := cxX cx (nI (6 * i) + 2).toNatClampNeg) (u := cxX cx (nI (6 * i) + 3).toNatClampNeg)
  refine eL_law (And.intro (lw_v hi hL 1 (by decide)) (And.intro (lw_v hi hL 2 (by decide)) (And.intro (lw_v hi hL 3 (by decide)) (wcA (X (d - 1) 1 h (by omega) (Nat.le_refl _) x) ha (fun v g z => ?_) rfl))))
  obtain ⟨rfl, rx, km⟩ := z
  refine And.intro (lw_v hi hL 1 (by decide)) (And.intro (lw_v hi hL 2 (by decide)) (And.intro (lw_v hi hL 3 (by decide)) (wcQ (Y (d - 1) c g (by omega) hc (RM_keepMd m km)) (fun v g2 z => ?_) (fun v g2 z => keepC_N z.2.2))))
  obtain ⟨rfl, rm, kc⟩ := z
  exact And.intro (fun _ => nx A' g2 wf' (RX_keepC rx kc) rm) (fun q => absurd rfl q)
theorem lc_of (hd : 201 ≤ d) (ha : 1 ≤ a) (hc : c < 1000) (hi : 6 * i + 6 ≤ cxL cx) (hL : cxL cx ≤ 3072) (wf : wfA A) (x : RX A h) (m : RM c A h) (nx : ∀ A' g, wfA A' → RX A' g → RM (c + 1) A' g → E cx 252 d (a - 1) 1193 (lwL i) [] g Q) : E cx 252 d a 357 (lwL i) [] h Q := by
  obtain ⟨r, A', wf', X, Y⟩ := s_of (cx := cx) wf (v := cxX cx (nI (6 * i) + 1).toNatClampNeg) (q := cxX cx (nI (6 * i) + 2).toNatClampNeg)
  refine eL_law (And.intro (lw_v hi hL 1 (by decide)) (And.intro (lw_v hi hL 2 (by decide)) (wcA (X (d - 1) 1 h (by omega) (Nat.le_refl _) x) ha (fun v g z => ?_) rfl)))
  obtain ⟨rfl, rx, km⟩ := z
  refine And.intro (lw_v hi hL 1 (by decide)) (And.intro (lw_v hi hL 2 (by decide)) (wcQ (Y (d - 1) c g (by omega) hc (RM_keepMd m km)) (fun v g2 z => ?_) (fun v g2 z => keepC_N z.2.2)))
  obtain ⟨rfl, rm, kc⟩ := z
  exact And.intro (fun _ => nx A' g2 wf' (RX_keepC rx kc) rm) (fun q => absurd rfl q)
theorem lc_terms (hd : 201 ≤ d) (ha : 1 ≤ a) (hc : c < 1000) (hi : 6 * i + 6 ≤ cxL cx) (hL : cxL cx ≤ 3072) (wf : wfA A) (x : RX A h) (m : RM c A h) (nx : ∀ A' g, wfA A' → RX A' g → RM (c + 1) A' g → E cx 252 d (a - 1) 1193 (lwL i) [] g Q) : E cx 252 d a 390 (lwL i) [] h Q := by
  obtain ⟨r, A', wf', X, Y⟩ := s_terms (cx := cx) wf (v := cxX cx (nI (6 * i) + 1).toNatClampNeg) (u := cxX cx (nI (6 * i) + 2).toNatClampNeg)
  refine eL_law (And.intro (lw_v hi hL 1 (by decide)) (And.intro (lw_v hi hL 2 (by decide)) (wcA (X (d - 1) 1 h (by omega) (Nat.le_refl _) x) ha (fun v g z => ?_) rfl)))
  obtain ⟨rfl, rx, km⟩ := z
  refine And.intro (lw_v hi hL 1 (by decide)) (And.intro (lw_v hi hL 2 (by decide)) (wcQ (Y (d - 1) c g (by omega) hc (RM_keepMd m km)) (fun v g2 z => ?_) (fun v g2 z => keepC_N z.2.2)))
  obtain ⟨rfl, rm, kc⟩ := z
  exact And.intro (fun _ => nx A' g2 wf' (RX_keepC rx kc) rm) (fun q => absurd rfl q)
theorem lc_feed (hd : 201 ≤ d) (ha : 1 ≤ a) (hc : c < 1000) (hi : 6 * i + 6 ≤ cxL cx) (hL : cxL cx ≤ 3072) (wf : wfA A) (x : RX A h) (m : RM c A h) (nx : ∀ A' g, wfA A' → RX A' g → RM (c + 1) A' g → E cx 252 d (a - 1) 1193 (lwL i) [] g Q) : E cx 252 d a 423 (lwL i) [] h Q := by
  obtain ⟨r, A', wf', X, Y⟩ := s_feed (cx := cx) wf (v0 := cxX cx (nI (6 * i) + 1).toNatClampNeg) (v1 := cxX cx (nI (6 * i) + 2).toNatClampNeg) (v2 := cxX cx (nI (6 * i) + 3).toNatClampNeg) (v3 := cxX cx (nI (6 * i) + 4).toNatClampNeg) (v4 := cxX cx (nI (6 * i) + 5).toNatClampNeg)
  refine eL_law (And.intro (lw_v hi hL 1 (by decide)) (And.intro (lw_v hi hL 2 (by decide)) (And.intro (lw_v hi hL 3 (by decide)) (And.intro (lw_v hi hL 4 (by decide)) (And.intro (lw_v hi hL 5 (by decide)) (wcA (X (d - 1) 1 h (by omega) (Nat.le_refl _) x) ha (fun v g z => ?_) rfl))))))
  obtain ⟨rfl, rx, km⟩ := z
  refine And.intro (lw_v hi hL 1 (by decide)) (And.intro (lw_v hi hL 2 (by decide)) (And.intro (lw_v hi hL 3 (by decide)) (And.intro (lw_v hi hL 4 (by decide)) (And.intro (lw_v hi hL 5 (by decide)) (wcQ (Y (d - 1) c g (by omega) hc (RM_keepMd m km)) (fun v g2 z => ?_) (fun v g2 z => keepC_N z.2.2))))))
  obtain ⟨rfl, rm, kc⟩ := z
  exact And.intro (fun _ => nx A' g2 wf' (RX_keepC rx kc) rm) (fun q => absurd rfl q)
theorem lc_end (hd : 201 ≤ d) (ha : 1 ≤ a) (hc : c < 1000) (hi : 6 * i + 6 ≤ cxL cx) (hL : cxL cx ≤ 3072) (wf : wfA A) (x : RX A h) (m : RM c A h) (nx : ∀ A' g, wfA A' → RX A' g → RM (c + 1) A' g → E cx 252 d (a - 1) 1193 (lwL i) [] g Q) : E cx 252 d a 486 (lwL i) [] h Q := by
  obtain ⟨r, A', wf', X, Y⟩ := s_end (cx := cx) wf (v := cxX cx (nI (6 * i) + 1).toNatClampNeg)
  refine eL_law (And.intro (lw_v hi hL 1 (by decide)) (wcA (X (d - 1) 1 h (by omega) (Nat.le_refl _) x) ha (fun v g z => ?_) rfl))
  obtain ⟨rfl, rx, km⟩ := z
  refine And.intro (lw_v hi hL 1 (by decide)) (wcQ (Y (d - 1) c g (by omega) hc (RM_keepMd m km)) (fun v g2 z => ?_) (fun v g2 z => keepC_N z.2.2))
  obtain ⟨rfl, rm, kc⟩ := z
  exact And.intro (fun _ => nx A' g2 wf' (RX_keepC rx kc) rm) (fun q => absurd rfl q)
theorem lc_row (hd : 201 ≤ d) (ha : 1 ≤ a) (hc : c < 1000) (hi : 6 * i + 6 ≤ cxL cx) (hL : cxL cx ≤ 3072) (wf : wfA A) (x : RX A h) (m : RM c A h) (nx : ∀ A' g, wfA A' → RX A' g → RM (c + 1) A' g → E cx 252 d (a - 1) 1193 (lwL i) [] g Q) : E cx 252 d a 509 (lwL i) [] h Q := by
  obtain ⟨r, A', wf', X, Y⟩ := s_row (cx := cx) wf 
  refine eL_law (wcA (X (d - 1) 1 h (by omega) (Nat.le_refl _) x) ha (fun v g z => ?_) rfl)
  obtain ⟨rfl, rx, km⟩ := z
  refine wcQ (Y (d - 1) c g (by omega) hc (RM_keepMd m km)) (fun v g2 z => ?_) (fun v g2 z => keepC_N z.2.2)
  obtain ⟨rfl, rm, kc⟩ := z
  exact And.intro (fun _ => nx A' g2 wf' (RX_keepC rx kc) rm) (fun q => absurd rfl q)
theorem lc_rubble (hd : 201 ≤ d) (ha : 1 ≤ a) (hc : c < 1000) (hi : 6 * i + 6 ≤ cxL cx) (hL : cxL cx ≤ 3072) (wf : wfA A) (x : RX A h) (m : RM c A h) (nx : ∀ A' g, wfA A' → RX A' g → RM (c + 1) A' g → E cx 252 d (a - 1) 1193 (lwL i) [] g Q) : E cx 252 d a 522 (lwL i) [] h Q := by
  obtain ⟨r, A', wf', X, Y⟩ := s_rubble (cx := cx) wf 
  refine eL_law (wcA (X (d - 1) 1 h (by omega) (Nat.le_refl _) x) ha (fun v g z => ?_) rfl)
  obtain ⟨rfl, rx, km⟩ := z
  refine wcQ (Y (d - 1) c g (by omega) hc (RM_keepMd m km)) (fun v g2 z => ?_) (fun v g2 z => keepC_N z.2.2)
  obtain ⟨rfl, rm, kc⟩ := z
  exact And.intro (fun _ => nx A' g2 wf' (RX_keepC rx kc) rm) (fun q => absurd rfl q)
theorem lc_law (hd : 201 ≤ d) (ha : 1 ≤ a) (hc : c < 1000) (hi : 6 * i + 6 ≤ cxL cx) (hL : cxL cx ≤ 3072) (wf : wfA A) (x : RX A h) (m : RM c A h) (nx : ∀ A' g, wfA A' → RX A' g → RM (c + 1) A' g → E cx 252 d (a - 1) 1193 (lwL i) [] g Q) : E cx 252 d a 535 (lwL i) [] h Q := by
  obtain ⟨r, A', wf', X, Y⟩ := s_law (cx := cx) wf 
  refine eL_law (wcA (X (d - 1) 1 h (by omega) (Nat.le_refl _) x) ha (fun v g z => ?_) rfl)
  obtain ⟨rfl, rx, km⟩ := z
  refine wcQ (Y (d - 1) c g (by omega) hc (RM_keepMd m km)) (fun v g2 z => ?_) (fun v g2 z => keepC_N z.2.2)
  obtain ⟨rfl, rm, kc⟩ := z
  exact And.intro (fun _ => nx A' g2 wf' (RX_keepC rx kc) rm) (fun q => absurd rfl q)
theorem lc_fault (hd : 201 ≤ d) (ha : 1 ≤ a) (hc : c < 1000) (hi : 6 * i + 6 ≤ cxL cx) (hL : cxL cx ≤ 3072) (wf : wfA A) (x : RX A h) (m : RM c A h) (nx : ∀ A' g, wfA A' → RX A' g → RM (c + 1) A' g → E cx 252 d (a - 1) 1193 (lwL i) [] g Q) : E cx 252 d a 548 (lwL i) [] h Q := by
  obtain ⟨r, A', wf', X, Y⟩ := s_fault (cx := cx) wf 
  refine eL_law (wcA (X (d - 1) 1 h (by omega) (Nat.le_refl _) x) ha (fun v g z => ?_) rfl)
  obtain ⟨rfl, rx, km⟩ := z
  refine wcQ (Y (d - 1) c g (by omega) hc (RM_keepMd m km)) (fun v g2 z => ?_) (fun v g2 z => keepC_N z.2.2)
  obtain ⟨rfl, rm, kc⟩ := z
  exact And.intro (fun _ => nx A' g2 wf' (RX_keepC rx kc) rm) (fun q => absurd rfl q)
theorem lc_force (hd : 201 ≤ d) (ha : 1 ≤ a) (hc : c < 1000) (hi : 6 * i + 6 ≤ cxL cx) (hL : cxL cx ≤ 3072) (wf : wfA A) (x : RX A h) (m : RM c A h) (nx : ∀ A' g, wfA A' → RX A' g → RM (c + 1) A' g → E cx 252 d (a - 1) 1193 (lwL i) [] g Q) : E cx 252 d a 561 (lwL i) [] h Q := by
  obtain ⟨r, A', wf', X, Y⟩ := s_force (cx := cx) wf (v := cxX cx (nI (6 * i) + 1).toNatClampNeg)
  refine eL_law (And.intro (lw_v hi hL 1 (by decide)) (wcA (X (d - 1) 1 h (by omega) (Nat.le_refl _) x) ha (fun v g z => ?_) rfl))
  obtain ⟨rfl, rx, km⟩ := z
  refine And.intro (lw_v hi hL 1 (by decide)) (wcQ (Y (d - 1) c g (by omega) hc (RM_keepMd m km)) (fun v g2 z => ?_) (fun v g2 z => keepC_N z.2.2))
  obtain ⟨rfl, rm, kc⟩ := z
  exact And.intro (fun _ => nx A' g2 wf' (RX_keepC rx kc) rm) (fun q => absurd rfl q)
theorem lc_at (hd : 201 ≤ d) (ha : 1 ≤ a) (hc : c < 1000) (hi : 6 * i + 6 ≤ cxL cx) (hL : cxL cx ≤ 3072) (wf : wfA A) (x : RX A h) (m : RM c A h) (nx : ∀ A' g, wfA A' → RX A' g → RM (c + 1) A' g → E cx 252 d (a - 1) 1193 (lwL i) [] g Q) : E cx 252 d a 584 (lwL i) [] h Q := by
  obtain ⟨r, A', wf', X, Y⟩ := s_at (cx := cx) wf (x := cxX cx (nI (6 * i) + 1).toNatClampNeg) (y := cxX cx (nI (6 * i) + 2).toNatClampNeg)
  refine eL_law (And.intro (lw_v hi hL 1 (by decide)) (And.intro (lw_v hi hL 2 (by decide)) (wcA (X (d - 1) 1 h (by omega) (Nat.le_refl _) x) ha (fun v g z => ?_) rfl)))
  obtain ⟨rfl, rx, km⟩ := z
  refine And.intro (lw_v hi hL 1 (by decide)) (And.intro (lw_v hi hL 2 (by decide)) (wcQ (Y (d - 1) c g (by omega) hc (RM_keepMd m km)) (fun v g2 z => ?_) (fun v g2 z => keepC_N z.2.2)))
  obtain ⟨rfl, rm, kc⟩ := z
  exact And.intro (fun _ => nx A' g2 wf' (RX_keepC rx kc) rm) (fun q => absurd rfl q)
theorem lc_touches (hd : 201 ≤ d) (ha : 1 ≤ a) (hc : c < 1000) (hi : 6 * i + 6 ≤ cxL cx) (hL : cxL cx ≤ 3072) (wf : wfA A) (x : RX A h) (m : RM c A h) (nx : ∀ A' g, wfA A' → RX A' g → RM (c + 1) A' g → E cx 252 d (a - 1) 1193 (lwL i) [] g Q) : E cx 252 d a 617 (lwL i) [] h Q := by
  obtain ⟨r, A', wf', X, Y⟩ := s_touches (cx := cx) wf (v := cxX cx (nI (6 * i) + 1).toNatClampNeg) (q := cxX cx (nI (6 * i) + 2).toNatClampNeg)
  refine eL_law (And.intro (lw_v hi hL 1 (by decide)) (And.intro (lw_v hi hL 2 (by decide)) (wcA (X (d - 1) 1 h (by omega) (Nat.le_refl _) x) ha (fun v g z => ?_) rfl)))
  obtain ⟨rfl, rx, km⟩ := z
  refine And.intro (lw_v hi hL 1 (by decide)) (And.intro (lw_v hi hL 2 (by decide)) (wcQ (Y (d - 1) c g (by omega) hc (RM_keepMd m km)) (fun v g2 z => ?_) (fun v g2 z => keepC_N z.2.2)))
  obtain ⟨rfl, rm, kc⟩ := z
  exact And.intro (fun _ => nx A' g2 wf' (RX_keepC rx kc) rm) (fun q => absurd rfl q)
theorem lc_unlawful (hd : 201 ≤ d) (ha : 1 ≤ a) (hc : c < 1000) (hi : 6 * i + 6 ≤ cxL cx) (hL : cxL cx ≤ 3072) (wf : wfA A) (x : RX A h) (m : RM c A h) (nx : ∀ A' g, wfA A' → RX A' g → RM (c + 1) A' g → E cx 252 d (a - 1) 1193 (lwL i) [] g Q) : E cx 252 d a 650 (lwL i) [] h Q := by
  obtain ⟨r, A', wf', X, Y⟩ := s_unlawful (cx := cx) wf 
  refine eL_law (wcA (X (d - 1) 1 h (by omega) (Nat.le_refl _) x) ha (fun v g z => ?_) rfl)
  obtain ⟨rfl, rx, km⟩ := z
  refine wcQ (Y (d - 1) c g (by omega) hc (RM_keepMd m km)) (fun v g2 z => ?_) (fun v g2 z => keepC_N z.2.2)
  obtain ⟨rfl, rm, kc⟩ := z
  exact And.intro (fun _ => nx A' g2 wf' (RX_keepC rx kc) rm) (fun q => absurd rfl q)
theorem lc_there (hd : 201 ≤ d) (ha : 1 ≤ a) (hc : c < 1000) (hi : 6 * i + 6 ≤ cxL cx) (hL : cxL cx ≤ 3072) (wf : wfA A) (x : RX A h) (m : RM c A h) (nx : ∀ A' g, wfA A' → RX A' g → RM (c + 1) A' g → E cx 252 d (a - 1) 1193 (lwL i) [] g Q) : E cx 252 d a 663 (lwL i) [] h Q := by
  obtain ⟨r, A', wf', X, Y⟩ := s_there (cx := cx) wf 
  refine eL_law (wcA (X (d - 1) 1 h (by omega) (Nat.le_refl _) x) ha (fun v g z => ?_) rfl)
  obtain ⟨rfl, rx, km⟩ := z
  refine wcQ (Y (d - 1) c g (by omega) hc (RM_keepMd m km)) (fun v g2 z => ?_) (fun v g2 z => keepC_N z.2.2)
  obtain ⟨rfl, rm, kc⟩ := z
  exact And.intro (fun _ => nx A' g2 wf' (RX_keepC rx kc) rm) (fun q => absurd rfl q)
theorem lc_stand (hd : 201 ≤ d) (ha : 1 ≤ a) (hc : c < 1000) (hi : 6 * i + 6 ≤ cxL cx) (hL : cxL cx ≤ 3072) (wf : wfA A) (x : RX A h) (m : RM c A h) (nx : ∀ A' g, wfA A' → RX A' g → RM (c + 1) A' g → E cx 252 d (a - 1) 1193 (lwL i) [] g Q) : E cx 252 d a 676 (lwL i) [] h Q := by
  obtain ⟨r, A', wf', X, Y⟩ := s_stand (cx := cx) wf (v := cxX cx (nI (6 * i) + 1).toNatClampNeg)
  refine eL_law (And.intro (lw_v hi hL 1 (by decide)) (wcA (X (d - 1) 1 h (by omega) (Nat.le_refl _) x) ha (fun v g z => ?_) rfl))
  obtain ⟨rfl, rx, km⟩ := z
  refine And.intro (lw_v hi hL 1 (by decide)) (wcQ (Y (d - 1) c g (by omega) hc (RM_keepMd m km)) (fun v g2 z => ?_) (fun v g2 z => keepC_N z.2.2))
  obtain ⟨rfl, rm, kc⟩ := z
  exact And.intro (fun _ => nx A' g2 wf' (RX_keepC rx kc) rm) (fun q => absurd rfl q)
theorem lc_falls (hd : 201 ≤ d) (ha : 1 ≤ a) (hc : c < 1000) (hi : 6 * i + 6 ≤ cxL cx) (hL : cxL cx ≤ 3072) (wf : wfA A) (x : RX A h) (m : RM c A h) (nx : ∀ A' g, wfA A' → RX A' g → RM (c + 1) A' g → E cx 252 d (a - 1) 1193 (lwL i) [] g Q) : E cx 252 d a 699 (lwL i) [] h Q := by
  obtain ⟨r, A', wf', X, Y⟩ := s_falls (cx := cx) wf (x := cxX cx (nI (6 * i) + 1).toNatClampNeg) (q := cxX cx (nI (6 * i) + 2).toNatClampNeg)
  refine eL_law (And.intro (lw_v hi hL 1 (by decide)) (And.intro (lw_v hi hL 2 (by decide)) (wcA (X (d - 1) 1 h (by omega) (Nat.le_refl _) x) ha (fun v g z => ?_) rfl)))
  obtain ⟨rfl, rx, km⟩ := z
  refine And.intro (lw_v hi hL 1 (by decide)) (And.intro (lw_v hi hL 2 (by decide)) (wcQ (Y (d - 1) c g (by omega) hc (RM_keepMd m km)) (fun v g2 z => ?_) (fun v g2 z => keepC_N z.2.2)))
  obtain ⟨rfl, rm, kc⟩ := z
  exact And.intro (fun _ => nx A' g2 wf' (RX_keepC rx kc) rm) (fun q => absurd rfl q)
theorem lc_round (hd : 201 ≤ d) (ha : 1 ≤ a) (hc : c < 1000) (hi : 6 * i + 6 ≤ cxL cx) (hL : cxL cx ≤ 3072) (wf : wfA A) (x : RX A h) (m : RM c A h) (nx : ∀ A' g, wfA A' → RX A' g → RM (c + 1) A' g → E cx 252 d (a - 1) 1193 (lwL i) [] g Q) : E cx 252 d a 732 (lwL i) [] h Q := by
  obtain ⟨r, A', wf', X, Y⟩ := s_round (cx := cx) wf (x := cxX cx (nI (6 * i) + 1).toNatClampNeg) (v := cxX cx (nI (6 * i) + 2).toNatClampNeg)
  refine eL_law (And.intro (lw_v hi hL 1 (by decide)) (And.intro (lw_v hi hL 2 (by decide)) (wcA (X (d - 1) 1 h (by omega) (Nat.le_refl _) x) ha (fun v g z => ?_) rfl)))
  obtain ⟨rfl, rx, km⟩ := z
  refine And.intro (lw_v hi hL 1 (by decide)) (And.intro (lw_v hi hL 2 (by decide)) (wcQ (Y (d - 1) c g (by omega) hc (RM_keepMd m km)) (fun v g2 z => ?_) (fun v g2 z => keepC_N z.2.2)))
  obtain ⟨rfl, rm, kc⟩ := z
  exact And.intro (fun _ => nx A' g2 wf' (RX_keepC rx kc) rm) (fun q => absurd rfl q)
theorem lc_take (hd : 201 ≤ d) (ha : 1 ≤ a) (hc : c < 1000) (hi : 6 * i + 6 ≤ cxL cx) (hL : cxL cx ≤ 3072) (wf : wfA A) (x : RX A h) (m : RM c A h) (nx : ∀ A' g, wfA A' → RX A' g → RM (c + 1) A' g → E cx 252 d (a - 1) 1193 (lwL i) [] g Q) : E cx 252 d a 765 (lwL i) [] h Q := by
  obtain ⟨r, A', wf', X, Y⟩ := s_take (cx := cx) wf (x := cxX cx (nI (6 * i) + 1).toNatClampNeg)
  refine eL_law (And.intro (lw_v hi hL 1 (by decide)) (wcA (X (d - 1) 1 h (by omega) (Nat.le_refl _) x) ha (fun v g z => ?_) rfl))
  obtain ⟨rfl, rx, km⟩ := z
  refine And.intro (lw_v hi hL 1 (by decide)) (wcQ (Y (d - 1) c g (by omega) hc (RM_keepMd m km)) (fun v g2 z => ?_) (fun v g2 z => keepC_N z.2.2))
  obtain ⟨rfl, rm, kc⟩ := z
  exact And.intro (fun _ => nx A' g2 wf' (RX_keepC rx kc) rm) (fun q => absurd rfl q)
theorem lc_farm (hd : 201 ≤ d) (ha : 1 ≤ a) (hc : c < 1000) (hi : 6 * i + 6 ≤ cxL cx) (hL : cxL cx ≤ 3072) (wf : wfA A) (x : RX A h) (m : RM c A h) (nx : ∀ A' g, wfA A' → RX A' g → RM (c + 1) A' g → E cx 252 d (a - 1) 1193 (lwL i) [] g Q) : E cx 252 d a 788 (lwL i) [] h Q := by
  obtain ⟨r, A', wf', X, Y⟩ := s_farm (cx := cx) wf (x := cxX cx (nI (6 * i) + 1).toNatClampNeg) (q := cxX cx (nI (6 * i) + 2).toNatClampNeg)
  refine eL_law (And.intro (lw_v hi hL 1 (by decide)) (And.intro (lw_v hi hL 2 (by decide)) (wcA (X (d - 1) 1 h (by omega) (Nat.le_refl _) x) ha (fun v g z => ?_) rfl)))
  obtain ⟨rfl, rx, km⟩ := z
  refine And.intro (lw_v hi hL 1 (by decide)) (And.intro (lw_v hi hL 2 (by decide)) (wcQ (Y (d - 1) c g (by omega) hc (RM_keepMd m km)) (fun v g2 z => ?_) (fun v g2 z => keepC_N z.2.2)))
  obtain ⟨rfl, rm, kc⟩ := z
  exact And.intro (fun _ => nx A' g2 wf' (RX_keepC rx kc) rm) (fun q => absurd rfl q)
theorem lc_once (hd : 201 ≤ d) (ha : 1 ≤ a) (hc : c < 1000) (hi : 6 * i + 6 ≤ cxL cx) (hL : cxL cx ≤ 3072) (wf : wfA A) (x : RX A h) (m : RM c A h) (nx : ∀ A' g, wfA A' → RX A' g → RM (c + 1) A' g → E cx 252 d (a - 1) 1193 (lwL i) [] g Q) : E cx 252 d a 821 (lwL i) [] h Q := by
  obtain ⟨r, A', wf', X, Y⟩ := s_once (cx := cx) wf (q := cxX cx (nI (6 * i) + 1).toNatClampNeg)
  refine eL_law (And.intro (lw_v hi hL 1 (by decide)) (wcA (X (d - 1) 1 h (by omega) (Nat.le_refl _) x) ha (fun v g z => ?_) rfl))
  obtain ⟨rfl, rx, km⟩ := z
  refine And.intro (lw_v hi hL 1 (by decide)) (wcQ (Y (d - 1) c g (by omega) hc (RM_keepMd m km)) (fun v g2 z => ?_) (fun v g2 z => keepC_N z.2.2))
  obtain ⟨rfl, rm, kc⟩ := z
  exact And.intro (fun _ => nx A' g2 wf' (RX_keepC rx kc) rm) (fun q => absurd rfl q)
theorem lc_oneByOne (hd : 201 ≤ d) (ha : 1 ≤ a) (hc : c < 1000) (hi : 6 * i + 6 ≤ cxL cx) (hL : cxL cx ≤ 3072) (wf : wfA A) (x : RX A h) (m : RM c A h) (nx : ∀ A' g, wfA A' → RX A' g → RM (c + 1) A' g → E cx 252 d (a - 1) 1193 (lwL i) [] g Q) : E cx 252 d a 844 (lwL i) [] h Q := by
  obtain ⟨r, A', wf', X, Y⟩ := s_oneByOne (cx := cx) wf (q := cxX cx (nI (6 * i) + 1).toNatClampNeg)
  refine eL_law (And.intro (lw_v hi hL 1 (by decide)) (wcA (X (d - 1) 1 h (by omega) (Nat.le_refl _) x) ha (fun v g z => ?_) rfl))
  obtain ⟨rfl, rx, km⟩ := z
  refine And.intro (lw_v hi hL 1 (by decide)) (wcQ (Y (d - 1) c g (by omega) hc (RM_keepMd m km)) (fun v g2 z => ?_) (fun v g2 z => keepC_N z.2.2))
  obtain ⟨rfl, rm, kc⟩ := z
  exact And.intro (fun _ => nx A' g2 wf' (RX_keepC rx kc) rm) (fun q => absurd rfl q)
theorem lc_order (hd : 201 ≤ d) (ha : 1 ≤ a) (hc : c < 1000) (hi : 6 * i + 6 ≤ cxL cx) (hL : cxL cx ≤ 3072) (wf : wfA A) (x : RX A h) (m : RM c A h) (nx : ∀ A' g, wfA A' → RX A' g → RM (c + 1) A' g → E cx 252 d (a - 1) 1193 (lwL i) [] g Q) : E cx 252 d a 867 (lwL i) [] h Q := by
  obtain ⟨r, A', wf', X, Y⟩ := s_order (cx := cx) wf (i := cxX cx (nI (6 * i) + 1).toNatClampNeg)
  refine eL_law (And.intro (lw_v hi hL 1 (by decide)) (wcA (X (d - 1) 1 h (by omega) (Nat.le_refl _) x) ha (fun v g z => ?_) rfl))
  obtain ⟨rfl, rx, km⟩ := z
  refine And.intro (lw_v hi hL 1 (by decide)) (wcQ (Y (d - 1) c g (by omega) hc (RM_keepMd m km)) (fun v g2 z => ?_) (fun v g2 z => keepC_N z.2.2))
  obtain ⟨rfl, rm, kc⟩ := z
  exact And.intro (fun _ => nx A' g2 wf' (RX_keepC rx kc) rm) (fun q => absurd rfl q)
theorem lc_fell (hd : 201 ≤ d) (ha : 1 ≤ a) (hc : c < 1000) (hi : 6 * i + 6 ≤ cxL cx) (hL : cxL cx ≤ 3072) (wf : wfA A) (x : RX A h) (m : RM c A h) (nx : ∀ A' g, wfA A' → RX A' g → RM (c + 1) A' g → E cx 252 d (a - 1) 1193 (lwL i) [] g Q) : E cx 252 d a 890 (lwL i) [] h Q := by
  obtain ⟨r, A', wf', X, Y⟩ := s_fell (cx := cx) wf (q := cxX cx (nI (6 * i) + 1).toNatClampNeg)
  refine eL_law (And.intro (lw_v hi hL 1 (by decide)) (wcA (X (d - 1) 1 h (by omega) (Nat.le_refl _) x) ha (fun v g z => ?_) rfl))
  obtain ⟨rfl, rx, km⟩ := z
  refine And.intro (lw_v hi hL 1 (by decide)) (wcQ (Y (d - 1) c g (by omega) hc (RM_keepMd m km)) (fun v g2 z => ?_) (fun v g2 z => keepC_N z.2.2))
  obtain ⟨rfl, rm, kc⟩ := z
  exact And.intro (fun _ => nx A' g2 wf' (RX_keepC rx kc) rm) (fun q => absurd rfl q)
theorem lc_gate (hd : 201 ≤ d) (ha : 1 ≤ a) (hc : c < 1000) (hi : 6 * i + 6 ≤ cxL cx) (hL : cxL cx ≤ 3072) (wf : wfA A) (x : RX A h) (m : RM c A h) (nx : ∀ A' g, wfA A' → RX A' g → RM (c + 1) A' g → E cx 252 d (a - 1) 1193 (lwL i) [] g Q) : E cx 252 d a 913 (lwL i) [] h Q := by
  obtain ⟨r, A', wf', X, Y⟩ := s_gate (cx := cx) wf (x := cxX cx (nI (6 * i) + 1).toNatClampNeg) (y := cxX cx (nI (6 * i) + 2).toNatClampNeg) (u := cxX cx (nI (6 * i) + 3).toNatClampNeg) (v := cxX cx (nI (6 * i) + 4).toNatClampNeg) (q := cxX cx (nI (6 * i) + 5).toNatClampNeg)
  refine eL_law (And.intro (lw_v hi hL 1 (by decide)) (And.intro (lw_v hi hL 2 (by decide)) (And.intro (lw_v hi hL 3 (by decide)) (And.intro (lw_v hi hL 4 (by decide)) (And.intro (lw_v hi hL 5 (by decide)) (wcA (X (d - 1) 1 h (by omega) (Nat.le_refl _) x) ha (fun v g z => ?_) rfl))))))
  obtain ⟨rfl, rx, km⟩ := z
  refine And.intro (lw_v hi hL 1 (by decide)) (And.intro (lw_v hi hL 2 (by decide)) (And.intro (lw_v hi hL 3 (by decide)) (And.intro (lw_v hi hL 4 (by decide)) (And.intro (lw_v hi hL 5 (by decide)) (wcQ (Y (d - 1) c g (by omega) hc (RM_keepMd m km)) (fun v g2 z => ?_) (fun v g2 z => keepC_N z.2.2))))))
  obtain ⟨rfl, rm, kc⟩ := z
  exact And.intro (fun _ => nx A' g2 wf' (RX_keepC rx kc) rm) (fun q => absurd rfl q)
theorem lc_mend (hd : 201 ≤ d) (ha : 1 ≤ a) (hc : c < 1000) (hi : 6 * i + 6 ≤ cxL cx) (hL : cxL cx ≤ 3072) (wf : wfA A) (x : RX A h) (m : RM c A h) (nx : ∀ A' g, wfA A' → RX A' g → RM (c + 1) A' g → E cx 252 d (a - 1) 1193 (lwL i) [] g Q) : E cx 252 d a 976 (lwL i) [] h Q := by
  obtain ⟨r, A', wf', X, Y⟩ := s_mend (cx := cx) wf (q := cxX cx (nI (6 * i) + 1).toNatClampNeg)
  refine eL_law (And.intro (lw_v hi hL 1 (by decide)) (wcA (X (d - 1) 1 h (by omega) (Nat.le_refl _) x) ha (fun v g z => ?_) rfl))
  obtain ⟨rfl, rx, km⟩ := z
  refine And.intro (lw_v hi hL 1 (by decide)) (wcQ (Y (d - 1) c g (by omega) hc (RM_keepMd m km)) (fun v g2 z => ?_) (fun v g2 z => keepC_N z.2.2))
  obtain ⟨rfl, rm, kc⟩ := z
  exact And.intro (fun _ => nx A' g2 wf' (RX_keepC rx kc) rm) (fun q => absurd rfl q)
theorem lc_game (hd : 201 ≤ d) (ha : 1 ≤ a) (hc : c < 1000) (hi : 6 * i + 6 ≤ cxL cx) (hL : cxL cx ≤ 3072) (wf : wfA A) (x : RX A h) (m : RM c A h) (nx : ∀ A' g, wfA A' → RX A' g → RM (c + 1) A' g → E cx 252 d (a - 1) 1193 (lwL i) [] g Q) : E cx 252 d a 999 (lwL i) [] h Q := by
  obtain ⟨r, A', wf', X, Y⟩ := s_game (cx := cx) wf (q := cxX cx (nI (6 * i) + 1).toNatClampNeg)
  refine eL_law (And.intro (lw_v hi hL 1 (by decide)) (wcA (X (d - 1) 1 h (by omega) (Nat.le_refl _) x) ha (fun v g z => ?_) rfl))
  obtain ⟨rfl, rx, km⟩ := z
  refine And.intro (lw_v hi hL 1 (by decide)) (wcQ (Y (d - 1) c g (by omega) hc (RM_keepMd m km)) (fun v g2 z => ?_) (fun v g2 z => keepC_N z.2.2))
  obtain ⟨rfl, rm, kc⟩ := z
  exact And.intro (fun _ => nx A' g2 wf' (RX_keepC rx kc) rm) (fun q => absurd rfl q)
theorem lc_night (hd : 201 ≤ d) (ha : 1 ≤ a) (hc : c < 1000) (hi : 6 * i + 6 ≤ cxL cx) (hL : cxL cx ≤ 3072) (wf : wfA A) (x : RX A h) (m : RM c A h) (nx : ∀ A' g, wfA A' → RX A' g → RM (c + 1) A' g → E cx 252 d (a - 1) 1193 (lwL i) [] g Q) : E cx 252 d a 1022 (lwL i) [] h Q := by
  obtain ⟨r, A', wf', X, Y⟩ := s_night (cx := cx) wf (x := cxX cx (nI (6 * i) + 1).toNatClampNeg) (q := cxX cx (nI (6 * i) + 2).toNatClampNeg)
  refine eL_law (And.intro (lw_v hi hL 1 (by decide)) (And.intro (lw_v hi hL 2 (by decide)) (wcA (X (d - 1) 1 h (by omega) (Nat.le_refl _) x) ha (fun v g z => ?_) rfl)))
  obtain ⟨rfl, rx, km⟩ := z
  refine And.intro (lw_v hi hL 1 (by decide)) (And.intro (lw_v hi hL 2 (by decide)) (wcQ (Y (d - 1) c g (by omega) hc (RM_keepMd m km)) (fun v g2 z => ?_) (fun v g2 z => keepC_N z.2.2)))
  obtain ⟨rfl, rm, kc⟩ := z
  exact And.intro (fun _ => nx A' g2 wf' (RX_keepC rx kc) rm) (fun q => absurd rfl q)
theorem lc_winters (hd : 201 ≤ d) (ha : 1 ≤ a) (hc : c < 1000) (hi : 6 * i + 6 ≤ cxL cx) (hL : cxL cx ≤ 3072) (wf : wfA A) (x : RX A h) (m : RM c A h) (nx : ∀ A' g, wfA A' → RX A' g → RM (c + 1) A' g → E cx 252 d (a - 1) 1193 (lwL i) [] g Q) : E cx 252 d a 1055 (lwL i) [] h Q := by
  obtain ⟨r, A', wf', X, Y⟩ := s_winters (cx := cx) wf (x := cxX cx (nI (6 * i) + 1).toNatClampNeg) (y := cxX cx (nI (6 * i) + 2).toNatClampNeg)
  refine eL_law (And.intro (lw_v hi hL 1 (by decide)) (And.intro (lw_v hi hL 2 (by decide)) (wcA (X (d - 1) 1 h (by omega) (Nat.le_refl _) x) ha (fun v g z => ?_) rfl)))
  obtain ⟨rfl, rx, km⟩ := z
  refine And.intro (lw_v hi hL 1 (by decide)) (And.intro (lw_v hi hL 2 (by decide)) (wcQ (Y (d - 1) c g (by omega) hc (RM_keepMd m km)) (fun v g2 z => ?_) (fun v g2 z => keepC_N z.2.2)))
  obtain ⟨rfl, rm, kc⟩ := z
  exact And.intro (fun _ => nx A' g2 wf' (RX_keepC rx kc) rm) (fun q => absurd rfl q)
theorem lc_winter (hd : 201 ≤ d) (ha : 1 ≤ a) (hc : c < 1000) (hi : 6 * i + 6 ≤ cxL cx) (hL : cxL cx ≤ 3072) (wf : wfA A) (x : RX A h) (m : RM c A h) (nx : ∀ A' g, wfA A' → RX A' g → RM (c + 1) A' g → E cx 252 d (a - 1) 1193 (lwL i) [] g Q) : E cx 252 d a 1088 (lwL i) [] h Q := by
  obtain ⟨r, A', wf', X, Y⟩ := s_winter (cx := cx) wf (i := cxX cx (nI (6 * i) + 1).toNatClampNeg)
  refine eL_law (And.intro (lw_v hi hL 1 (by decide)) (wcA (X (d - 1) 1 h (by omega) (Nat.le_refl _) x) ha (fun v g z => ?_) rfl))
  obtain ⟨rfl, rx, km⟩ := z
  refine And.intro (lw_v hi hL 1 (by decide)) (wcQ (Y (d - 1) c g (by omega) hc (RM_keepMd m km)) (fun v g2 z => ?_) (fun v g2 z => keepC_N z.2.2))
  obtain ⟨rfl, rm, kc⟩ := z
  exact And.intro (fun _ => nx A' g2 wf' (RX_keepC rx kc) rm) (fun q => absurd rfl q)
theorem lc_image (hd : 201 ≤ d) (ha : 1 ≤ a) (hc : c < 1000) (hi : 6 * i + 6 ≤ cxL cx) (hL : cxL cx ≤ 3072) (wf : wfA A) (x : RX A h) (m : RM c A h) (nx : ∀ A' g, wfA A' → RX A' g → RM (c + 1) A' g → E cx 252 d (a - 1) 1193 (lwL i) [] g Q) : E cx 252 d a 1111 (lwL i) [] h Q := by
  obtain ⟨r, A', wf', X, Y⟩ := s_image (cx := cx) wf (v := cxX cx (nI (6 * i) + 1).toNatClampNeg)
  refine eL_law (And.intro (lw_v hi hL 1 (by decide)) (wcA (X (d - 1) 1 h (by omega) (Nat.le_refl _) x) ha (fun v g z => ?_) rfl))
  obtain ⟨rfl, rx, km⟩ := z
  refine And.intro (lw_v hi hL 1 (by decide)) (wcQ (Y (d - 1) c g (by omega) hc (RM_keepMd m km)) (fun v g2 z => ?_) (fun v g2 z => keepC_N z.2.2))
  obtain ⟨rfl, rm, kc⟩ := z
  exact And.intro (fun _ => nx A' g2 wf' (RX_keepC rx kc) rm) (fun q => absurd rfl q)
theorem lc_back (hd : 201 ≤ d) (ha : 1 ≤ a) (hc : c < 1000) (hi : 6 * i + 6 ≤ cxL cx) (hL : cxL cx ≤ 3072) (wf : wfA A) (x : RX A h) (m : RM c A h) (nx : ∀ A' g, wfA A' → RX A' g → RM (c + 1) A' g → E cx 252 d (a - 1) 1193 (lwL i) [] g Q) : E cx 252 d a 1134 (lwL i) [] h Q := by
  obtain ⟨r, A', wf', X, Y⟩ := s_back (cx := cx) wf (v := cxX cx (nI (6 * i) + 1).toNatClampNeg)
  refine eL_law (And.intro (lw_v hi hL 1 (by decide)) (wcA (X (d - 1) 1 h (by omega) (Nat.le_refl _) x) ha (fun v g z => ?_) rfl))
  obtain ⟨rfl, rx, km⟩ := z
  refine And.intro (lw_v hi hL 1 (by decide)) (wcQ (Y (d - 1) c g (by omega) hc (RM_keepMd m km)) (fun v g2 z => ?_) (fun v g2 z => keepC_N z.2.2))
  obtain ⟨rfl, rm, kc⟩ := z
  exact And.intro (fun _ => nx A' g2 wf' (RX_keepC rx kc) rm) (fun q => absurd rfl q)
theorem lc_count (hd : 201 ≤ d) (ha : 1 ≤ a) (hc : c < 1000) (hi : 6 * i + 6 ≤ cxL cx) (hL : cxL cx ≤ 3072) (wf : wfA A) (x : RX A h) (m : RM c A h) (nx : ∀ A' g, wfA A' → RX A' g → RM (c + 1) A' g → E cx 252 d (a - 1) 1193 (lwL i) [] g Q) : E cx 252 d a 1157 (lwL i) [] h Q := by
  obtain ⟨r, A', wf', X, Y⟩ := s_count (cx := cx) wf (q := cxX cx (nI (6 * i) + 1).toNatClampNeg)
  refine eL_law (And.intro (lw_v hi hL 1 (by decide)) (wcA (X (d - 1) 1 h (by omega) (Nat.le_refl _) x) ha (fun v g z => ?_) rfl))
  obtain ⟨rfl, rx, km⟩ := z
  refine And.intro (lw_v hi hL 1 (by decide)) (wcQ (Y (d - 1) c g (by omega) hc (RM_keepMd m km)) (fun v g2 z => ?_) (fun v g2 z => keepC_N z.2.2))
  obtain ⟨rfl, rm, kc⟩ := z
  exact And.intro (fun _ => nx A' g2 wf' (RX_keepC rx kc) rm) (fun q => absurd rfl q)
theorem lc_status (hd : 201 ≤ d) (ha : 1 ≤ a) (hc : c < 1000) (hi : 6 * i + 6 ≤ cxL cx) (hL : cxL cx ≤ 3072) (wf : wfA A) (x : RX A h) (m : RM c A h) (nx : ∀ A' g, wfA A' → RX A' g → RM (c + 1) A' g → E cx 252 d (a - 1) 1193 (lwL i) [] g Q) : E cx 252 d a 1180 (lwL i) [] h Q := by
  obtain ⟨r, A', wf', X, Y⟩ := s_status (cx := cx) wf 
  refine eL_law (wcA (X (d - 1) 1 h (by omega) (Nat.le_refl _) x) ha (fun v g z => ?_) rfl)
  obtain ⟨rfl, rx, km⟩ := z
  refine wcQ (Y (d - 1) c g (by omega) hc (RM_keepMd m km)) (fun v g2 z => ?_) (fun v g2 z => keepC_N z.2.2)
  obtain ⟨rfl, rm, kc⟩ := z
  exact And.intro (fun _ => nx A' g2 wf' (RX_keepC rx kc) rm) (fun q => absurd rfl q)
theorem lw_loop (hd : 201 ≤ d) (hL : cxL cx ≤ 3072) (hq : ∀ h, Q (some (.int 1)) h) : ∀ k i a A h, k + i = 512 → k ≤ a → wfA A → RX A h → RM i A h → E cx 252 d a 18 (lwL i) [] h Q := by
  intro k
  induction k with
  | zero =>
    intro i a A h hk ha wf x m
    refine eL_law (And.intro (fun _ => eL_law (And.intro (Or.inr rfl) (hq h))) (fun q => absurd ?_ q))
    show nI (cxL cx) - 6 < nI (6 * i)
    by_cases z : 6 ≤ cxL cx
    · rw [show (6 : Int32) = nI 6 from rfl, pk_sub z]; exact nI_lt (by omega) (by omega)
    · rw [Int32.lt_iff_toInt_lt, show (6 : Int32) = nI 6 from rfl, pk_sub_toInt (by omega) (by omega), nI_toInt (by omega)]; omega
  | succ k ih =>
    intro i a A h hk ha wf x m
    refine eL_law (And.intro (fun _ => eL_law (And.intro (Or.inr rfl) (hq h))) (fun q => ?_))
    have hi : 6 * i + 6 ≤ cxL cx := by
      have q : ¬ nI (cxL cx) - 6 < nI (6 * i) := q
      refine Nat.le_of_not_lt fun y => q ?_
      by_cases z : 6 ≤ cxL cx
      · rw [show (6 : Int32) = nI 6 from rfl, pk_sub z]; exact nI_lt (by omega) (by omega)
      · rw [Int32.lt_iff_toInt_lt, show (6 : Int32) = nI 6 from rfl, pk_sub_toInt (by omega) (by omega), nI_toInt (by omega)]; omega
    have v0 : vp_in (nI (6 * i)) (cxL cx) := vp_in_nI (by omega) (by omega)
    have go : ∀ a' A' g, k ≤ a' → wfA A' → RX A' g → RM (i + 1) A' g → E cx 252 d a' 1193 (lwL i) [] g Q := fun a' A' g ha' wf' rx rm => by
      have nx := ih (i + 1) a' A' g (by omega) ha' wf' rx rm
      unfold lwL at nx ⊢
      rw [show nI (6 * (i + 1)) = nI (6 * i) + 6 by rw [show (6 : Int32) = nI 6 from rfl, nI_add]; congr 1] at nx
      exact eL_law nx
    have nx : ∀ A' g, wfA A' → RX A' g → RM (i + 1) A' g → E cx 252 d (a - 1) 1193 (lwL i) [] g Q := fun A' g => go (a - 1) A' g (by omega)
    refine And.intro v0 (And.intro (fun _ => go a A h (by omega) wf x (RM_le m (by omega))) ?_)
    refine And.intro (fun _ => lc_stone hd (by omega) (by omega) hi hL wf x m nx) ?_
    refine And.intro (fun _ => lc_spare hd (by omega) (by omega) hi hL wf x m nx) ?_
    refine And.intro (fun _ => lc_put hd (by omega) (by omega) hi hL wf x m nx) ?_
    refine And.intro (fun _ => lc_of hd (by omega) (by omega) hi hL wf x m nx) ?_
    refine And.intro (fun _ => lc_terms hd (by omega) (by omega) hi hL wf x m nx) ?_
    refine And.intro (fun _ => lc_feed hd (by omega) (by omega) hi hL wf x m nx) ?_
    refine And.intro (fun _ => lc_end hd (by omega) (by omega) hi hL wf x m nx) ?_
    refine And.intro (fun _ => lc_row hd (by omega) (by omega) hi hL wf x m nx) ?_
    refine And.intro (fun _ => lc_rubble hd (by omega) (by omega) hi hL wf x m nx) ?_
    refine And.intro (fun _ => lc_law hd (by omega) (by omega) hi hL wf x m nx) ?_
    refine And.intro (fun _ => lc_fault hd (by omega) (by omega) hi hL wf x m nx) ?_
    refine And.intro (fun _ => lc_force hd (by omega) (by omega) hi hL wf x m nx) ?_
    refine And.intro (fun _ => lc_at hd (by omega) (by omega) hi hL wf x m nx) ?_
    refine And.intro (fun _ => lc_touches hd (by omega) (by omega) hi hL wf x m nx) ?_
    refine And.intro (fun _ => lc_unlawful hd (by omega) (by omega) hi hL wf x m nx) ?_
    refine And.intro (fun _ => lc_there hd (by omega) (by omega) hi hL wf x m nx) ?_
    refine And.intro (fun _ => lc_stand hd (by omega) (by omega) hi hL wf x m nx) ?_
    refine And.intro (fun _ => lc_falls hd (by omega) (by omega) hi hL wf x m nx) ?_
    refine And.intro (fun _ => lc_round hd (by omega) (by omega) hi hL wf x m nx) ?_
    refine And.intro (fun _ => lc_take hd (by omega) (by omega) hi hL wf x m nx) ?_
    refine And.intro (fun _ => lc_farm hd (by omega) (by omega) hi hL wf x m nx) ?_
    refine And.intro (fun _ => lc_once hd (by omega) (by omega) hi hL wf x m nx) ?_
    refine And.intro (fun _ => lc_oneByOne hd (by omega) (by omega) hi hL wf x m nx) ?_
    refine And.intro (fun _ => lc_order hd (by omega) (by omega) hi hL wf x m nx) ?_
    refine And.intro (fun _ => lc_fell hd (by omega) (by omega) hi hL wf x m nx) ?_
    refine And.intro (fun _ => lc_gate hd (by omega) (by omega) hi hL wf x m nx) ?_
    refine And.intro (fun _ => lc_mend hd (by omega) (by omega) hi hL wf x m nx) ?_
    refine And.intro (fun _ => lc_game hd (by omega) (by omega) hi hL wf x m nx) ?_
    refine And.intro (fun _ => lc_night hd (by omega) (by omega) hi hL wf x m nx) ?_
    refine And.intro (fun _ => lc_winters hd (by omega) (by omega) hi hL wf x m nx) ?_
    refine And.intro (fun _ => lc_winter hd (by omega) (by omega) hi hL wf x m nx) ?_
    refine And.intro (fun _ => lc_image hd (by omega) (by omega) hi hL wf x m nx) ?_
    refine And.intro (fun _ => lc_back hd (by omega) (by omega) hi hL wf x m nx) ?_
    refine And.intro (fun _ => lc_count hd (by omega) (by omega) hi hL wf x m nx) ?_
    refine And.intro (fun _ => lc_status hd (by omega) (by omega) hi hL wf x m nx) ?_
    trivial
end T999998
