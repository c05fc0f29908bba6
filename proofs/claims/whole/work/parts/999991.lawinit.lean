/-! a new law is made -/
abbrev lj27 : List (Nat × Instr × Nat) := [(0, .aload_n 0, 1), (1, .invokespecial 3, 3), (4, .aload_n 0, 1), (5, .iconst 0, 1), (6, .iload_n 2, 1), (7, .invokestatic 9, 3), (10, .newarray .int, 2), (12, .putfield 15, 3), (15, .iconst 0, 1), (16, .istore 5, 2), (18, .iload 5, 2), (20, .iload_n 2, 1), (21, .if_icmp .ge 27, 3), (24, .iload 5, 2), (26, .aload_n 1, 1), (27, .arraylength, 1), (28, .if_icmp .ge 20, 3), (31, .aload_n 0, 1), (32, .getfield 15, 3), (35, .iload 5, 2), (37, .aload_n 1, 1), (38, .iload 5, 2), (40, .iaload, 1), (41, .iastore, 1), (42, .iinc 5 1, 3), (45, .goto (-27), 3)]
abbrev lk27 : List (Nat × Instr × Nat) := [(48, .aload_n 0, 1), (49, .iconst 2, 1), (50, .iconst 0, 1), (51, .iload 4, 2), (53, .invokestatic 9, 3), (56, .imul, 1), (57, .iconst 1, 1), (58, .iadd, 1), (59, .newarray .int, 2), (61, .putfield 19, 3), (64, .iconst 0, 1), (65, .istore 5, 2), (67, .iload 5, 2), (69, .iconst 2, 1), (70, .iload 4, 2), (72, .imul, 1), (73, .if_icmp .ge 27, 3), (76, .iload 5, 2), (78, .aload_n 3, 1), (79, .arraylength, 1), (80, .if_icmp .ge 20, 3), (83, .aload_n 0, 1), (84, .getfield 19, 3), (87, .iload 5, 2), (89, .aload_n 3, 1), (90, .iload 5, 2), (92, .iaload, 1), (93, .iastore, 1), (94, .iinc 5 1, 3), (97, .goto (-30), 3)]
abbrev ll27 : List (Nat × Instr × Nat) := [(100, .aload_n 0, 1), (101, .getfield 19, 3), (104, .aload_n 0, 1), (105, .getfield 19, 3), (108, .arraylength, 1), (109, .iconst 1, 1), (110, .isub, 1), (111, .aload_n 0, 1), (112, .getfield 15, 3), (115, .arraylength, 1), (116, .iastore, 1), (117, .aload_n 0, 1), (118, .iload 4, 2), (120, .putfield 22, 3), (123, .return_, 1)]
theorem dj27 : lj27.all (dx 27) = true := by decide +kernel
theorem dk27 : lk27.all (dx 27) = true := by decide +kernel
theorem dl27 : ll27.all (dx 27) = true := by decide +kernel
theorem k27 : (mcn 27 = 3 ∧ mmax 27 = 6 ∧ mret 27 = none ∧ (my 27).name = "<init>") := by decide +kernel
theorem k27_w : lw_tbl[674]? = some (Cond.methodLink (tb_RR (mcn 27)) 3 Lib.objectInit) := by decide +kernel
theorem k27_m : (mcn 27, 9, 237, 1, 675) ∈ tb_C := by decide +kernel
theorem k27_f : (chF 27 15 3 0 && chF 27 19 3 1 && chF 27 22 3 2) = true := by decide +kernel
theorem k27_a : lw_tbl[153]? = some (Cond.arrayClass (newarray.typeOf .int)) := by decide +kernel
def cpy (T : Nat → Int32) (k : Nat) : Nat → Int32 := fun i => if i < k then T i else 0
theorem cpy_up {T : Nat → Int32} {k : Nat} : upd (cpy T k) k (T k) = cpy T (k + 1) := by
  funext i
  unfold cpy upd
  by_cases e : i = k
  · subst e; simp
  · by_cases c : i < k
    · simp [e, c]; omega
    · simp [e, c]; omega
theorem upW_s {f : Nat → Nat × va_E} {k : Nat} {x : Nat × va_E} : upW f k x k = x := by simp [upW]
theorem upW_n {f : Nat → Nat × va_E} {k i : Nat} {x : Nat × va_E} (h : i ≠ k) : upW f k x i = f i := by simp [upW, h]
section T999991
variable {cx : Cx} {kf : Bool} {d : Nat} {f : Nat → Nat × va_E} {K : Nat}
theorem b_le {j nc ns nc' ns' pc : Nat} {loc : Lc} {st : List Value} {Q : Option Value → Nat → (Nat → Nat × va_E) → Prop} (k : B cx kf j d nc ns pc loc st K f Q) (h1 : nc ≤ nc') (h2 : ns ≤ ns') : B cx kf j d nc' ns' pc loc st K f Q := by
  intro p l e s m args below meth c ws0 ls H locs n0 s0 mc ms hc g1 g2
  exact k p l e s m args below meth c ws0 ls H locs n0 s0 mc ms hc (by omega) (by omega)
theorem b_pad {j nc ns pc : Nat} {loc : Lc} {st : List Value} {Q : Option Value → Nat → (Nat → Nat × va_E) → Prop} (n : Nat) (k : B cx kf j d nc ns pc (padN n loc) st K f Q) : B cx kf j d nc ns pc loc st K f Q := by
  intro p l e s m args below meth c ws0 ls H locs n0 s0 mc ms hc h1 h2
  exact k p l e s m args below meth c ws0 ls H locs n0 s0 mc ms ⟨hc.1, hc.2.1, hc.2.2.1, hc.2.2.2.1, fun i v hv => hc.2.2.2.2 i v (lnth_pad n _ _ _ hv)⟩ h1 h2
def lawQ (cx : Cx) (K : Nat) (f : Nat → Nat × va_E) (io x m c : Nat) (T ST : Nat → Int32) : Option Value → Nat → (Nat → Nat × va_E) → Prop := fun r K' f' => r = none ∧ K' = K + 2 ∧ ∃ a1 a2, f' io = (x, .inr (3, [.ref a1, .ref a2, .int (nI c)])) ∧ f' K = (a1, .inl (cxA cx 0, m, .inl (cpy T m))) ∧ f' (K + 1) = (a2, .inl (cxA cx 0, 2 * c + 1, .inl (upd (cpy ST (2 * c)) (2 * c) (nI m)))) ∧ ∀ i, i < K → i ≠ io → f' i = f i
theorem mk_law (hd : 1 ≤ d) {io ia ib x xa xb m c : Nat} {T ST : Nat → Int32} (ho : io < K) (ha : ia < K) (hb : ib < K) (na : ia ≠ io) (nb : ib ≠ io) (hm : m ≤ 400) (hc12 : c ≤ 12) (eo : f io = (x, .inr (3, [.null, .null, .int 0]))) (ea : f ia = (xa, .inl (cxA cx 0, 400, .inl T))) (eb : f ib = (xb, .inl (cxA cx 0, 24, .inl ST))) : MK cx kf 27 d 2 (2 * c + 1 + m) [.ref x, .ref xa, .int (nI m), .ref xb, .int (nI c)] K f (lawQ cx K f io x m c T ST) := by
  obtain ⟨cn, mx, re, nm⟩ := k27
  have hF := k27_f
  simp only [Bool.and_eq_true] at hF
  have dc := fun q hq => dx_ok dj27 q hq
  have dk := fun q hq => dx_ok dk27 q hq
  have dl := fun q hq => dx_ok dl27 q hq
  refine mk_of (by decide +kernel) (by rw [mx]; exact Nat.le_of_ble_eq_true rfl) (b_pad 6 ?_)
  have fin : ∀ k, (tb_TT 3 k).2.2.2 = true → (tb_TT 3 k).1 = RX3 → (tb_TT 3 k).2.2.2 = false ∨ ((tb_TT 3 k).2.2.2 = true ∧ (my 27).name = "<init>" ∧ (tb_TT 3 k).1 = tb_RR (mcn 27)) := fun k h1 h2 => Or.inr ⟨h1, nm, by rw [cn]; exact h2⟩
  -- the end
  have e100 : ∀ a1 a2 l5 g, g io = (x, .inr (3, [.ref a1, .ref a2, .int 0])) → g K = (a1, .inl (cxA cx 0, m, .inl (cpy T m))) → g (K + 1) = (a2, .inl (cxA cx 0, 2 * c + 1, .inl (cpy ST (2 * c)))) → (∀ i, i < K → i ≠ io → g i = f i) → B cx kf 27 d 0 0 100 [some (.ref x), some (.ref xa), some (.int (nI m)), some (.ref xb), some (.int (nI c)), l5] [] (K + 1 + 1) g (lawQ cx K f io x m c T ST) := fun a1 a2 l5 g g1 g2 g3 g4 => by
    refine b_aload_n (x := x) (dl (100, .aload_n 0, 1) (by simp)) rfl ?_
    refine b_get (v := .ref a2) (dl (101, .getfield 19, 3) (by simp)) hF.1.2 (by omega) g1 rfl ?_
    refine b_aload_n (x := x) (dl (104, .aload_n 0, 1) (by simp)) rfl ?_
    refine b_get (v := .ref a2) (dl (105, .getfield 19, 3) (by simp)) hF.1.2 (by omega) g1 rfl ?_
    refine b_alen (dl (108, .arraylength, 1) (by simp)) (by omega) g3 ?_
    refine b_iconst (v := 1) (dl (109, .iconst 1, 1) (by simp)) rfl ?_
    refine b_isub (dl (110, .isub, 1) (by simp)) ?_
    refine b_aload_n (x := x) (dl (111, .aload_n 0, 1) (by simp)) rfl ?_
    refine b_get (v := .ref a1) (dl (112, .getfield 15, 3) (by simp)) hF.1.1 (by omega) g1 rfl ?_
    refine b_alen (dl (115, .arraylength, 1) (by simp)) (by omega) g2 ?_
    have e1 : Int32.ofNat (2 * c + 1) - 1 = nI (2 * c) := by show nI (2 * c + 1) - 1 = _; rw [nI_succ, Int32.add_sub_cancel]
    rw [e1]
    refine b_iast (dl (116, .iastore, 1) (by simp)) (by omega) g3 (vp_in_nI (by omega) (by omega)) ?_
    rw [nI_clamp (by omega)]
    refine b_aload_n (x := x) (dl (117, .aload_n 0, 1) (by simp)) rfl ?_
    refine b_iload (x := nI c) (dl (118, .iload 4, 2) (by simp)) rfl ?_
    refine b_put (i := io) (fs := [.ref a1, .ref a2, .int 0]) (dl (120, .putfield 22, 3) (by simp)) hF.2 (by omega) (by rw [upW_n (by omega)]; exact g1) (fin 2 rfl rfl) rfl rfl (Nat.le_refl 3) ?_
    refine b_vret (dl (123, .return_, 1) (by simp)) re ⟨rfl, rfl, a1, a2, ?_, ?_, ?_, fun i hi ni => ?_⟩
    · rw [upW_s]; rfl
    · rw [upW_n (by omega), upW_n (by omega)]; exact g2
    · rw [upW_n (by omega), upW_s]; rfl
    · rw [upW_n ni, upW_n (by omega)]; exact g4 i hi ni
  have e67 : ∀ r k a1 a2 g, r + k = 2 * c → g io = (x, .inr (3, [.ref a1, .ref a2, .int 0])) → g K = (a1, .inl (cxA cx 0, m, .inl (cpy T m))) → g (K + 1) = (a2, .inl (cxA cx 0, 2 * c + 1, .inl (cpy ST k))) → (∀ i, i < K → i ≠ io → g i = f i) → B cx kf 27 d 0 0 67 [some (.ref x), some (.ref xa), some (.int (nI m)), some (.ref xb), some (.int (nI c)), some (.int (nI k))] [] (K + 1 + 1) g (lawQ cx K f io x m c T ST) := by
    intro r
    induction r with
    | zero =>
      intro k a1 a2 g hk g1 g2 g3 g4
      have hk : k = 2 * c := by omega
      refine b_iload (x := nI k) (dk (67, .iload 5, 2) (by simp)) rfl ?_
      refine b_iconst (v := 2) (dk (69, .iconst 2, 1) (by simp)) rfl ?_
      refine b_iload (x := nI c) (dk (70, .iload 4, 2) (by simp)) rfl ?_
      refine b_imul (dk (72, .imul, 1) (by simp)) ?_
      rw [show (2 : Int32) * nI c = nI (2 * c) by rw [show (2 : Int32) = nI 2 from rfl, pk_mul]]
      refine b_icmp_ge (tgt := 100) (dk (73, .if_icmp .ge 27, 3) (by simp)) (by decide) (fun _ => ?_) (fun z => absurd (by rw [hk]; exact Int32.le_refl _) z)
      rw [hk] at g3 ⊢
      exact e100 a1 a2 _ g g1 g2 g3 g4
    | succ r ih =>
      intro k a1 a2 g hk g1 g2 g3 g4
      refine b_iload (x := nI k) (dk (67, .iload 5, 2) (by simp)) rfl ?_
      refine b_iconst (v := 2) (dk (69, .iconst 2, 1) (by simp)) rfl ?_
      refine b_iload (x := nI c) (dk (70, .iload 4, 2) (by simp)) rfl ?_
      refine b_imul (dk (72, .imul, 1) (by simp)) ?_
      rw [show (2 : Int32) * nI c = nI (2 * c) by rw [show (2 : Int32) = nI 2 from rfl, pk_mul]]
      refine b_icmp_ge (tgt := 100) (dk (73, .if_icmp .ge 27, 3) (by simp)) (by decide) (fun z => absurd z (nI_ge (by omega) (by omega))) (fun _ => ?_)
      refine b_iload (x := nI k) (dk (76, .iload 5, 2) (by simp)) rfl ?_
      refine b_aload_n (x := xb) (dk (78, .aload_n 3, 1) (by simp)) rfl ?_
      have gb : g ib = (xb, .inl (cxA cx 0, 24, .inl ST)) := by rw [g4 ib hb nb]; exact eb
      refine b_alen (dk (79, .arraylength, 1) (by simp)) (by omega) gb ?_
      refine b_icmp_ge (tgt := 100) (dk (80, .if_icmp .ge 20, 3) (by simp)) (by decide) (fun z => absurd z (nI_ge (b := 24) (by omega) (by decide))) (fun _ => ?_)
      refine b_aload_n (x := x) (dk (83, .aload_n 0, 1) (by simp)) rfl ?_
      refine b_get (v := .ref a2) (dk (84, .getfield 19, 3) (by simp)) hF.1.2 (by omega) g1 rfl ?_
      refine b_iload (x := nI k) (dk (87, .iload 5, 2) (by simp)) rfl ?_
      refine b_aload_n (x := xb) (dk (89, .aload_n 3, 1) (by simp)) rfl ?_
      refine b_iload (x := nI k) (dk (90, .iload 5, 2) (by simp)) rfl ?_
      refine b_iald (dk (92, .iaload, 1) (by simp)) (by omega) gb (vp_in_nI (by omega) (by decide)) ?_
      refine b_iast (dk (93, .iastore, 1) (by simp)) (by omega) g3 (vp_in_nI (by omega) (by omega)) ?_
      rw [nI_clamp (by omega), cpy_up]
      refine b_iinc (x := nI k) (v := nI (k + 1)) (dk (94, .iinc 5 1, 3) (by simp)) (by rw [mx]; decide) rfl (nI_succ k).symm ?_
      refine b_goto (tgt := 67) (dk (97, .goto (-30), 3) (by simp)) (by decide) ?_
      exact ih (k + 1) a1 a2 _ (by omega) (by rw [upW_n (by omega)]; exact g1) (by rw [upW_n (by omega)]; exact g2) upW_s (fun i hi ni => by rw [upW_n (by omega)]; exact g4 i hi ni)
  have e48 : ∀ a1 l5 g, g io = (x, .inr (3, [.ref a1, .null, .int 0])) → g K = (a1, .inl (cxA cx 0, m, .inl (cpy T m))) → (∀ i, i < K → i ≠ io → g i = f i) → B cx kf 27 d (0 + 1) (0 + (2 * c + 1)) 48 [some (.ref x), some (.ref xa), some (.int (nI m)), some (.ref xb), some (.int (nI c)), l5] [] (K + 1) g (lawQ cx K f io x m c T ST) := fun a1 l5 g g1 g2 g4 => by
    refine b_aload_n (x := x) (dk (48, .aload_n 0, 1) (by simp)) rfl ?_
    refine b_iconst (v := 2) (dk (49, .iconst 2, 1) (by simp)) rfl ?_
    refine b_iconst (v := 0) (dk (50, .iconst 0, 1) (by simp)) rfl ?_
    refine b_iload (x := nI c) (dk (51, .iload 4, 2) (by simp)) rfl ?_
    refine b_mmax (dk (53, .invokestatic 9, 3) (by simp)) k27_m (Nat.le_of_ble_eq_true rfl) (by omega) ?_
    have em : (if (0 : Int32) < nI c then nI c else 0) = nI c := by
      by_cases z : c = 0
      · subst z; decide
      · rw [if_pos (show (0 : Int32) < nI c from nI_lt (a := 0) (b := c) (by omega) (by omega))]
    rw [em]
    refine b_imul (dk (56, .imul, 1) (by simp)) ?_
    refine b_iconst (v := 1) (dk (57, .iconst 1, 1) (by simp)) rfl ?_
    refine b_iadd (dk (58, .iadd, 1) (by simp)) ?_
    rw [show (2 : Int32) * nI c + 1 = nI (2 * c + 1) by rw [show (2 : Int32) = nI 2 from rfl, pk_mul, nI_succ]]
    refine b_newa (t0 := 0) (ty := .int) (a0 := (2 * c + 1, .inl (fun _ => 0))) (dk (59, .newarray .int, 2) (by simp)) k27_a rfl (fun _ => rfl) (fun _ => rfl) (by omega) (by decide) (fun a2 => ?_)
    refine b_put (i := io) (fs := [.ref a1, .null, .int 0]) (dk (61, .putfield 19, 3) (by simp)) hF.1.2 (by omega) (by rw [upW_n (by omega)]; exact g1) (fin 1 rfl rfl) rfl rfl (show 2 ≤ 3 by decide) ?_
    refine b_iconst (v := 0) (dk (64, .iconst 0, 1) (by simp)) rfl ?_
    refine b_istore (dk (65, .istore 5, 2) (by simp)) (by rw [mx]; decide) ?_
    refine e67 (2 * c) 0 a1 a2 _ (by omega) upW_s (by rw [upW_n (by omega), upW_n (by omega)]; exact g2) ?_ (fun i hi ni => by rw [upW_n ni, upW_n (by omega)]; exact g4 i hi ni)
    rw [upW_n (by omega), upW_s]; rfl
  have e18 : ∀ r k a1 g, r + k = m → g io = (x, .inr (3, [.ref a1, .null, .int 0])) → g K = (a1, .inl (cxA cx 0, m, .inl (cpy T k))) → (∀ i, i < K → i ≠ io → g i = f i) → B cx kf 27 d (0 + 1) (0 + (2 * c + 1)) 18 [some (.ref x), some (.ref xa), some (.int (nI m)), some (.ref xb), some (.int (nI c)), some (.int (nI k))] [] (K + 1) g (lawQ cx K f io x m c T ST) := by
    intro r
    induction r with
    | zero =>
      intro k a1 g hk g1 g2 g4
      have hk : k = m := by omega
      refine b_iload (x := nI k) (dc (18, .iload 5, 2) (by simp)) rfl ?_
      refine b_iload_n (x := nI m) (dc (20, .iload_n 2, 1) (by simp)) rfl ?_
      refine b_icmp_ge (tgt := 48) (dc (21, .if_icmp .ge 27, 3) (by simp)) (by decide) (fun _ => ?_) (fun z => absurd (by rw [hk]; exact Int32.le_refl _) z)
      rw [hk] at g2 ⊢
      exact e48 a1 _ g g1 g2 g4
    | succ r ih =>
      intro k a1 g hk g1 g2 g4
      have ga : g ia = (xa, .inl (cxA cx 0, 400, .inl T)) := by rw [g4 ia ha na]; exact ea
      refine b_iload (x := nI k) (dc (18, .iload 5, 2) (by simp)) rfl ?_
      refine b_iload_n (x := nI m) (dc (20, .iload_n 2, 1) (by simp)) rfl ?_
      refine b_icmp_ge (tgt := 48) (dc (21, .if_icmp .ge 27, 3) (by simp)) (by decide) (fun z => absurd z (nI_ge (by omega) (by omega))) (fun _ => ?_)
      refine b_iload (x := nI k) (dc (24, .iload 5, 2) (by simp)) rfl ?_
      refine b_aload_n (x := xa) (dc (26, .aload_n 1, 1) (by simp)) rfl ?_
      refine b_alen (dc (27, .arraylength, 1) (by simp)) (by omega) ga ?_
      refine b_icmp_ge (tgt := 48) (dc (28, .if_icmp .ge 20, 3) (by simp)) (by decide) (fun z => absurd z (nI_ge (b := 400) (by omega) (by decide))) (fun _ => ?_)
      refine b_aload_n (x := x) (dc (31, .aload_n 0, 1) (by simp)) rfl ?_
      refine b_get (v := .ref a1) (dc (32, .getfield 15, 3) (by simp)) hF.1.1 (by omega) g1 rfl ?_
      refine b_iload (x := nI k) (dc (35, .iload 5, 2) (by simp)) rfl ?_
      refine b_aload_n (x := xa) (dc (37, .aload_n 1, 1) (by simp)) rfl ?_
      refine b_iload (x := nI k) (dc (38, .iload 5, 2) (by simp)) rfl ?_
      refine b_iald (dc (40, .iaload, 1) (by simp)) (by omega) ga (vp_in_nI (by omega) (by decide)) ?_
      refine b_iast (dc (41, .iastore, 1) (by simp)) (by omega) g2 (vp_in_nI (by omega) (by omega)) ?_
      rw [nI_clamp (by omega), cpy_up]
      refine b_iinc (x := nI k) (v := nI (k + 1)) (dc (42, .iinc 5 1, 3) (by simp)) (by rw [mx]; decide) rfl (nI_succ k).symm ?_
      refine b_goto (tgt := 18) (dc (45, .goto (-27), 3) (by simp)) (by decide) ?_
      exact ih (k + 1) a1 _ (by omega) (by rw [upW_n (by omega)]; exact g1) upW_s (fun i hi ni => by rw [upW_n (by omega)]; exact g4 i hi ni)
  have bud : 2 * c + 1 + m = 0 + (2 * c + 1) + m := by omega
  rw [bud]
  refine b_aload_n (x := x) (dc (0, .aload_n 0, 1) (by simp)) rfl ?_
  refine b_objInit (dc (1, .invokespecial 3, 3) (by simp)) k27_w (Nat.zero_le _) (by omega) ?_
  refine b_aload_n (x := x) (dc (4, .aload_n 0, 1) (by simp)) rfl ?_
  refine b_iconst (v := 0) (dc (5, .iconst 0, 1) (by simp)) rfl ?_
  refine b_iload_n (x := nI m) (dc (6, .iload_n 2, 1) (by simp)) rfl ?_
  refine b_mmax (dc (7, .invokestatic 9, 3) (by simp)) k27_m (Nat.le_of_ble_eq_true rfl) (by omega) ?_
  have em : (if (0 : Int32) < nI m then nI m else 0) = nI m := by
    by_cases z : m = 0
    · subst z; decide
    · rw [if_pos (show (0 : Int32) < nI m from nI_lt (a := 0) (b := m) (by omega) (by omega))]
  rw [em]
  refine b_newa (nc := 0 + 1) (t0 := 0) (ty := .int) (a0 := (m, .inl (fun _ => 0))) (dc (10, .newarray .int, 2) (by simp)) k27_a rfl (fun _ => rfl) (fun _ => rfl) (by omega) (by decide) (fun a1 => ?_)
  refine b_put (i := io) (fs := [.null, .null, .int 0]) (dc (12, .putfield 15, 3) (by simp)) hF.1.1 (by omega) (by rw [upW_n (by omega)]; exact eo) (fin 0 rfl rfl) rfl rfl (by decide) ?_
  refine b_iconst (v := 0) (dc (15, .iconst 0, 1) (by simp)) rfl ?_
  refine b_istore (dc (16, .istore 5, 2) (by simp)) (by rw [mx]; decide) ?_
  refine e18 m 0 a1 _ (by omega) upW_s ?_ (fun i hi ni => by rw [upW_n ni, upW_n (by omega)])
  rw [upW_n (by omega), upW_s]; rfl
end T999991
