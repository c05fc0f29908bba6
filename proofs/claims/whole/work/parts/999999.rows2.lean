/-! rows for the constructors, with numbers for the room -/
section T999999
variable {cx : Cx} {kf : Bool} {j d nc ns nc' ns' pc K : Nat} {loc : Lc} {st : List Value} {f : Nat → Nat × va_E} {Q : Option Value → Nat → (Nat → Nat × va_E) → Prop}
theorem dx_at {j : Nat} {L : List (Nat × Instr × Nat)} (h : L.all (dx j) = true) (i : Nat) {p n : Nat} {ins : Instr} (hq : L[i]? = some (p, ins, n)) : decode (mcode j) p = .ok (ins, n) := dx_ok h (p, ins, n) (List.mem_of_getElem? hq)
theorem b_newS {idx ci i1 i2 i3 : Nat} {fs : List Value} (nc' ns' : Nat) (hd : decode (mcode j) pc = .ok (.new idx, 3)) (hw1 : lw_tbl[i1]? = some (Cond.classLink (tb_RR (mcn j)) idx (tb_RR ci))) (hw2 : lw_tbl[i2]? = some (Cond.instantiable (tb_RR ci) (tb_NN ci))) (hw3 : lw_tbl[i3]? = some (Cond.initialized (tb_RR ci))) (hci : ci < 13) (hfs : ∀ j, j < tb_NN ci → defaultValue (tb_ty ci j) = vp_V fs j) (g1 : nc' + 1 ≤ nc) (g2 : ns' + tb_NN ci ≤ ns) (k : ∀ q, B cx kf j d nc' ns' (pc + 3) loc (.ref q :: st) (K + 1) (upW f K (q, .inr (ci, fs))) Q) : B cx kf j d nc ns pc loc st K f Q := b_le (b_new hd hw1 hw2 hw3 hci hfs k) g1 g2
theorem b_newaS {t0 N i1 : Nat} {atype : ArrayType} {ty : FieldType} {a0 : vp_A} (nc' ns' : Nat) (hd : decode (mcode j) pc = .ok (.newarray atype, 2)) (hw : lw_tbl[i1]? = some (Cond.arrayClass (newarray.typeOf atype))) (hty : newarray.typeOf atype = ty) (ht : ∀ cx : Cx, (tys cx)[t0]? = some (cxA cx t0, ty)) (ha : ∀ cA : ClassId, vp_cell cA a0 = arrV cA N (fun _ => defaultValue ty)) (hN : N ≤ 20000) (hb8 : componentBytes ty ≤ 8) (g1 : nc' + 1 ≤ nc) (g2 : ns' + N ≤ ns) (k : ∀ q, B cx kf j d nc' ns' (pc + 2) loc (.ref q :: st) (K + 1) (upW f K (q, .inl (cxA cx t0, a0))) Q) : B cx kf j d nc ns pc loc (.int (nI N) :: st) K f Q := b_le (b_newa hd hw hty ht ha hN hb8 k) g1 g2
theorem b_anewS {t0 N idx i1 : Nat} {C : String} (nc' ns' : Nat) (hkf : kf = true) (hC : C = "FiveTouch$Law" ∨ C = "FiveTouch$Wall") (hd : decode (mcode j) pc = .ok (.anewarray idx, 3)) (hw : lw_tbl[i1]? = some (Cond.classLink (tb_RR (mcn j)) idx C)) (ht : ∀ cx : Cx, (tys cx)[t0]? = some (cxA cx t0, .object C)) (hN : N ≤ 100) (g1 : nc' + 1 ≤ nc) (g2 : ns' + N ≤ ns) (k : ∀ q, B cx kf j d nc' ns' (pc + 3) loc (.ref q :: st) (K + 1) (upW f K (q, .inl (cxA cx t0, N, .inr (.inr (.inr (.inr (fun _ => none))))))) Q) : B cx kf j d nc ns pc loc (.int (nI N) :: st) K f Q := by
  refine b_le (nc := nc' + 1) (ns := ns' + N) ?_ g1 g2
  intro p l e s m args below meth c ws0 ls H locs n0 s0 mc ms hc h1 h2
  have hts := hc.1.2.2.2.2.2.1
  have hAO : va_AO C s := by
    rcases hC with z | z
    · rw [z]; exact (hc.2.1.2.2.2.2 hkf).2.1
    · rw [z]; exact (hc.2.1.2.2.2.2 hkf).2.2
  refine va_newq (n := nI N) hc.1.1 hc.1.2.1 hc.1.2.2.2.2.1 (hts _ (gT_of hw rfl)) hAO hc.2.1.1 hc.2.1.2.1 hc.2.1.2.2.1 hc.2.1.2.2.2.1 (fun q hq => Or.inr hq) (nI_pos (by omega)) (nI_clamp (by omega)) (by omega) (by show n0 + 1 ≤ mc; omega) (by show s0 + N ≤ ms; omega) hd (fun q cA H1 hK hP hD hS => ?_)
  have e : cA = cxA cx t0 := ra_same (hK.2 6 (cA, .object C) rfl).2 (hc.2.1.1.2 t0 _ (ht cx)).2
  subst e
  rw [wK_push] at hP hD
  exact k q p l e s m args below meth c ws0 ls H1 locs (n0 + 1) (s0 + N) mc ms ⟨hc.1, ⟨hc.2.1.1, hP, hD, hS, hc.2.1.2.2.2.2⟩, hc.2.2⟩ (by omega) (by omega)
theorem b_put2 {idx ci k i x : Nat} {v : Value} {fs : List Value} (fs' : List Value) (hd : decode (mcode j) pc = .ok (.putfield idx, 3)) (hF : chF j idx ci k = true) (hi : i < K) (he : f i = (x, .inr (ci, fs))) (hfin : (tb_TT ci k).2.2.2 = false ∨ ((tb_TT ci k).2.2.2 = true ∧ (my j).name = "<init>" ∧ (tb_TT ci k).1 = tb_RR (mcn j))) (hn : narrow (tb_ty ci k) v = v) (hfit : fits (tb_ty ci k) v = true) (hl : k < fs.length) (hs : fs.set k v = fs') (kk : B cx kf j d nc ns (pc + 3) loc st K (upW f i (x, .inr (ci, fs'))) Q) : B cx kf j d nc ns pc loc (v :: .ref x :: st) K f Q := by
  subst hs
  exact b_put hd hF hi he hfin hn hfit hl kk
theorem b_aast {i x n qi v ci t0 : Nat} {vs : List Value} {g : Nat → Option Nat} {y : Int32} (hd : decode (mcode j) pc = .ok (.aastore, 1)) (hi : i < K) (he : f i = (x, .inl (cxA cx t0, n, .inr (.inr (.inr (.inr g)))))) (ht : ∀ cx : Cx, (tys cx)[t0]? = some (cxA cx t0, .object (tb_RR ci))) (hq : qi < K) (hv : f qi = (v, .inr (ci, vs))) (hci : ci < 13) (hin : vp_in y n) (kk : B cx kf j d nc ns (pc + 1) loc st K (upW f i (x, .inl (cxA cx t0, n, .inr (.inr (.inr (.inr (va_up g y.toNatClampNeg (some v)))))))) Q) : B cx kf j d nc ns pc loc (.ref v :: .int y :: .ref x :: st) K f Q := by
  intro p l e s m args below meth c ws0 ls H locs n0 s0 mc ms hc h1 h2
  refine va_astq hc.1.1 hc.1.2.1 hc.2.1.1 hc.2.1.2.1 hc.2.1.2.2.1 hc.2.1.2.2.2.1 i t0 qi ci (by rw [wK_get hi, he]) (r := (tb_RR ci, tb_TT ci, tb_NN ci)) (ht cx) (by rw [wK_get hq, hv]) (vw_get hci) hin hd (fun H1 locs1 hP hD hS => ?_)
  rw [wK_set hi] at hP hD
  exact kk p l e s m args below meth c ws0 ls H1 locs1 n0 s0 mc ms ⟨hc.1, ⟨hc.2.1.1, hP, hD, hS, hc.2.1.2.2.2.2⟩, hc.2.2⟩ h1 h2
theorem b_iast2 {i x n : Nat} {g : Nat → Int32} {y z : Int32} (g' : Nat → Int32) (hd : decode (mcode j) pc = .ok (.iastore, 1)) (hi : i < K) (he : f i = (x, .inl (cxA cx 0, n, .inl g))) (hin : vp_in y n) (hg : upd g y.toNatClampNeg z = g') (kk : B cx kf j d nc ns (pc + 1) loc st K (upW f i (x, .inl (cxA cx 0, n, .inl g'))) Q) : B cx kf j d nc ns pc loc (.int z :: .int y :: .ref x :: st) K f Q := by
  subst hg; exact b_iast hd hi he hin kk
theorem upW_upW {f : Nat → Nat × va_E} {k : Nat} {x y : Nat × va_E} : upW (upW f k x) k y = upW f k y := by
  funext i; unfold upW
  by_cases e : i = k
  · rw [if_pos e, if_pos e]
  · rw [if_neg e, if_neg e, if_neg e]
/-- a cell that was the last to be written is written again -/
theorem b_iastT {i x n : Nat} {g : Nat → Int32} {y z : Int32} (g' : Nat → Int32) (hd : decode (mcode j) pc = .ok (.iastore, 1)) (hi : i < K) (hin : vp_in y n) (hg : upd g y.toNatClampNeg z = g') (kk : B cx kf j d nc ns (pc + 1) loc st K (upW f i (x, .inl (cxA cx 0, n, .inl g'))) Q) : B cx kf j d nc ns pc loc (.int z :: .int y :: .ref x :: st) K (upW f i (x, .inl (cxA cx 0, n, .inl g))) Q := by
  refine b_iast hd hi upW_s hin ?_
  rw [upW_upW, hg]; exact kk
theorem b_bastT {i x n : Nat} {g : Nat → Int32} {y z : Int32} (g' : Nat → Int32) (hd : decode (mcode j) pc = .ok (.bastore, 1)) (hi : i < K) (hin : vp_in y n) (hg : upd g y.toNatClampNeg (vp_nar .byte z) = g') (kk : B cx kf j d nc ns (pc + 1) loc st K (upW f i (x, .inl (cxA cx 3, n, .inl g'))) Q) : B cx kf j d nc ns pc loc (.int z :: .int y :: .ref x :: st) K (upW f i (x, .inl (cxA cx 3, n, .inl g))) Q := by
  refine b_bast hd hi upW_s hin ?_
  rw [upW_upW, hg]; exact kk
theorem b_callIS {idx j' hint n1 s1 x : Nat} {vs : List Value} {Q' : Option Value → Nat → (Nat → Nat × va_E) → Prop} (nc' ns' : Nat) (hd : decode (mcode j) pc = .ok (.invokespecial idx, 3)) (hl : lw_tbl[hint]? = some (Cond.methodLink (tb_RR (mcn j)) idx (my j'))) (hmk : mk_ok j' = true) (hin : (decide (lw_tbl[(mh j').2.2.1]? = some (mw_inst j')) && decide ((my j').name = "<init>")) = true) (hre : mret j' = none) (hnp : (parseMethodDescriptor (my j').desc).map (fun q => q.parameters.length) = some vs.length) (hsm : (st.map fun v => v.category).sum ≤ 8) (hd0 : 0 < d)
    (hM : MK cx kf j' (d - 1) n1 s1 (.ref x :: vs) K f Q') (hq' : ∀ r K' f', Q' r K' f' → r = none) (g1 : nc' + n1 ≤ nc) (g2 : ns' + s1 ≤ ns) (kk : ∀ K' f', Q' none K' f' → B cx kf j d nc' ns' (pc + 3) loc st K' f' Q) : B cx kf j d nc ns pc loc (vs.reverse ++ .ref x :: st) K f Q := b_le (b_callI hd hl hmk hin hre hnp hsm hd0 hM hq' kk) g1 g2
theorem b_callNS {idx j' hint n1 s1 x : Nat} {vs : List Value} {Q' : Option Value → Nat → (Nat → Nat × va_E) → Prop} (nc' ns' : Nat) (hkf : kf = true) (hd : decode (mcode j) pc = .ok (.invokespecial idx, 3)) (hC : (mcn j, idx, j', 4, hint) ∈ tb_C) (hmk : mk_ok j' = true) (hin : (decide (lw_tbl[(mh j').2.2.1]? = some (mw_inst j')) && decide ((my j').name = "<init>")) = true) (hre : mret j' = none) (hnp : (parseMethodDescriptor (my j').desc).map (fun q => q.parameters.length) = some vs.length) (hsm : (st.map fun v => v.category).sum ≤ 8) (hd0 : 0 < d)
    (hM : MK cx kf j' (d - 1) n1 s1 (.ref x :: vs) K f Q') (hq' : ∀ r K' f', Q' r K' f' → r = none) (g1 : nc' + n1 ≤ nc) (g2 : ns' + s1 ≤ ns) (kk : ∀ K' f', Q' none K' f' → B cx kf j d nc' ns' (pc + 3) loc st K' f' Q) : B cx kf j d nc ns pc loc (vs.reverse ++ .ref x :: st) K f Q := b_le (b_callN hkf hd hC hmk hin hre hnp hsm hd0 hM hq' kk) g1 g2
end T999999
