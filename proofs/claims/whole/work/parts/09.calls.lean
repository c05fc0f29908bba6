/-! ends, constants, calls, and a contract out of its first instruction -/
section EC
variable {cx : Cx} {j d a pc : Nat} {loc : Lc} {st : List Value} {h : Hp} {Q : Option Value → Hp → Prop}
/-- what stands at an end -/
theorem q_end {p : Program} {s t : State} {m : MethodId} {args : Array Value} {meth : Method} {c : Code} {h0 : Hp} {ad0 ad : Nat → Nat} {ls : Array Slot} {H : Heap} {locs : List Loc} (hc : Ec cx j h0 h ad0 ad loc p s m args meth c ls H locs) {r : Option Value} (hq : Q r h) (ht : t.heap = H) (hW : s.WarmedH t.vm) : QQ cx ad0 h0 s.heap.size Q args s (.returned (r.map (cv ad))) t :=
  ⟨⟨r, h, ad, rfl, hq, hc.2.2.1.2.1, hc.2.2.1.1, hc.2.2.1.2.2, by rw [ht]; exact hc.2.1.2.1, va_K.moved hW.alike hc.2.1.1, hc.2.1.2.2.1⟩, hc.2.1.2.2.2.1.F ht⟩
theorem e_iret {v : Int32} (hd : decode (mcode j) pc = .ok (.ireturn, 1)) (hr : mret j = some .int) (hq : Q (some (.int v)) h) : E cx j d a pc loc [.int v] h Q := by
  intro p l e s m args below meth c h0 ad0 ad ls H locs nc ns mc ms hc h1 h2
  refine W.widen (k := mc) (n := ms) (by omega) (by omega) ?_
  exact W.iret hc.1.1 hc.1.2.1 (hc.1.2.2.1.trans hr) (fun t ht hW => q_end (r := some (.int v)) hc hq ht hW) hc.2.1.2.2.2.1.2.2 hd hc.1.2.2.2.2.2.2
theorem e_zret {v : Int32} (hd : decode (mcode j) pc = .ok (.ireturn, 1)) (hr : mret j = some .boolean) (hn : narrow .boolean (.int v) = .int v) (hq : Q (some (.int v)) h) : E cx j d a pc loc [.int v] h Q := by
  intro p l e s m args below meth c h0 ad0 ad ls H locs nc ns mc ms hc h1 h2
  refine W.widen (k := mc) (n := ms) (by omega) (by omega) ?_
  exact W.zret hc.1.1 hc.1.2.1 (hc.1.2.2.1.trans hr) hn (fun t ht hW => q_end (r := some (.int v)) hc hq ht hW) hc.2.1.2.2.2.1.2.2 hd hc.1.2.2.2.2.2.2
theorem e_lret {v : Int64} (hd : decode (mcode j) pc = .ok (.lreturn, 1)) (hr : mret j = some .long) (hq : Q (some (.long v)) h) : E cx j d a pc loc [.long v] h Q := by
  intro p l e s m args below meth c h0 ad0 ad ls H locs nc ns mc ms hc h1 h2
  refine W.widen (k := mc) (n := ms) (by omega) (by omega) ?_
  exact W.lret hc.1.1 hc.1.2.1 (hc.1.2.2.1.trans hr) (fun t ht hW => q_end (r := some (.long v)) hc hq ht hW) hc.2.1.2.2.2.1.2.2 hd hc.1.2.2.2.2.2.2
theorem e_vret (hd : decode (mcode j) pc = .ok (.return_, 1)) (hr : mret j = none) (hq : Q none h) : E cx j d a pc loc [] h Q := by
  intro p l e s m args below meth c h0 ad0 ad ls H locs nc ns mc ms hc h1 h2
  refine W.widen (k := mc) (n := ms) (by omega) (by omega) ?_
  exact W.vret hc.1.1 hc.1.2.1 (hc.1.2.2.1.trans hr) (fun t ht hW => q_end (r := none) hc hq ht hW) hc.2.1.2.2.2.1.2.2 hd hc.1.2.2.2.2.2.2
theorem e_aret {v : Value} {n : String} (hd : decode (mcode j) pc = .ok (.areturn, 1)) (hr : mret j = some (.object n)) (hv : v = .null ∨ ∃ i, v = .ref i) (hq : Q (some v) h) : E cx j d a pc loc [v] h Q := by
  intro p l e s m args below meth c h0 ad0 ad ls H locs nc ns mc ms hc h1 h2
  refine W.widen (k := mc) (n := ms) (by omega) (by omega) ?_
  exact W.aret hc.1.1 hc.1.2.1 (hc.1.2.2.1.trans hr) (Or.inl ⟨n, rfl⟩) (by rcases hv with rfl | ⟨i, rfl⟩; exact Or.inl rfl; exact Or.inr ⟨ad i, rfl⟩) (fun t ht hW => q_end (r := some v) hc hq ht hW) hc.2.1.2.2.2.1.2.2 hd hc.1.2.2.2.2.2.2
/-! constants -/
theorem e_ldcI {idx hint : Nat} {v : Int32} (hd : decode (mcode j) pc = .ok (.ldc idx, 2)) (hK : (mcn j, idx, v, hint) ∈ tb_KI) (k : E cx j d a (pc + 2) loc (.int v :: st) h Q) : E cx j d a pc loc st h Q := by
  intro p l e s m args below meth c h0 ad0 ad ls H locs nc ns mc ms hc h1 h2
  have hw := List.all_eq_true.mp tb_KI_ok _ hK
  simp only [Bool.and_eq_true, decide_eq_true_eq] at hw
  exact lv_ldc hc.1.1 hc.1.2.1 hc.1.2.2.2.2.1 (hc.1.2.2.2.2.2.1 _ (gT_of hw.1 hw.2)) hd (k p l e s m args below meth c h0 ad0 ad ls H locs nc ns mc ms hc h1 h2)
theorem e_ldcW {idx hint : Nat} {v : Int32} (hd : decode (mcode j) pc = .ok (.ldc_w idx, 3)) (hK : (mcn j, idx, v, hint) ∈ tb_KI) (k : E cx j d a (pc + 3) loc (.int v :: st) h Q) : E cx j d a pc loc st h Q := by
  intro p l e s m args below meth c h0 ad0 ad ls H locs nc ns mc ms hc h1 h2
  have hw := List.all_eq_true.mp tb_KI_ok _ hK
  simp only [Bool.and_eq_true, decide_eq_true_eq] at hw
  exact lv_ldcw hc.1.1 hc.1.2.1 hc.1.2.2.2.2.1 (hc.1.2.2.2.2.2.1 _ (gT_of hw.1 hw.2)) hd (k p l e s m args below meth c h0 ad0 ad ls H locs nc ns mc ms hc h1 h2)
theorem e_ldcL {idx hint : Nat} {v : Int64} (hd : decode (mcode j) pc = .ok (.ldc2_w idx, 3)) (hK : (mcn j, idx, v, hint) ∈ tb_KL) (k : E cx j d a (pc + 3) loc (.long v :: st) h Q) : E cx j d a pc loc st h Q := by
  intro p l e s m args below meth c h0 ad0 ad ls H locs nc ns mc ms hc h1 h2
  have hw := List.all_eq_true.mp tb_KL_ok _ hK
  simp only [Bool.and_eq_true, decide_eq_true_eq] at hw
  exact lv_ldc2 hc.1.1 hc.1.2.1 hc.1.2.2.2.2.1 (hc.1.2.2.2.2.2.1 _ (gT_of hw.1 hw.2)) hd (k p l e s m args below meth c h0 ad0 ad ls H locs nc ns mc ms hc h1 h2)
theorem e_ldcS {idx n : Nat} {tx : String} (hd : decode (mcode j) pc = .ok (.ldc idx, 2)) (hj : mcn j = 5) (hS : tb_S[n]? = some (idx, tx)) (hn : n < 26) (k : E cx j d a (pc + 2) loc (.ref (1 + n) :: st) h Q) : E cx j d a pc loc st h Q := by
  intro p l e s m args below meth c h0 ad0 ad ls H locs nc ns mc ms hc h1 h2
  have hZ := hc.2.1.2.2.2.2.2.1.2 n _ hS
  have hown : s.vm.findClass RX5 = some m.cls := by have q := hc.1.2.2.2.2.1; rw [hj] at q; exact q
  have e0 : ad (1 + n) = ad0 (1 + n) := hc.2.2.1.1 _ (by omega)
  have kk := k p l e s m args below meth c h0 ad0 ad ls H locs nc ns mc ms hc h1 h2
  rw [List.map_cons, show cv ad (.ref (1 + n)) = .ref (ad0 (1 + n)) by simp [cv, e0]] at kk
  exact va_ldcS hc.1.1 hc.1.2.1 hown hZ hd kk
/-! a reference is stored in an array of laws -/
theorem cE_wR_25 {ad : Nat → Nat} {o k : Nat} {v : Option Nat} (hk : kd o = 25) : cE cx ad (wR h o k v) o = .inl (cxA cx 5, ln h o, .inr (.inr (.inr (.inr (va_up (fun k => (hR h o k).map ad) k (v.map ad)))))) := by
  have e : (fun i => (hR (wR h o k v) o i).map ad) = va_up (fun k => (hR h o k).map ad) k (v.map ad) := by
    funext i
    show (up2 h.2.2.1 o k v o i).map ad = _
    by_cases hi : i = k <;> simp [up2, va_up, hi]
  unfold cE; rw [hk]; show Sum.inl (_, _, Sum.inr (Sum.inr (Sum.inr (Sum.inr (fun i => (hR (wR h o k v) o i).map ad))))) = _; rw [e]; rfl
theorem e_aast {o o' : Nat} {i : Int32} (hd : decode (mcode j) pc = .ok (.aastore, 1)) (ho1 : 64 ≤ o) (ho2 : o < 126 + 3 * hN h) (hk : kd o = 25) (hin : vp_in i (ln h o)) (hv1 : 64 ≤ o') (hv2 : o' < 126 + 3 * hN h) (hvk : kd o' = 3) (kk : E cx j d a (pc + 1) loc st (wR h o i.toNatClampNeg (some o')) Q) : E cx j d a pc loc (.ref o' :: .int i :: .ref o :: st) h Q := by
  intro p l e s m args below meth c h0 ad0 ad ls H locs nc ns mc ms hc h1 h2
  have he : (cls cx ad h)[o - 64]? = some (ad o, .inl (cxA cx 5, ln h o, .inr (.inr (.inr (.inr (fun k => (hR h o k).map ad)))))) := by rw [cls_get ho1 ho2]; unfold cE; rw [hk]; rfl
  have hv : (cls cx ad h)[o' - 64]? = some (ad o', .inr (3, fds ad h o' 3)) := by rw [cls_get hv1 hv2, cE_obj hvk (by decide)]
  have hset : (cls cx ad h).set (o - 64) (ad o, .inl (cxA cx 5, ln h o, .inr (.inr (.inr (.inr (va_up (fun k => (hR h o k).map ad) i.toNatClampNeg (some (ad o')))))))) = cls cx ad (wR h o i.toNatClampNeg (some o')) := by
    rw [← cls_set ho1 ho2 (h' := wR h o i.toNatClampNeg (some o')) rfl (fun q hq => cE_wR_ne hq), cE_wR_25 hk]; rfl
  refine va_astq hc.1.1 hc.1.2.1 hc.2.1.1 hc.2.1.2.1 hc.2.1.2.2.1 hc.2.1.2.2.2.1 (o - 64) 5 (o' - 64) 3 he (r := (tb_RR 3, tb_TT 3, tb_NN 3)) rfl hv (vw_get (by decide)) hin hd (fun H1 locs1 hP hD hS => ?_)
  rw [hset] at hP hD
  exact kk p l e s m args below meth c h0 ad0 ad ls H1 locs1 nc ns mc ms ⟨hc.1, ⟨hc.2.1.1, hP, hD, hS, hc.2.1.2.2.2.2⟩, hc.2.2.1, hc.2.2.2⟩ h1 h2
theorem e_aastN {o : Nat} {i : Int32} (hd : decode (mcode j) pc = .ok (.aastore, 1)) (ho1 : 64 ≤ o) (ho2 : o < 126 + 3 * hN h) (hk : kd o = 25) (hin : vp_in i (ln h o)) (kk : E cx j d a (pc + 1) loc st (wR h o i.toNatClampNeg none) Q) : E cx j d a pc loc (.null :: .int i :: .ref o :: st) h Q := by
  intro p l e s m args below meth c h0 ad0 ad ls H locs nc ns mc ms hc h1 h2
  have he : (cls cx ad h)[o - 64]? = some (ad o, .inl (cxA cx 5, ln h o, .inr (.inr (.inr (.inr (fun k => (hR h o k).map ad)))))) := by rw [cls_get ho1 ho2]; unfold cE; rw [hk]; rfl
  have hset : (cls cx ad h).set (o - 64) (ad o, .inl (cxA cx 5, ln h o, .inr (.inr (.inr (.inr (va_up (fun k => (hR h o k).map ad) i.toNatClampNeg none)))))) = cls cx ad (wR h o i.toNatClampNeg none) := by
    rw [← cls_set ho1 ho2 (h' := wR h o i.toNatClampNeg none) rfl (fun q hq => cE_wR_ne hq), cE_wR_25 hk]; rfl
  refine va_astqN hc.1.1 hc.1.2.1 hc.2.1.1 hc.2.1.2.1 hc.2.1.2.2.1 hc.2.1.2.2.2.1 (o - 64) 5 he (C := "FiveTouch$Law") rfl hin hd (fun H1 locs1 hP hD hS => ?_)
  rw [hset] at hP hD
  exact kk p l e s m args below meth c h0 ad0 ad ls H1 locs1 nc ns mc ms ⟨hc.1, ⟨hc.2.1.1, hP, hD, hS, hc.2.1.2.2.2.2⟩, hc.2.2.1, hc.2.2.2⟩ h1 h2
/-! calls -/
/-- the references of a frame are of cells that stand from the start -/
def rok1 (v : Value) : Bool := match v with
  | .ref i => decide (i < 126)
  | _ => true
def rok (loc : Lc) (st : List Value) : Bool := loc.all (fun x => match x with | some v => rok1 v | none => true) && st.all rok1
theorem cv_same {ad ad' : Nat → Nat} {n : Nat} (hag : ∀ o, o < 126 + 3 * n → ad' o = ad o) {v : Value} (hv : rok1 v = true) : cv ad' v = cv ad v := by
  cases v <;> try rfl
  rename_i i
  simp only [rok1, decide_eq_true_eq] at hv
  simp only [cv]
  rw [hag i (Nat.lt_of_lt_of_le hv (Nat.le_add_right 126 _))]
theorem lnth_mem {loc : Lc} {i : Nat} {v : Value} (q : lnth loc i = some v) : some v ∈ loc := by
  induction loc generalizing i with
  | nil => simp [lnth] at q
  | cons x t ih =>
    match i, q with
    | 0, q => simp [lnth] at q; rw [q]; exact List.mem_cons_self
    | i + 1, q => exact List.mem_cons_of_mem _ (ih (i := i) (by simpa [lnth] using q))
theorem lvok_same {ad ad' : Nat → Nat} {n k : Nat} (hag : ∀ o, o < 126 + 3 * n → ad' o = ad o) {ls : Array Slot} {st : List Value} (hr : rok loc st = true) (q : lvok ad ls k loc) : lvok ad' ls k loc ∧ st.map (cv ad') = st.map (cv ad) := by
  simp only [rok, Bool.and_eq_true, List.all_eq_true] at hr
  refine ⟨⟨q.1, q.2.1, fun i v hv => ?_⟩, ?_⟩
  · rw [cv_same hag (hr.1 _ (lnth_mem hv))]
    exact q.2.2 i v hv
  · exact List.map_congr_left (fun v hv => cv_same hag (hr.2 v hv))
theorem wst_call {ad0 ad : Nat → Nat} {h0 : Hp} {s U : State} {H : Heap} {locs : List Loc} (hw : Wst cx ad0 (va_A (cls cx ad0 h0) s.heap.size) s s.heap) (hag : ∀ o, o < 126 → ad o = ad0 o) (hS : va_S (va_A (cls cx ad0 h0) s.heap.size) s.heap H locs) (hA : ∀ q, va_A (cls cx ad h) H.size q → va_A (cls cx ad0 h0) s.heap.size q) (hU : U.heap = H) (hW : s.WarmedH U.vm) : Wst cx ad (va_A (cls cx ad h) H.size) U U.heap := by
  obtain ⟨⟨x1, x2, x3⟩, ⟨k1, k2⟩, n1, z1, z2⟩ := hw
  have e0 : ad 0 = ad0 0 := hag 0 (by omega)
  have e1 : ∀ k, k < 26 → ad (1 + k) = ad0 (1 + k) := fun k hk => hag _ (by omega)
  rw [hU]
  refine ⟨⟨?_, ?_, ?_⟩, ⟨?_, fun k q hq => ?_⟩, fun q hq hk => ?_, ((z1.kept (H1 := H) hS.2.1).moved hW.alike).narrow hA, ((z2.kept (H1 := H) hS.2.1).moved hW.alike).narrow hA⟩
  · rw [e0]; exact (x1.kept (hS.2.1 _ x2 x3)).moved hW.alike
  · rw [e0]; exact Nat.lt_of_lt_of_le x2 hS.1
  · rw [e0]; exact fun z => x3 (hA _ z)
  · have k3 := ((k1.kept (H1 := H) hS.2.1).moved hW.alike).narrow hA
    refine ⟨fun i hi => ?_, fun i i' hi hi' e => ?_⟩
    · have := k3.1 i hi
      show va_O _ (ad (1 + i)) _ _ _ ∧ va_OF _ _ _ _ (ad (1 + i)) _ _ _ ∧ va_OF _ _ _ (.ref (ad (30 + i))) (ad (1 + i)) _ _ _ ∧ va_T _ (ad (30 + i)) _ _ _ _ _
      rw [hag (1 + i) (by omega), hag (30 + i) (by omega)]
      exact this
    · have e : ad (1 + i) = ad (1 + i') := e
      rw [hag (1 + i) (by omega), hag (1 + i') (by omega)] at e
      exact k3.2 i i' hi hi' e
  · have hk : k < 26 := (List.getElem?_eq_some_iff.mp hq).1
    rw [e1 k hk]
    exact (k2 k q hq).warm hW
  · exact (n1 q hq hk).warmM hW
theorem wst_calling {ad : Nat → Nat} {A : Nat → Prop} {U : State} {g : JFrame} {mk : MethodId} {av : Array Value} (hw : Wst cx ad A U U.heap) : Wst cx ad A (U.calling g mk av) (U.calling g mk av).heap := by
  obtain ⟨⟨x1, x2, x3⟩, ⟨k1, k2⟩, n1, z1, z2⟩ := hw
  exact ⟨⟨va_X.moved (U := U.calling g mk av) (Vm.Alike.refl U.vm) x1, x2, x3⟩, ⟨vk_S.moved (U := U.calling g mk av) (Vm.Alike.refl U.vm) k1, fun k q hq => vk_R.same (U := U.calling g mk av) rfl (k2 k q hq)⟩, fun q hq hk => va_Nw.same (U := U.calling g mk av) rfl rfl (n1 q hq hk), va_Z.moved (U := U.calling g mk av) (Vm.Alike.refl U.vm) z1, va_Zq.moved (U := U.calling g mk av) (Vm.Alike.refl U.vm) z2⟩
theorem blind {ad : Nat → Nat} {vs : List Value} {sz : Nat} : FrameBlind (va_Pc (vs.map (cv ad)) (fun U => U.heap.size = sz ∧ va_P (cxD cx) vwCl (cls cx ad h) U.heap ∧ va_K (cxD cx) vwCl (tys cx) U ∧ va_D (fun _ => True) (cls cx ad h) ∧ Wst cx ad (va_A (cls cx ad h) sz) U U.heap)) := by
  intro av U g mk q
  obtain ⟨q1, q2, q3, q4, q5, q6⟩ := q
  exact ⟨q1, q2, q3, va_K.moved (u := U) (U := U.calling g mk av) (Vm.Alike.refl U.vm) q4, q5, wst_calling q6⟩
/-- behind a call: the caller goes on with what the callee left -/
theorem e_back {j' a' : Nat} {vs : List Value} {Q' : Option Value → Hp → Prop} (ha : a' ≤ a) (hok : rok loc st = true ∨ ∀ r h', Q' r h' → hN h' = hN h) (kk : ∀ r h', Q' r h' → E cx j d (a - a') (pc + 3) loc (r.toList ++ st) h' Q)
    {p : Program} {l : Launch} {e : Env} {s : State} {m : MethodId} {args : Array Value} {below : List Frame} {meth : Method} {c : Code} {h0 : Hp} {ad0 ad : Nat → Nat} {ls : Array Slot} {H : Heap} {locs : List Loc} {nc ns mc ms : Nat} {st0 : List Value} {av : Array Value} (hc : Ec cx j h0 h ad0 ad loc p s m args meth c ls H locs) (h1 : nc + 3 * a ≤ mc) (h2 : ns + 500 * a ≤ ms) (hAA : ∀ q, va_A (cls cx ad h) H.size q → va_A (cls cx ad0 h0) s.heap.size q)
    (hr : va_Run p l e (rm d mc ms) s m args below meth c H locs nc ns (3 * a') (500 * a') (F0 m pc ls st0) (st.map (cv ad)) (QQ cx ad h H.size Q' av) (va_A (cls cx ad h) H.size)) :
    W p l e (rm d mc ms) s m args below meth c H locs nc ns (MQ below (QQ cx ad0 h0 s.heap.size Q) args s mc ms (va_A (cls cx ad0 h0) s.heap.size)) (F0 m pc ls st0) := by
  intro T hT X
  obtain ⟨v, st₀, t, T', L, g0, X', hL, e1, e2, ⟨⟨r, h', ad', hv, hq, hn, hag, hsm, hP, hK, hD⟩, hz, hk⟩, stp⟩ := hr T hT X
  cases hv
  rw [g0] at hz hk
  have hS := hc.2.1.2.2.2.1
  have hS' : va_S (va_A (cls cx ad0 h0) s.heap.size) s.heap T'.heap (locs ++ L) := ⟨Nat.le_trans hS.1 (by rw [e1]; exact hz), fun q z1 z2 => by rw [e1, hk q (Nat.lt_of_lt_of_le z1 hS.1) (fun z => z2 (hAA q z))]; exact hS.2.1 q z1 z2, fun q hq => by
      rcases List.mem_append.mp hq with z | z
      · exact hS.2.2 q z
      · exact hAA _ (hL q z)⟩
  have hlv : lvok ad' ls (mmax j) loc ∧ st.map (cv ad') = st.map (cv ad) := by
    rcases hok with ho | ho
    · exact lvok_same hag ho hc.2.2.2
    · have := hsm (ho r h' hq); subst this; exact ⟨hc.2.2.2, rfl⟩
  have hE : Ec cx j h0 h' ad0 ad' loc p s m args meth c ls T'.heap (locs ++ L) := ⟨hc.1, ⟨hc.2.1.1, by rw [e1]; exact hP, hD.weaken (fun k q _ z => hAA _ z), hS', hc.2.1.2.2.2.2⟩, ⟨fun o ho => (hag o (by have := hc.2.2.1.2.1; omega)).trans (hc.2.2.1.1 o ho), Nat.le_trans hc.2.2.1.2.1 hn, fun z => by
      have z1 := hc.2.2.1.2.1
      rw [hsm (by omega)]
      exact hc.2.2.1.2.2 (by omega)⟩, hlv.1⟩
  obtain ⟨t2, a1, b1⟩ := kk r h' hq p l e s m args below meth c h0 ad0 ad' ls T'.heap (locs ++ L) (nc + 3 * a') (ns + 500 * a') mc ms hE (by omega) (by omega) T' rfl X'
  refine ⟨t2, stp t2 ?_, b1⟩
  have hst : (r.toList ++ st).map (cv ad') = (r.map (cv ad')).toList ++ st.map (cv ad) := by
    rw [List.map_append, hlv.2]; cases r <;> rfl
  rw [hst] at a1
  exact a1
theorem hAA_of {p : Program} {s : State} {m : MethodId} {args : Array Value} {meth : Method} {c : Code} {h0 : Hp} {ad0 ad : Nat → Nat} {ls : Array Slot} {H : Heap} {locs : List Loc} (hc : Ec cx j h0 h ad0 ad loc p s m args meth c ls H locs) : ∀ q, va_A (cls cx ad h) H.size q → va_A (cls cx ad0 h0) s.heap.size q := by
  intro q z
  rcases z with ⟨k, e, z⟩ | z
  · exact hc.2.1.2.2.1.2 k (q, e) z
  · exact Or.inr (Nat.le_trans hc.2.1.2.2.2.1.1 z)
/-- a method of the tables: its words -/
theorem mk_use {k : Nat} (hk : mk_ok k = true) : mw_code k ∈ gT ∧ mw_init k ∈ gT ∧ mmax k ≤ 45 ∧ ((my k).cls ≠ "java/lang/invoke/MethodHandle" ∧ (my k).cls ≠ "java/lang/invoke/VarHandle") ∧ tb_RR (mcn k) = (my k).cls ∧ plainName (my k).cls = true := by
  simp only [mk_ok, Bool.and_eq_true, decide_eq_true_eq] at hk
  obtain ⟨⟨⟨⟨⟨⟨k1, k2⟩, k3⟩, k4⟩, k5⟩, k6⟩, k7⟩ := hk
  exact ⟨gT_of (is_code_ok k1) rfl, gT_of k2 rfl, k3, ⟨k5, k6⟩, k4, k7⟩
theorem good_wsj {k : Nat} (hk : mk_ok k = true) : GoodIn gT (wsj k) := by
  intro w hw
  rcases List.mem_cons.mp hw with rfl | hw
  · exact ⟨(mk_use hk).1, Or.inl rfl⟩
  · exact ⟨hw, good_of_word (List.mem_filter.mp hw).2⟩
theorem e_callV {idx j' hint o a' : Nat} {vs : List Value} {Q' : Option Value → Hp → Prop} (hd : decode (mcode j) pc = .ok (.invokevirtual idx, 3)) (hC : (mcn j, idx, j', 0, hint) ∈ tb_C) (hmk : mk_ok j' = true) (hmv : mk_v j' = true) (hnp : (parseMethodDescriptor (my j').desc).map (fun q => q.parameters.length) = some vs.length) (ho1 : 64 ≤ o) (ho2 : o < 126 + 3 * hN h) (hk : kd o = mcn j') (hsm : (st.map fun v => v.category).sum ≤ 8) (hd0 : 0 < d) (ha : a' ≤ a) (hok : rok loc st = true ∨ ∀ r h', Q' r h' → hN h' = hN h)
    (hM : M cx j' (d - 1) a' (.ref o :: vs) h Q') (kk : ∀ r h', Q' r h' → E cx j d (a - a') (pc + 3) loc (r.toList ++ st) h' Q) : E cx j d a pc loc (vs.reverse ++ .ref o :: st) h Q := by
  intro p l e s m args below meth c h0 ad0 ad ls H locs nc ns mc ms hc h1 h2
  have hAA := hAA_of hc
  obtain ⟨w1, w2, w3, w4, w5, w6⟩ := mk_use hmk
  simp only [mk_v, Bool.and_eq_true, decide_eq_true_eq] at hmv
  have hl := List.all_eq_true.mp tb_C_ok _ hC
  simp only [ct_ok, decide_eq_true_eq] at hl
  have hts := hc.1.2.2.2.2.2.1
  have he : (cls cx ad h)[o - 64]? = some (ad o, .inr (mcn j', fds ad h o (mcn j'))) := by rw [cls_get ho1 ho2, cE_obj hk hmv.2]
  have cb : CallB (rm d mc ms) s args (tb_RR (mcn j)) idx (my j') (mcode j') (mmax j') (mret j') (wsj j') (rm (d - 1) (3 * a') (500 * a')) (3 * a') (500 * a') vs.length :=
    callB_of vs.length hts (good_wsj hmk) (ws' := gT) rfl rfl rfl (hts _ w2) (hts _ (gT_of hl rfl)) ⟨w4.1, w4.2, hnp⟩ ⟨by show d - 1 + 1 ≤ d; omega, by show 8 + (mmax j' + 11) + 64 * (d - 1) ≤ 64 * d; omega⟩
  have run := va_runV (p := p) (l := l) (e := e) (below := below) (meth := meth) (locs := locs) (cells := nc) (slots := ns) (R := rm d mc ms) (H := H) (C := (my j').cls) (b := ad o) (As := vs.map (cv ad)) (rest := st.map (cv ad)) (g := F0 m pc ls ((vs.reverse ++ .ref o :: st).map (cv ad))) (Ts := gT) (own := tb_RR (mcn j)) (nL := mmax j) (cc := mcode j)
    ⟨hc.1.1, hc.1.2.1, hc.1.2.2.2.1, hc.1.2.2.2.2.1, hts⟩ (hM l ad H.size) ⟨cb, hts _ (gT_of hmv.1.1 rfl), hts _ (gT_of hmv.1.2 rfl)⟩
    ⟨blind, by
      obtain ⟨cell, z1, z2, z3⟩ := va_recv hc.2.1.1 hc.2.1.2.1 (vw_get hmv.2) he
      exact ⟨cell, z1, z2, by rw [← w5]; exact z3⟩, fun U hU hW => ⟨rfl, by rw [hU], by rw [hU]; exact hc.2.1.2.1, va_K.moved hW.alike hc.2.1.1, hc.2.1.2.2.1.weaken (fun _ _ _ _ => trivial), wst_call hc.2.1.2.2.2.2 (fun o ho => hc.2.2.1.1 o (by omega)) hc.2.1.2.2.2.1 hAA hU hW⟩⟩
    rfl (by simp) hc.2.2.2.1 (by simp [cv, List.map_reverse]) (lv_room (by
      have : ((st.map (cv ad)).map fun v => v.category) = st.map fun v => v.category := by rw [List.map_map]; exact List.map_congr_left (fun v _ => cv_cat ad v)
      rw [this]; exact hsm)) hd ⟨by show nc + 3 * a' ≤ mc; omega, by show ns + 500 * a' ≤ ms; omega⟩
  exact e_back (j' := j') (vs := vs) ha hok kk hc h1 h2 hAA run
theorem e_callS {idx j' hint a' : Nat} {vs : List Value} {Q' : Option Value → Hp → Prop} (hd : decode (mcode j) pc = .ok (.invokestatic idx, 3)) (hC : (mcn j, idx, j', 1, hint) ∈ tb_C) (hmk : mk_ok j' = true) (hms : mk_s j' = true) (hnp : (parseMethodDescriptor (my j').desc).map (fun q => q.parameters.length) = some vs.length) (hsm : (st.map fun v => v.category).sum ≤ 8) (hd0 : 0 < d) (ha : a' ≤ a) (hok : rok loc st = true ∨ ∀ r h', Q' r h' → hN h' = hN h)
    (hM : M cx j' (d - 1) a' vs h Q') (kk : ∀ r h', Q' r h' → E cx j d (a - a') (pc + 3) loc (r.toList ++ st) h' Q) : E cx j d a pc loc (vs.reverse ++ st) h Q := by
  intro p l e s m args below meth c h0 ad0 ad ls H locs nc ns mc ms hc h1 h2
  have hAA := hAA_of hc
  obtain ⟨w1, w2, w3, w4, w5, w6⟩ := mk_use hmk
  simp only [mk_s, decide_eq_true_eq] at hms
  have hl := List.all_eq_true.mp tb_C_ok _ hC
  simp only [ct_ok, decide_eq_true_eq] at hl
  have hts := hc.1.2.2.2.2.2.1
  have cb : CallB (rm d mc ms) s args (tb_RR (mcn j)) idx (my j') (mcode j') (mmax j') (mret j') (wsj j') (rm (d - 1) (3 * a') (500 * a')) (3 * a') (500 * a') vs.length :=
    callB_of vs.length hts (good_wsj hmk) (ws' := gT) rfl rfl rfl (hts _ w2) (hts _ (gT_of hl rfl)) ⟨w4.1, w4.2, hnp⟩ ⟨by show d - 1 + 1 ≤ d; omega, by show 8 + (mmax j' + 11) + 64 * (d - 1) ≤ 64 * d; omega⟩
  have run := va_runS (p := p) (l := l) (e := e) (below := below) (meth := meth) (locs := locs) (cells := nc) (slots := ns) (R := rm d mc ms) (H := H) (As := vs.map (cv ad)) (rest := st.map (cv ad)) (g := F0 m pc ls ((vs.reverse ++ st).map (cv ad))) (Ts := gT) (own := tb_RR (mcn j)) (nL := mmax j) (cc := mcode j)
    ⟨hc.1.1, hc.1.2.1, hc.1.2.2.2.1, hc.1.2.2.2.2.1, hts⟩ (hM l ad H.size) ⟨cb, hts _ (gT_of hms rfl)⟩
    ⟨blind, fun U hU hW => ⟨rfl, by rw [hU], by rw [hU]; exact hc.2.1.2.1, va_K.moved hW.alike hc.2.1.1, hc.2.1.2.2.1.weaken (fun _ _ _ _ => trivial), wst_call hc.2.1.2.2.2.2 (fun o ho => hc.2.2.1.1 o (by omega)) hc.2.1.2.2.2.1 hAA hU hW⟩⟩
    rfl (by simp) hc.2.2.2.1 (by simp [List.map_reverse]) (lv_room (by
      have : ((st.map (cv ad)).map fun v => v.category) = st.map fun v => v.category := by rw [List.map_map]; exact List.map_congr_left (fun v _ => cv_cat ad v)
      rw [this]; exact hsm)) hd ⟨by show nc + 3 * a' ≤ mc; omega, by show ns + 500 * a' ≤ ms; omega⟩
  exact e_back (j' := j') (vs := vs) ha hok kk hc h1 h2 hAA run
theorem e_callN {idx j' hint a' : Nat} {vs : List Value} {Q' : Option Value → Hp → Prop} (hd : decode (mcode j) pc = .ok (.invokestatic idx, 3)) (hC : (mcn j, idx, j', 2, hint) ∈ tb_C) (hmk : mk_ok j' = true) (hms : mk_s j' = true) (hnp : (parseMethodDescriptor (my j').desc).map (fun q => q.parameters.length) = some vs.length) (hsm : (st.map fun v => v.category).sum ≤ 8) (hd0 : 0 < d) (ha : a' ≤ a) (hok : rok loc st = true ∨ ∀ r h', Q' r h' → hN h' = hN h)
    (hM : M cx j' (d - 1) a' vs h Q') (kk : ∀ r h', Q' r h' → E cx j d (a - a') (pc + 3) loc (r.toList ++ st) h' Q) : E cx j d a pc loc (vs.reverse ++ st) h Q := by
  intro p l e s m args below meth c h0 ad0 ad ls H locs nc ns mc ms hc h1 h2
  have hAA := hAA_of hc
  obtain ⟨w1, w2, w3, w4, w5, w6⟩ := mk_use hmk
  simp only [mk_s, decide_eq_true_eq] at hms
  have hts := hc.1.2.2.2.2.2.1
  have hnw := hc.2.1.2.2.2.2.2.2.1 _ hC rfl
  have cb : va_CN (rm d mc ms) s args (tb_RR (mcn j)) idx (my j') "FiveTouch" (mcode j') (mmax j') (mret j') (wsj j') (rm (d - 1) (3 * a') (500 * a')) (3 * a') (500 * a') vs.length :=
    va_cnB vs.length hts (good_wsj hmk) (ws' := gT) rfl rfl rfl hnw (hts _ w2) ⟨w4.1, w4.2, hnp⟩ ⟨by show d - 1 + 1 ≤ d; omega, by show 8 + (mmax j' + 11) + 64 * (d - 1) ≤ 64 * d; omega⟩
  have run := va_runSN (p := p) (l := l) (e := e) (below := below) (meth := meth) (locs := locs) (cells := nc) (slots := ns) (R := rm d mc ms) (H := H) (As := vs.map (cv ad)) (rest := st.map (cv ad)) (g := F0 m pc ls ((vs.reverse ++ st).map (cv ad))) (Ts := gT) (own := tb_RR (mcn j)) (nL := mmax j) (cc := mcode j)
    ⟨hc.1.1, hc.1.2.1, hc.1.2.2.2.1, hc.1.2.2.2.2.1, hts⟩ (hM l ad H.size) ⟨cb, hts _ (gT_of hms rfl), trivial⟩
    ⟨blind, fun U hU hW => ⟨rfl, by rw [hU], by rw [hU]; exact hc.2.1.2.1, va_K.moved hW.alike hc.2.1.1, hc.2.1.2.2.1.weaken (fun _ _ _ _ => trivial), wst_call hc.2.1.2.2.2.2 (fun o ho => hc.2.2.1.1 o (by omega)) hc.2.1.2.2.2.1 hAA hU hW⟩⟩
    rfl (by simp) hc.2.2.2.1 (by simp [List.map_reverse]) (lv_room (by
      have : ((st.map (cv ad)).map fun v => v.category) = st.map fun v => v.category := by rw [List.map_map]; exact List.map_congr_left (fun v _ => cv_cat ad v)
      rw [this]; exact hsm)) hd ⟨by show nc + 3 * a' ≤ mc; omega, by show ns + 500 * a' ≤ ms; omega⟩
  exact e_back (j' := j') (vs := vs) ha hok kk hc h1 h2 hAA run
/-! a contract out of its first instruction -/
def lent : List Value → Lc
  | [] => []
  | v :: t => if v.category = 2 then some v :: none :: lent t else some v :: lent t
theorem lent_args {ad : Nat → Nat} {vs : List Value} : ∀ (i n : Nat) (v : Value), lnth (lent vs) i = some v → (n + i, cv ad v) ∈ lv_args n (vs.map (cv ad)) := by
  induction vs with
  | nil => intro i n v h; simp [lent, lnth] at h
  | cons w t ih =>
    intro i n v h
    by_cases hw : w.category = 2
    · simp only [lent, hw, if_true] at h
      simp only [List.map_cons, lv_args, cv_cat, hw, if_true]
      match i, h with
      | 0, h => simp [lnth] at h; subst h; exact List.mem_cons_self
      | 1, h => simp [lnth] at h
      | i + 2, h =>
        have := ih i (n + 2) v (by simpa [lnth] using h)
        rw [show n + (i + 2) = n + 2 + i by omega]
        exact List.mem_cons_of_mem _ this
    · simp only [lent, hw, if_false] at h
      simp only [List.map_cons, lv_args, cv_cat, hw, if_false]
      match i, h with
      | 0, h => simp [lnth] at h; subst h; exact List.mem_cons_self
      | i + 1, h =>
        have := ih i (n + 1) v (by simpa [lnth] using h)
        rw [show n + (i + 1) = n + 1 + i by omega]
        exact List.mem_cons_of_mem _ this
theorem lent_len {ad : Nat → Nat} {vs : List Value} : (lg_sl (vs.map (cv ad))).length = (lent vs).length := by
  induction vs with
  | nil => rfl
  | cons w t ih =>
    by_cases hw : w.category = 2
    · simp [lg_sl, lent, cv_cat, hw] at ih ⊢; omega
    · simp [lg_sl, lent, cv_cat, hw] at ih ⊢; omega
theorem m_of {vs : List Value} (hmk : mk_ok j = true) (hn : (lent vs).length ≤ mmax j) (k : E cx j d a 0 (lent vs) [] h Q) : M cx j d a vs h Q := by
  intro l ad sz
  obtain ⟨w1, w2, w3, w4, w5, w6⟩ := mk_use hmk
  refine Met.ofW (cc := mcode j) (maxL := mmax j) (ret := mret j) w6 (ws' := gT) rfl ?_
  intro p e s m args below meth c s₁ B hml hv
  obtain ⟨rfl, hsz, hP, hK, hD0, hWst⟩ := hv
  have hts := atoms_spec (ws := wsj j) B.pre
  have hown : s.vm.findClass (my j).cls = some m.cls := findClass_of_methodNamed B.named
  subst hsz
  have hl := lv_entry (vs.map (cv ad)) (n := mmax j) (by rw [lent_len]; exact hn)
  rw [lg_entry_eq]
  generalize (lg_sl (vs.map (cv ad)) ++ List.replicate (mmax j - (lg_sl (vs.map (cv ad))).length) Slot.unset).toArray = ls at hl ⊢
  have hlv : lvok ad ls (mmax j) (lent vs) := ⟨hl.1, hl.2.1, fun i v hv => by
    have := hl.2.2 _ (lent_args (ad := ad) i 0 v hv)
    simpa using this⟩
  exact k p l e s m _ below meth c h ad ad ls s.heap [] 0 0 (3 * a) (500 * a) ⟨⟨B.exec, B.bytes, B.returns, hml, by rw [w5]; exact hown, fun w hw => hts w (List.mem_cons_of_mem _ hw), B.notSynchronized⟩, ⟨hK, hP, hD0.self, va_S.rf, hWst⟩, ⟨fun _ _ => rfl, Nat.le_refl _, fun _ => rfl⟩, hlv⟩ (by omega) (by omega)
end EC
