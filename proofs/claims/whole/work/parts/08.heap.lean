/-! rows that read and write the heap -/
theorem cls_get {cx : Cx} {ad : Nat → Nat} {h : Hp} {o : Nat} (h1 : 64 ≤ o) (h2 : o < 126 + 3 * hN h) : (cls cx ad h)[o - 64]? = some (ad o, cE cx ad h o) := by
  unfold cls
  rw [List.getElem?_map, List.getElem?_range (by omega)]
  simp only [Option.map_some]
  rw [show 64 + (o - 64) = o by omega]
theorem cls_len {cx : Cx} {ad : Nat → Nat} {h : Hp} : (cls cx ad h).length = 62 + 3 * hN h := by simp [cls]
/-- one cell written: the list of cells with that one set -/
theorem cls_set {cx : Cx} {ad : Nat → Nat} {h h' : Hp} {o : Nat} (h1 : 64 ≤ o) (h2 : o < 126 + 3 * hN h) (hn : hN h' = hN h) (hs : ∀ q, q ≠ o → cE cx ad h' q = cE cx ad h q) : (cls cx ad h).set (o - 64) (ad o, cE cx ad h' o) = cls cx ad h' := by
  refine List.ext_getElem? fun i => ?_
  by_cases hi : i = o - 64
  · subst hi
    rw [List.getElem?_set_self (by rw [cls_len]; omega), cls_get h1 (by rw [hn]; exact h2)]
  · rw [List.getElem?_set_ne (fun q => hi q.symm)]
    by_cases hl : i < 62 + 3 * hN h
    · have e1 := cls_get (cx := cx) (ad := ad) (h := h) (o := 64 + i) (by omega) (by omega)
      have e2 := cls_get (cx := cx) (ad := ad) (h := h') (o := 64 + i) (by omega) (by rw [hn]; omega)
      rw [show 64 + i - 64 = i by omega] at e1 e2
      rw [e1, e2, hs (64 + i) (by omega)]
    · rw [List.getElem?_eq_none (by rw [cls_len]; omega), List.getElem?_eq_none (by rw [cls_len, hn]; omega)]
theorem up2_ne {α : Type} {f : Nat → Nat → α} {o k q : Nat} {v : α} (h : q ≠ o) : up2 f o k v q = f q := by
  funext b; simp [up2, h]
theorem up2_eq {f : Nat → Nat → Int32} {o k : Nat} {v : Int32} : up2 f o k v o = upd (f o) k v := by
  funext b; simp [up2, upd]
theorem up2_eqL {f : Nat → Nat → Int64} {o k : Nat} {v : Int64} : up2 f o k v o = vp_updL (f o) k v := by
  funext b; simp [up2, vp_updL]
theorem cE_wI_ne {cx : Cx} {ad : Nat → Nat} {h : Hp} {o k q : Nat} {v : Int32} (hq : q ≠ o) : cE cx ad (wI h o k v) q = cE cx ad h q := by
  have e : (fun b => (wI h o k v).1 q b) = (fun b => h.1 q b) := by funext b; simp [wI, up2, hq]
  have e1 : ∀ b, (wI h o k v).1 q b = h.1 q b := fun b => congrFun e b
  unfold cE fds fv ln hI hJ hR hL
  simp only [wI] at e1 ⊢
  simp only [e1]
theorem cE_wJ_ne {cx : Cx} {ad : Nat → Nat} {h : Hp} {o k q : Nat} {v : Int64} (hq : q ≠ o) : cE cx ad (wJ h o k v) q = cE cx ad h q := by
  have e1 : ∀ b, (wJ h o k v).2.1 q b = h.2.1 q b := fun b => by simp [wJ, up2, hq]
  unfold cE fds fv ln hI hJ hR hL
  simp only [wJ] at e1 ⊢
  simp only [e1]
theorem cE_wR_ne {cx : Cx} {ad : Nat → Nat} {h : Hp} {o k q : Nat} {v : Option Nat} (hq : q ≠ o) : cE cx ad (wR h o k v) q = cE cx ad h q := by
  have e1 : ∀ b, (wR h o k v).2.2.1 q b = h.2.2.1 q b := fun b => by simp [wR, up2, hq]
  unfold cE fds fv ln hI hJ hR hL
  simp only [wR] at e1 ⊢
  simp only [e1]
theorem hI_wI {h : Hp} {o k : Nat} {v : Int32} : hI (wI h o k v) o = upd (hI h o) k v := by
  funext b; show up2 h.1 o k v o b = upd (h.1 o) k v b; rw [up2_eq]
theorem hJ_wJ {h : Hp} {o k : Nat} {v : Int64} : hJ (wJ h o k v) o = vp_updL (hJ h o) k v := by
  funext b; show up2 h.2.1 o k v o b = vp_updL (h.2.1 o) k v b; rw [up2_eqL]
theorem cE_wI_20 {cx : Cx} {ad : Nat → Nat} {h : Hp} {o k : Nat} {v : Int32} (hk : kd o = 20) : cE cx ad (wI h o k v) o = .inl (cxA cx 0, ln h o, .inl (upd (hI h o) k v)) := by
  unfold cE; rw [hk]; show Sum.inl (_, _, Sum.inl (hI (wI h o k v) o)) = _; rw [hI_wI]; rfl
theorem cE_wI_22 {cx : Cx} {ad : Nat → Nat} {h : Hp} {o k : Nat} {v : Int32} (hk : kd o = 22) : cE cx ad (wI h o k v) o = .inl (cxA cx 2, ln h o, .inl (upd (hI h o) k v)) := by
  unfold cE; rw [hk]; show Sum.inl (_, _, Sum.inl (hI (wI h o k v) o)) = _; rw [hI_wI]; rfl
theorem cE_wI_23 {cx : Cx} {ad : Nat → Nat} {h : Hp} {o k : Nat} {v : Int32} (hk : kd o = 23) : cE cx ad (wI h o k v) o = .inl (cxA cx 3, ln h o, .inl (upd (hI h o) k v)) := by
  unfold cE; rw [hk]; show Sum.inl (_, _, Sum.inl (hI (wI h o k v) o)) = _; rw [hI_wI]; rfl
theorem cE_wJ_21 {cx : Cx} {ad : Nat → Nat} {h : Hp} {o k : Nat} {v : Int64} (hk : kd o = 21) : cE cx ad (wJ h o k v) o = .inl (cxA cx 1, ln h o, .inr (.inl (vp_updL (hJ h o) k v))) := by
  unfold cE; rw [hk]; show Sum.inl (_, _, Sum.inr (Sum.inl (hJ (wJ h o k v) o))) = _; rw [hJ_wJ]; rfl
theorem cE_obj {cx : Cx} {ad : Nat → Nat} {h : Hp} {o ci : Nat} (hk : kd o = ci) (hc : ci < 13) : cE cx ad h o = .inr (ci, fds ad h o ci) := by
  unfold cE
  rw [hk]
  match ci, hc with
  | 0, _ => rfl
  | 1, _ => rfl
  | 2, _ => rfl
  | 3, _ => rfl
  | 4, _ => rfl
  | 5, _ => rfl
  | 6, _ => rfl
  | 7, _ => rfl
  | 8, _ => rfl
  | 9, _ => rfl
  | 10, _ => rfl
  | 11, _ => rfl
  | 12, _ => rfl
theorem fds_get {ad : Nat → Nat} {h : Hp} {o ci k : Nat} (hk : k < tb_NN ci) : (fds ad h o ci)[k]? = some (fv ad h o ci k) := by
  unfold fds
  rw [List.getElem?_map, List.getElem?_range hk]
  rfl
theorem fds_set {ad : Nat → Nat} {h : Hp} {o ci k : Nat} {v : Int32} (hk : k < tb_NN ci) (hf : ly_fk ci k = false) : (fds ad h o ci).set k (.int v) = fds ad (wI h o k v) o ci := by
  refine List.ext_getElem? fun i => ?_
  by_cases hi : i = k
  · subst hi
    rw [List.getElem?_set_self (by simp [fds]; exact hk), fds_get hk]
    have e : hI (wI h o i v) o i = v := by show up2 h.1 o i v o i = v; simp [up2]
    unfold fv; rw [hf, e]; rfl
  · rw [List.getElem?_set_ne (fun q => hi q.symm)]
    by_cases hl : i < tb_NN ci
    · rw [fds_get hl, fds_get hl]
      have e : hI (wI h o k v) o i = hI h o i := by show up2 h.1 o k v o i = h.1 o i; simp [up2, hi]
      unfold fv; rw [e]
    · rw [List.getElem?_eq_none (by simp [fds]; omega), List.getElem?_eq_none (by simp [fds]; omega)]
section EH
variable {cx : Cx} {j d a pc : Nat} {loc : Lc} {st : List Value} {h : Hp} {Q : Option Value → Hp → Prop}
theorem e_get {idx o ci k hint : Nat} (hd : decode (mcode j) pc = .ok (.getfield idx, 3)) (hF : (mcn j, idx, ci, k, hint) ∈ tb_F) (ho1 : 64 ≤ o) (ho2 : o < 126 + 3 * hN h) (hk : kd o = ci) (v : Value) (hv : ∀ ad, fv ad h o ci k = cv ad v) (kk : E cx j d a (pc + 3) loc (v :: st) h Q) : E cx j d a pc loc (.ref o :: st) h Q := by
  intro p l e s m args below meth c h0 ad0 ad ls H locs nc ns mc ms hc h1 h2
  obtain ⟨hw, hkN, h13⟩ := tb_F_use hF
  have he : (cls cx ad h)[o - 64]? = some (ad o, .inr (ci, fds ad h o ci)) := by rw [cls_get ho1 ho2, cE_obj hk h13]
  exact va_get (D := cxD cx) (ci := ci) (v := cv ad v) (C := tb_RR ci) (T := tb_TT ci) (N := tb_NN ci) hc.1.1 hc.1.2.1 hc.1.2.2.2.2.2.1 (u_in h13) hc.1.2.2.2.2.1 hc.2.1.1 hc.2.1.2.1 (o - 64) he (vw_get h13) k hkN (hc.1.2.2.2.2.2.1 _ hw) (fun _ h9 => h9) (by rw [fds_get hkN, hv ad]) hd (kk p l e s m args below meth c h0 ad0 ad ls H locs nc ns mc ms hc h1 h2)
theorem e_put {idx o ci k hint : Nat} {v : Int32} (hd : decode (mcode j) pc = .ok (.putfield idx, 3)) (hF : (mcn j, idx, ci, k, hint) ∈ tb_F) (ho1 : 64 ≤ o) (ho2 : o < 126 + 3 * hN h) (hk : kd o = ci) (hf : ly_fk ci k = false) (hfin : (tb_TT ci k).2.2.2 = false) (hn : narrow (tb_ty ci k) (.int v) = .int v) (hfit : fits (tb_ty ci k) (.int v) = true) (kk : E cx j d a (pc + 3) loc st (wI h o k v) Q) : E cx j d a pc loc (.int v :: .ref o :: st) h Q := by
  intro p l e s m args below meth c h0 ad0 ad ls H locs nc ns mc ms hc h1 h2
  obtain ⟨hw, hkN, h13⟩ := tb_F_use hF
  have he : (cls cx ad h)[o - 64]? = some (ad o, .inr (ci, fds ad h o ci)) := by rw [cls_get ho1 ho2, cE_obj hk h13]
  have hset : (cls cx ad h).set (o - 64) (ad o, .inr (ci, (fds ad h o ci).set k (.int v))) = cls cx ad (wI h o k v) := by
    rw [fds_set hkN hf, ← cE_obj (cx := cx) hk h13]
    exact cls_set ho1 ho2 rfl (fun q hq => cE_wI_ne hq)
  refine va_put (D := cxD cx) (ci := ci) (v := .int v) (ty := tb_ty ci k) (C := tb_RR ci) (T := tb_TT ci) (N := tb_NN ci) hc.1.1 hc.1.2.1 hc.1.2.2.2.2.2.1 (u_in h13) (tb_ty ci) (tb_ty_ok h13) (tb_nm h13) hc.1.2.2.2.2.1 hc.2.1.1 hc.2.1.2.1 hc.2.1.2.2.1 hc.2.1.2.2.2.1 (o - 64) he (vw_get h13) k hkN (hc.1.2.2.2.2.2.1 _ hw) (fun _ h9 => h9) hfin (tb_ty_ok h13 k hkN) hn hfit (by simp [fds]; exact hkN) hd (fun H1 locs1 hP hD hS => ?_)
  rw [hset] at hP hD
  exact kk p l e s m args below meth c h0 ad0 ad ls H1 locs1 nc ns mc ms ⟨hc.1, ⟨hc.2.1.1, hP, hD, hS, hc.2.1.2.2.2.2⟩, hc.2.2.1, hc.2.2.2⟩ h1 h2
/-- an array of ints, bytes, booleans is read -/
theorem e_iald {o : Nat} {i : Int32} (hd : decode (mcode j) pc = .ok (.iaload, 1)) (ho1 : 64 ≤ o) (ho2 : o < 126 + 3 * hN h) (hk : kd o = 20) (hin : vp_in i (ln h o)) (kk : E cx j d a (pc + 1) loc (.int (hI h o i.toNatClampNeg) :: st) h Q) : E cx j d a pc loc (.int i :: .ref o :: st) h Q := by
  intro p l e s m args below meth c h0 ad0 ad ls H locs nc ns mc ms hc h1 h2
  have he : (cls cx ad h)[o - 64]? = some (ad o, .inl (cxA cx 0, ln h o, .inl (hI h o))) := by rw [cls_get ho1 ho2]; unfold cE; rw [hk]; rfl
  exact va_iald hc.1.1 hc.1.2.1 hc.2.1.1 hc.2.1.2.1 (o - 64) 0 he rfl hin hd (kk p l e s m args below meth c h0 ad0 ad ls H locs nc ns mc ms hc h1 h2)
theorem e_zald {o : Nat} {i : Int32} (hd : decode (mcode j) pc = .ok (.baload, 1)) (ho1 : 64 ≤ o) (ho2 : o < 126 + 3 * hN h) (hk : kd o = 22) (hin : vp_in i (ln h o)) (kk : E cx j d a (pc + 1) loc (.int (hI h o i.toNatClampNeg) :: st) h Q) : E cx j d a pc loc (.int i :: .ref o :: st) h Q := by
  intro p l e s m args below meth c h0 ad0 ad ls H locs nc ns mc ms hc h1 h2
  have he : (cls cx ad h)[o - 64]? = some (ad o, .inl (cxA cx 2, ln h o, .inl (hI h o))) := by rw [cls_get ho1 ho2]; unfold cE; rw [hk]; rfl
  exact va_zald hc.1.1 hc.1.2.1 hc.2.1.1 hc.2.1.2.1 (o - 64) 2 he rfl hin hd (kk p l e s m args below meth c h0 ad0 ad ls H locs nc ns mc ms hc h1 h2)
theorem e_bald {o : Nat} {i : Int32} (hd : decode (mcode j) pc = .ok (.baload, 1)) (ho1 : 64 ≤ o) (ho2 : o < 126 + 3 * hN h) (hk : kd o = 23) (hin : vp_in i (ln h o)) (kk : E cx j d a (pc + 1) loc (.int (hI h o i.toNatClampNeg) :: st) h Q) : E cx j d a pc loc (.int i :: .ref o :: st) h Q := by
  intro p l e s m args below meth c h0 ad0 ad ls H locs nc ns mc ms hc h1 h2
  have he : (cls cx ad h)[o - 64]? = some (ad o, .inl (cxA cx 3, ln h o, .inl (hI h o))) := by rw [cls_get ho1 ho2]; unfold cE; rw [hk]; rfl
  exact va_bald hc.1.1 hc.1.2.1 hc.2.1.1 hc.2.1.2.1 (o - 64) 3 he rfl hin hd (kk p l e s m args below meth c h0 ad0 ad ls H locs nc ns mc ms hc h1 h2)
theorem e_lald {o : Nat} {i : Int32} (hd : decode (mcode j) pc = .ok (.laload, 1)) (ho1 : 64 ≤ o) (ho2 : o < 126 + 3 * hN h) (hk : kd o = 21) (hin : vp_in i (ln h o)) (kk : E cx j d a (pc + 1) loc (.long (hJ h o i.toNatClampNeg) :: st) h Q) : E cx j d a pc loc (.int i :: .ref o :: st) h Q := by
  intro p l e s m args below meth c h0 ad0 ad ls H locs nc ns mc ms hc h1 h2
  have he : (cls cx ad h)[o - 64]? = some (ad o, .inl (cxA cx 1, ln h o, .inr (.inl (hJ h o)))) := by rw [cls_get ho1 ho2]; unfold cE; rw [hk]; rfl
  exact va_lald hc.1.1 hc.1.2.1 hc.2.1.1 hc.2.1.2.1 (o - 64) 1 he rfl hin hd (kk p l e s m args below meth c h0 ad0 ad ls H locs nc ns mc ms hc h1 h2)
/-- a cell's number, or null -/
def vr (r : Option Nat) : Value := match r with
  | some i => .ref i
  | none => .null
theorem cv_vr (ad : Nat → Nat) (r : Option Nat) : va_rf (r.map ad) = cv ad (vr r) := by cases r <;> rfl
theorem e_aald {o : Nat} {i : Int32} (hd : decode (mcode j) pc = .ok (.aaload, 1)) (ho1 : 64 ≤ o) (ho2 : o < 126 + 3 * hN h) (hk : kd o = 24 ∨ kd o = 25) (hin : vp_in i (ln h o)) (kk : E cx j d a (pc + 1) loc (vr (hR h o i.toNatClampNeg) :: st) h Q) : E cx j d a pc loc (.int i :: .ref o :: st) h Q := by
  intro p l e s m args below meth c h0 ad0 ad ls H locs nc ns mc ms hc h1 h2
  have kk := kk p l e s m args below meth c h0 ad0 ad ls H locs nc ns mc ms hc h1 h2
  rw [List.map_cons, ← cv_vr] at kk
  rcases hk with hk | hk
  · have he : (cls cx ad h)[o - 64]? = some (ad o, .inl (cxA cx 4, ln h o, .inr (.inr (.inr (.inr (fun k => (hR h o k).map ad)))))) := by rw [cls_get ho1 ho2]; unfold cE; rw [hk]; rfl
    exact va_aldq hc.1.1 hc.1.2.1 hc.2.1.1 hc.2.1.2.1 (o - 64) 4 he rfl hin hd kk
  · have he : (cls cx ad h)[o - 64]? = some (ad o, .inl (cxA cx 5, ln h o, .inr (.inr (.inr (.inr (fun k => (hR h o k).map ad)))))) := by rw [cls_get ho1 ho2]; unfold cE; rw [hk]; rfl
    exact va_aldq hc.1.1 hc.1.2.1 hc.2.1.1 hc.2.1.2.1 (o - 64) 5 he rfl hin hd kk
theorem e_alen {o : Nat} (hd : decode (mcode j) pc = .ok (.arraylength, 1)) (ho1 : 64 ≤ o) (ho2 : o < 126 + 3 * hN h) (hk : kd o = 20 ∨ kd o = 21 ∨ kd o = 23) (kk : E cx j d a (pc + 1) loc (.int (Int32.ofNat (ln h o)) :: st) h Q) : E cx j d a pc loc (.ref o :: st) h Q := by
  intro p l e s m args below meth c h0 ad0 ad ls H locs nc ns mc ms hc h1 h2
  rcases hk with hk | hk | hk
  · have he : (cls cx ad h)[o - 64]? = some (ad o, .inl (cxA cx 0, ln h o, .inl (hI h o))) := by rw [cls_get ho1 ho2]; unfold cE; rw [hk]; rfl
    exact va_alen hc.1.1 hc.1.2.1 hc.2.1.1 hc.2.1.2.1 (o - 64) 0 he (ty := .int) rfl rfl hd (kk p l e s m args below meth c h0 ad0 ad ls H locs nc ns mc ms hc h1 h2)
  · have he : (cls cx ad h)[o - 64]? = some (ad o, .inl (cxA cx 1, ln h o, .inr (.inl (hJ h o)))) := by rw [cls_get ho1 ho2]; unfold cE; rw [hk]; rfl
    exact va_alen hc.1.1 hc.1.2.1 hc.2.1.1 hc.2.1.2.1 (o - 64) 1 he (ty := .long) rfl rfl hd (kk p l e s m args below meth c h0 ad0 ad ls H locs nc ns mc ms hc h1 h2)
  · have he : (cls cx ad h)[o - 64]? = some (ad o, .inl (cxA cx 3, ln h o, .inl (hI h o))) := by rw [cls_get ho1 ho2]; unfold cE; rw [hk]; rfl
    exact va_alen hc.1.1 hc.1.2.1 hc.2.1.1 hc.2.1.2.1 (o - 64) 3 he (ty := .byte) rfl rfl hd (kk p l e s m args below meth c h0 ad0 ad ls H locs nc ns mc ms hc h1 h2)
theorem e_iast {o : Nat} {i x : Int32} (hd : decode (mcode j) pc = .ok (.iastore, 1)) (ho1 : 64 ≤ o) (ho2 : o < 126 + 3 * hN h) (hk : kd o = 20) (hin : vp_in i (ln h o)) (kk : E cx j d a (pc + 1) loc st (wI h o i.toNatClampNeg x) Q) : E cx j d a pc loc (.int x :: .int i :: .ref o :: st) h Q := by
  intro p l e s m args below meth c h0 ad0 ad ls H locs nc ns mc ms hc h1 h2
  have he : (cls cx ad h)[o - 64]? = some (ad o, .inl (cxA cx 0, ln h o, .inl (hI h o))) := by rw [cls_get ho1 ho2]; unfold cE; rw [hk]; rfl
  have hset : (cls cx ad h).set (o - 64) (ad o, .inl (cxA cx 0, ln h o, .inl (upd (hI h o) i.toNatClampNeg x))) = cls cx ad (wI h o i.toNatClampNeg x) := by
    rw [← cls_set ho1 ho2 (h' := wI h o i.toNatClampNeg x) rfl (fun q hq => cE_wI_ne hq)]
    rw [cE_wI_20 hk]
  refine va_iast hc.1.1 hc.1.2.1 hc.2.1.1 hc.2.1.2.1 hc.2.1.2.2.1 hc.2.1.2.2.2.1 (o - 64) 0 he rfl hin hd (fun H1 locs1 hP hD hS => ?_)
  rw [hset] at hP hD
  exact kk p l e s m args below meth c h0 ad0 ad ls H1 locs1 nc ns mc ms ⟨hc.1, ⟨hc.2.1.1, hP, hD, hS, hc.2.1.2.2.2.2⟩, hc.2.2.1, hc.2.2.2⟩ h1 h2
theorem e_bast {o : Nat} {i x : Int32} (hd : decode (mcode j) pc = .ok (.bastore, 1)) (ho1 : 64 ≤ o) (ho2 : o < 126 + 3 * hN h) (hk : kd o = 23) (hin : vp_in i (ln h o)) (kk : E cx j d a (pc + 1) loc st (wI h o i.toNatClampNeg (vp_nar .byte x)) Q) : E cx j d a pc loc (.int x :: .int i :: .ref o :: st) h Q := by
  intro p l e s m args below meth c h0 ad0 ad ls H locs nc ns mc ms hc h1 h2
  have he : (cls cx ad h)[o - 64]? = some (ad o, .inl (cxA cx 3, ln h o, .inl (hI h o))) := by rw [cls_get ho1 ho2]; unfold cE; rw [hk]; rfl
  have hset : (cls cx ad h).set (o - 64) (ad o, .inl (cxA cx 3, ln h o, .inl (upd (hI h o) i.toNatClampNeg (vp_nar .byte x)))) = cls cx ad (wI h o i.toNatClampNeg (vp_nar .byte x)) := by
    rw [← cls_set ho1 ho2 (h' := wI h o i.toNatClampNeg (vp_nar .byte x)) rfl (fun q hq => cE_wI_ne hq)]
    rw [cE_wI_23 hk]
  refine va_bast hc.1.1 hc.1.2.1 hc.2.1.1 hc.2.1.2.1 hc.2.1.2.2.1 hc.2.1.2.2.2.1 (o - 64) 3 he rfl hin hd (fun H1 locs1 hP hD hS => ?_)
  rw [hset] at hP hD
  exact kk p l e s m args below meth c h0 ad0 ad ls H1 locs1 nc ns mc ms ⟨hc.1, ⟨hc.2.1.1, hP, hD, hS, hc.2.1.2.2.2.2⟩, hc.2.2.1, hc.2.2.2⟩ h1 h2
theorem e_zast {o : Nat} {i x : Int32} (hd : decode (mcode j) pc = .ok (.bastore, 1)) (ho1 : 64 ≤ o) (ho2 : o < 126 + 3 * hN h) (hk : kd o = 22) (hin : vp_in i (ln h o)) (kk : E cx j d a (pc + 1) loc st (wI h o i.toNatClampNeg (vp_nar .boolean x)) Q) : E cx j d a pc loc (.int x :: .int i :: .ref o :: st) h Q := by
  intro p l e s m args below meth c h0 ad0 ad ls H locs nc ns mc ms hc h1 h2
  have he : (cls cx ad h)[o - 64]? = some (ad o, .inl (cxA cx 2, ln h o, .inl (hI h o))) := by rw [cls_get ho1 ho2]; unfold cE; rw [hk]; rfl
  have hset : (cls cx ad h).set (o - 64) (ad o, .inl (cxA cx 2, ln h o, .inl (upd (hI h o) i.toNatClampNeg (vp_nar .boolean x)))) = cls cx ad (wI h o i.toNatClampNeg (vp_nar .boolean x)) := by
    rw [← cls_set ho1 ho2 (h' := wI h o i.toNatClampNeg (vp_nar .boolean x)) rfl (fun q hq => cE_wI_ne hq)]
    rw [cE_wI_22 hk]
  refine va_zast hc.1.1 hc.1.2.1 hc.2.1.1 hc.2.1.2.1 hc.2.1.2.2.1 hc.2.1.2.2.2.1 (o - 64) 2 he rfl hin hd (fun H1 locs1 hP hD hS => ?_)
  rw [hset] at hP hD
  exact kk p l e s m args below meth c h0 ad0 ad ls H1 locs1 nc ns mc ms ⟨hc.1, ⟨hc.2.1.1, hP, hD, hS, hc.2.1.2.2.2.2⟩, hc.2.2.1, hc.2.2.2⟩ h1 h2
theorem e_last {o : Nat} {i : Int32} {x : Int64} (hd : decode (mcode j) pc = .ok (.lastore, 1)) (ho1 : 64 ≤ o) (ho2 : o < 126 + 3 * hN h) (hk : kd o = 21) (hin : vp_in i (ln h o)) (kk : E cx j d a (pc + 1) loc st (wJ h o i.toNatClampNeg x) Q) : E cx j d a pc loc (.long x :: .int i :: .ref o :: st) h Q := by
  intro p l e s m args below meth c h0 ad0 ad ls H locs nc ns mc ms hc h1 h2
  have he : (cls cx ad h)[o - 64]? = some (ad o, .inl (cxA cx 1, ln h o, .inr (.inl (hJ h o)))) := by rw [cls_get ho1 ho2]; unfold cE; rw [hk]; rfl
  have hset : (cls cx ad h).set (o - 64) (ad o, .inl (cxA cx 1, ln h o, .inr (.inl (vp_updL (hJ h o) i.toNatClampNeg x)))) = cls cx ad (wJ h o i.toNatClampNeg x) := by
    rw [← cls_set ho1 ho2 (h' := wJ h o i.toNatClampNeg x) rfl (fun q hq => cE_wJ_ne hq)]
    rw [cE_wJ_21 hk]
  refine va_last hc.1.1 hc.1.2.1 hc.2.1.1 hc.2.1.2.1 hc.2.1.2.2.1 hc.2.1.2.2.2.1 (o - 64) 1 he rfl hin hd (fun H1 locs1 hP hD hS => ?_)
  rw [hset] at hP hD
  exact kk p l e s m args below meth c h0 ad0 ad ls H1 locs1 nc ns mc ms ⟨hc.1, ⟨hc.2.1.1, hP, hD, hS, hc.2.1.2.2.2.2⟩, hc.2.2.1, hc.2.2.2⟩ h1 h2
end EH
