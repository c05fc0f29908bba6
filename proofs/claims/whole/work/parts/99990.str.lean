/-! the class's words: String.length and String.charAt of the constants, by their bytes -/
def dx (j : Nat) (q : Nat × Instr × Nat) : Bool := match decode (mcode j) q.1 with
  | .ok (i, k) => decide (i = q.2.1) && (k == q.2.2)
  | .error _ => false
theorem dx_ok {j : Nat} {L : List (Nat × Instr × Nat)} (h : L.all (dx j) = true) (q : Nat × Instr × Nat) (hq : q ∈ L) : decode (mcode j) q.1 = .ok (q.2.1, q.2.2) := by
  have h := List.all_eq_true.mp h q hq
  unfold dx at h
  match hq : decode (mcode j) q.1, h with
  | .ok (i, n), h =>
    simp only [Bool.and_eq_true, decide_eq_true_eq, beq_iff_eq] at h
    rw [h.1, h.2]
abbrev lj241 : List (Nat × Instr × Nat) := [(0, .aload_n 0, 1), (1, .getfield 9, 3), (4, .arraylength, 1), (5, .aload_n 0, 1), (6, .invokevirtual 335, 3), (9, .ishr, 1), (10, .ireturn, 1)]
theorem dj241 : lj241.all (dx 241) = true := by decide +kernel
abbrev lj243 : List (Nat × Instr × Nat) := [(0, .getstatic 38, 3), (3, .ifCond .eq 10, 3), (6, .aload_n 0, 1), (7, .getfield 15, 3), (10, .goto 4, 3), (14, .ireturn, 1)]
theorem dj243 : lj243.all (dx 243) = true := by decide +kernel
abbrev lj244 : List (Nat × Instr × Nat) := [(0, .getstatic 38, 3), (3, .ifCond .eq 14, 3), (6, .aload_n 0, 1), (7, .getfield 15, 3), (10, .ifCond .ne 7, 3), (13, .iconst 1, 1), (14, .goto 4, 3), (18, .ireturn, 1)]
theorem dj244 : lj244.all (dx 244) = true := by decide +kernel
abbrev lj242 : List (Nat × Instr × Nat) := [(0, .aload_n 0, 1), (1, .invokevirtual 492, 3), (4, .ifCond .eq 12, 3), (7, .aload_n 0, 1), (8, .getfield 9, 3), (11, .iload_n 1, 1), (12, .invokestatic 495, 3), (15, .ireturn, 1)]
theorem dj242 : lj242.all (dx 242) = true := by decide +kernel
abbrev lj246 : List (Nat × Instr × Nat) := [(0, .iload_n 1, 1), (1, .aload_n 0, 1), (2, .arraylength, 1), (3, .invokestatic 9, 3), (6, .aload_n 0, 1), (7, .iload_n 1, 1), (8, .baload, 1), (9, .sipush 255, 3), (12, .iand, 1), (13, .i2c, 1), (14, .ireturn, 1)]
theorem dj246 : lj246.all (dx 246) = true := by decide +kernel
abbrev lj245 : List (Nat × Instr × Nat) := [(0, .iload_n 0, 1), (1, .iload_n 1, 1), (2, .getstatic 1053, 3), (5, .invokestatic 1059, 3), (8, .pop, 1), (9, .return_, 1)]
theorem dj245 : lj245.all (dx 245) = true := by decide +kernel
abbrev lj251 : List (Nat × Instr × Nat) := [(0, .iload_n 0, 1), (1, .ifCond .lt 8, 3), (4, .iload_n 0, 1), (5, .iload_n 1, 1), (6, .if_icmp .lt 10, 3), (16, .iload_n 0, 1), (17, .ireturn, 1)]
theorem dj251 : lj251.all (dx 251) = true := by decide +kernel
abbrev lj50 : List (Nat × Instr × Nat) := [(10, .invokevirtual 170, 3), (13, .if_icmp .eq 5, 3), (16, .iconst 0, 1), (17, .ireturn, 1), (22, .invokevirtual 170, 3), (25, .if_icmp .ge 32, 3), (43, .invokevirtual 174, 3), (46, .if_icmp .eq 5, 3), (49, .iconst 0, 1), (50, .ireturn, 1)]
theorem dj50 : lj50.all (dx 50) = true := by decide +kernel
theorem jk_ok : ([241, 242, 243, 244, 245, 246, 251].all mk_ok) = true := by decide +kernel
theorem jk_in : ([241, 242, 243, 244].all (fun j => decide (lw_tbl[(mh j).2.2.1]? = some (mw_inst j)) && decide (lw_tbl[(mh j).2.2.2.1]? = some (mw_sel j)) && decide ((my j).cls = RJ0))) = true := by decide +kernel
theorem jk_st : ([245, 246, 251].all mk_s) = true := by decide +kernel
theorem jk_mx : [mmax 241, mmax 242, mmax 243, mmax 244, mmax 245, mmax 246, mmax 251] = [1, 2, 1, 1, 2, 2, 3] := by decide +kernel
theorem jk_re : [mret 241, mret 242, mret 243, mret 244, mret 245, mret 246, mret 251] = [some .int, some .char, some .byte, some .boolean, none, some .char, some .int] := by decide +kernel
theorem jk_cn : [mcn 241, mcn 242, mcn 243, mcn 244, mcn 245, mcn 246, mcn 251, mcn 50] = [15, 15, 15, 15, 15, 16, 18, 5] := by decide +kernel
theorem jk_f0 : lw_tbl[556]? = some (Cond.fieldLink RJ0 38 RJ0 "COMPACT_STRINGS" "Z") := by decide +kernel
theorem jk_f1 : lw_tbl[572]? = some (Cond.fieldLink RJ0 1053 RJ3 "SIOOBE_FORMATTER" "Ljava/util/function/BiFunction;") := by decide +kernel
theorem jk_f2 : lw_tbl[1568]? = some (Cond.fieldLink RJ0 9 RJ0 "value" "[B") := by decide +kernel
theorem jk_f3 : lw_tbl[1569]? = some (Cond.fieldLink RJ0 15 RJ0 "coder" "B") := by decide +kernel
section T99990
variable {cx : Cx} {j d a pc : Nat} {loc : Lc} {st : List Value} {h : Hp} {Q : Option Value → Hp → Prop}
/-- of a word: its byte array -/
theorem e_strV {k : Nat} (hd : decode (mcode j) pc = .ok (.getfield 9, 3)) (hj : mcn j = 15) (hk : k < 26) (kk : E cx j d a (pc + 3) loc (.ref (30 + k) :: st) h Q) : E cx j d a pc loc (.ref (1 + k) :: st) h Q := by
  intro p l e s m args below meth c h0 ad0 ad ls H locs nc ns mc ms hc h1 h2
  have hE := hc.2.1.2.2.2.2.2.1.1
  have hown : s.vm.findClass RJ0 = some m.cls := by have q := hc.1.2.2.2.2.1; rw [hj] at q; exact q
  have e0 : ad (1 + k) = ad0 (1 + k) := hc.2.2.1.1 _ (by omega)
  have e1 : ad (30 + k) = ad0 (30 + k) := hc.2.2.1.1 _ (by omega)
  have k2 := kk p l e s m args below meth c h0 ad0 ad ls H locs nc ns mc ms hc h1 h2
  rw [List.map_cons, show cv ad (.ref (30 + k)) = .ref (ad0 (30 + k)) by simp [cv, e1]] at k2
  rw [List.map_cons, show cv ad (.ref (1 + k)) = .ref (ad0 (1 + k)) by simp [cv, e0]]
  exact vk_getf hc.1.1 hc.1.2.1 (hE.1 k hk).2.2.1 hc.2.1.2.2.2.1 hown (hc.1.2.2.2.2.2.1 _ (gT_of jk_f2 rfl)) (fun x q => q) hd k2
theorem e_strC {k : Nat} (hd : decode (mcode j) pc = .ok (.getfield 15, 3)) (hj : mcn j = 15) (hk : k < 26) (kk : E cx j d a (pc + 3) loc (.int 0 :: st) h Q) : E cx j d a pc loc (.ref (1 + k) :: st) h Q := by
  intro p l e s m args below meth c h0 ad0 ad ls H locs nc ns mc ms hc h1 h2
  have hE := hc.2.1.2.2.2.2.2.1.1
  have hown : s.vm.findClass RJ0 = some m.cls := by have q := hc.1.2.2.2.2.1; rw [hj] at q; exact q
  have e0 : ad (1 + k) = ad0 (1 + k) := hc.2.2.1.1 _ (by omega)
  have k2 := kk p l e s m args below meth c h0 ad0 ad ls H locs nc ns mc ms hc h1 h2
  rw [List.map_cons, show cv ad (.ref (1 + k)) = .ref (ad0 (1 + k)) by simp [cv, e0]]
  exact vk_getf hc.1.1 hc.1.2.1 (hE.1 k hk).2.1 hc.2.1.2.2.2.1 hown (hc.1.2.2.2.2.2.1 _ (gT_of jk_f3 rfl)) (fun x q => q) hd k2
theorem e_strL {k : Nat} (hd : decode (mcode j) pc = .ok (.arraylength, 1)) (hk : k < 26) (kk : E cx j d a (pc + 1) loc (.int (Int32.ofNat (tx_len.getD k 0)) :: st) h Q) : E cx j d a pc loc (.ref (30 + k) :: st) h Q := by
  intro p l e s m args below meth c h0 ad0 ad ls H locs nc ns mc ms hc h1 h2
  have hE := hc.2.1.2.2.2.2.2.1.1
  have e1 : ad (30 + k) = ad0 (30 + k) := hc.2.2.1.1 _ (by omega)
  have k2 := kk p l e s m args below meth c h0 ad0 ad ls H locs nc ns mc ms hc h1 h2
  rw [List.map_cons, show cv ad (.ref (30 + k)) = .ref (ad0 (30 + k)) by simp [cv, e1]]
  exact va_tlen hc.1.1 hc.1.2.1 (hE.1 k hk).2.2.2 hc.2.1.2.2.2.1 rfl hd k2
theorem e_strB {k : Nat} {i : Int32} (hd : decode (mcode j) pc = .ok (.baload, 1)) (hk : k < 26) (hin : vp_in i (tx_len.getD k 0)) (kk : E cx j d a (pc + 1) loc (.int ((tx_byt.getD k []).getD i.toNatClampNeg 0) :: st) h Q) : E cx j d a pc loc (.int i :: .ref (30 + k) :: st) h Q := by
  intro p l e s m args below meth c h0 ad0 ad ls H locs nc ns mc ms hc h1 h2
  have hE := hc.2.1.2.2.2.2.2.1.1
  have e1 : ad (30 + k) = ad0 (30 + k) := hc.2.2.1.1 _ (by omega)
  have k2 := kk p l e s m args below meth c h0 ad0 ad ls H locs nc ns mc ms hc h1 h2
  rw [List.map_cons, List.map_cons, show cv ad (.ref (30 + k)) = .ref (ad0 (30 + k)) by simp [cv, e1]]
  exact va_tb hc.1.1 hc.1.2.1 (hE.1 k hk).2.2.2 hc.2.1.2.2.2.1 hin rfl hd k2
theorem e_gets1 (hd : decode (mcode j) pc = .ok (.getstatic 38, 3)) (hj : mcn j = 15) (kk : E cx j d a (pc + 3) loc (.int 1 :: st) h Q) : E cx j d a pc loc st h Q := by
  intro p l e s m args below meth c h0 ad0 ad ls H locs nc ns mc ms hc h1 h2
  have hown : s.vm.findClass RJ0 = some m.cls := by have q := hc.1.2.2.2.2.1; rw [hj] at q; exact q
  have k2 := kk p l e s m args below meth c h0 ad0 ad ls H locs nc ns mc ms hc h1 h2
  exact va_gets hc.1.1 hc.1.2.1 hc.2.1.2.2.2.2.2.2.2.1 hc.2.1.2.2.2.1 hown (hc.1.2.2.2.2.2.1 _ (gT_of jk_f0 rfl)) (fun x q => q) hd k2
theorem e_i2c {x : Int32} (hd : decode (mcode j) pc = .ok (.i2c, 1)) (k : E cx j d a (pc + 1) loc (.int (x.toUInt32 % 65536).toInt32 :: st) h Q) : E cx j d a pc loc (.int x :: st) h Q := by
  intro p l e s m args below meth c h0 ad0 ad ls H locs nc ns mc ms hc h1 h2
  exact lv_i2c hc.1.1 hc.1.2.1 hd rfl (k p l e s m args below meth c h0 ad0 ad ls H locs nc ns mc ms hc h1 h2)
theorem e_tret {v : Int32} {ty : FieldType} (hd : decode (mcode j) pc = .ok (.ireturn, 1)) (hr : mret j = some ty) (hn : narrow ty (.int v) = .int v) (hq : Q (some (.int v)) h) : E cx j d a pc loc [.int v] h Q := by
  intro p l e s m args below meth c h0 ad0 ad ls H locs nc ns mc ms hc h1 h2
  refine W.widen (k := mc) (n := ms) (by omega) (by omega) ?_
  exact W.zret hc.1.1 hc.1.2.1 (hc.1.2.2.1.trans hr) hn (fun t ht hW => q_end (r := some (.int v)) hc hq ht hW) hc.2.1.2.2.2.1.2.2 hd hc.1.2.2.2.2.2.2
/-- a call of one of String's own methods on a word -/
theorem e_callStr {idx j' hint k : Nat} {vs : List Value} {v : Value} (hd : decode (mcode j) pc = .ok (.invokevirtual idx, 3)) (hC : (mcn j, idx, j', 0, hint) ∈ tb_C) (hmk : mk_ok j' = true) (hmv : (decide (lw_tbl[(mh j').2.2.1]? = some (mw_inst j')) && decide (lw_tbl[(mh j').2.2.2.1]? = some (mw_sel j')) && decide ((my j').cls = RJ0)) = true) (hnp : (parseMethodDescriptor (my j').desc).map (fun q => q.parameters.length) = some vs.length) (hk : k < 26) (hsm : (st.map fun v => v.category).sum ≤ 8) (hd0 : 0 < d)
    (hM : M cx j' (d - 1) 0 (.ref (1 + k) :: vs) h (RQ v h)) (kk : E cx j d a (pc + 3) loc (v :: st) h Q) : E cx j d a pc loc (vs.reverse ++ .ref (1 + k) :: st) h Q := by
  intro p l e s m args below meth c h0 ad0 ad ls H locs nc ns mc ms hc h1 h2
  have hAA := hAA_of hc
  obtain ⟨w1, w2, w3, w4, w5, w6⟩ := mk_use hmk
  simp only [Bool.and_eq_true, decide_eq_true_eq] at hmv
  have hl := List.all_eq_true.mp tb_C_ok _ hC
  simp only [ct_ok, decide_eq_true_eq] at hl
  have hts := hc.1.2.2.2.2.2.1
  have e0 : ad (1 + k) = ad0 (1 + k) := hc.2.2.1.1 _ (by omega)
  have cb : CallB (rm d mc ms) s args (tb_RR (mcn j)) idx (my j') (mcode j') (mmax j') (mret j') (wsj j') (rm (d - 1) (3 * 0) (500 * 0)) (3 * 0) (500 * 0) vs.length :=
    callB_of vs.length hts (good_wsj hmk) (ws' := gT) rfl rfl rfl (hts _ w2) (hts _ (gT_of hl rfl)) ⟨w4.1, w4.2, hnp⟩ ⟨by show d - 1 + 1 ≤ d; omega, by show 8 + (mmax j' + 11) + 64 * (d - 1) ≤ 64 * d; omega⟩
  have run := va_runV (p := p) (l := l) (e := e) (below := below) (meth := meth) (locs := locs) (cells := nc) (slots := ns) (R := rm d mc ms) (H := H) (C := (my j').cls) (b := ad (1 + k)) (As := vs.map (cv ad)) (rest := st.map (cv ad)) (g := F0 m pc ls ((vs.reverse ++ .ref (1 + k) :: st).map (cv ad))) (Ts := gT) (own := tb_RR (mcn j)) (nL := mmax j) (cc := mcode j)
    ⟨hc.1.1, hc.1.2.1, hc.1.2.2.2.1, hc.1.2.2.2.2.1, hts⟩ (hM l ad H.size) ⟨cb, hts _ (gT_of hmv.1.1 rfl), hts _ (gT_of hmv.1.2 rfl)⟩
    ⟨blind, by
      obtain ⟨cell, z1, z2, z3⟩ := vk_recv hc.2.1.2.2.2.2.2.1.1 hk hc.2.1.2.2.2.1
      exact ⟨cell, by rw [e0]; exact z1, z2, by rw [hmv.2]; exact z3⟩, fun U hU hW => ⟨rfl, by rw [hU], by rw [hU]; exact hc.2.1.2.1, va_K.moved hW.alike hc.2.1.1, hc.2.1.2.2.1.weaken (fun _ _ _ _ => trivial), wst_call hc.2.1.2.2.2.2 (fun o ho => hc.2.2.1.1 o (by omega)) hc.2.1.2.2.2.1 hAA hU hW⟩⟩
    rfl (by simp) hc.2.2.2.1 (by simp [cv, List.map_reverse]) (lv_room (by
      have : ((st.map (cv ad)).map fun v => v.category) = st.map fun v => v.category := by rw [List.map_map]; exact List.map_congr_left (fun v _ => cv_cat ad v)
      rw [this]; exact hsm)) hd ⟨by show nc + 3 * 0 ≤ mc; omega, by show ns + 500 * 0 ≤ ms; omega⟩
  exact e_back (j' := j') (a' := 0) (vs := vs) (Q' := RQ v h) (Nat.zero_le _) (Or.inr fun r g q => by rw [q.2]) (fun r g q => by obtain ⟨rfl, rfl⟩ := q; exact kk) hc h1 h2 hAA run
theorem m_coder {k : Nat} (hk : k < 26) : M cx 243 d a [.ref (1 + k)] h (RQ (.int 0) h) := by
  have c15 : mcn 243 = 15 := by have := jk_cn; simp only [List.cons.injEq] at this; exact this.2.2.1
  have mx : mmax 243 = 1 := by have := jk_mx; simp only [List.cons.injEq] at this; exact this.2.2.1
  have re : mret 243 = some .byte := by have := jk_re; simp only [List.cons.injEq] at this; exact this.2.2.1
  have dc := fun q hq => dx_ok dj243 q hq
  refine m_of (List.all_eq_true.mp jk_ok 243 (by simp)) (by rw [mx]; exact Nat.le_refl _) ?_
  refine e_gets1 (dc (0, .getstatic 38, 3) (by simp)) c15 ?_
  refine e_if_eq (tgt := 13) (dc (3, .ifCond .eq 10, 3) (by simp)) (by decide) (fun z => absurd z (by decide)) (fun _ => ?_)
  refine e_aload_n (x := 1 + k) (dc (6, .aload_n 0, 1) (by simp)) rfl ?_
  refine e_strC (dc (7, .getfield 15, 3) (by simp)) c15 hk ?_
  refine e_goto (tgt := 14) (dc (10, .goto 4, 3) (by simp)) (by decide) ?_
  exact e_tret (dc (14, .ireturn, 1) (by simp)) re (by decide) ⟨rfl, rfl⟩
theorem m_isLatin1 {k : Nat} (hk : k < 26) : M cx 244 d a [.ref (1 + k)] h (RQ (.int 1) h) := by
  have c15 : mcn 244 = 15 := by have := jk_cn; simp only [List.cons.injEq] at this; exact this.2.2.2.1
  have mx : mmax 244 = 1 := by have := jk_mx; simp only [List.cons.injEq] at this; exact this.2.2.2.1
  have re : mret 244 = some .boolean := by have := jk_re; simp only [List.cons.injEq] at this; exact this.2.2.2.1
  have dc := fun q hq => dx_ok dj244 q hq
  refine m_of (List.all_eq_true.mp jk_ok 244 (by simp)) (by rw [mx]; exact Nat.le_refl _) ?_
  refine e_gets1 (dc (0, .getstatic 38, 3) (by simp)) c15 ?_
  refine e_if_eq (tgt := 17) (dc (3, .ifCond .eq 14, 3) (by simp)) (by decide) (fun z => absurd z (by decide)) (fun _ => ?_)
  refine e_aload_n (x := 1 + k) (dc (6, .aload_n 0, 1) (by simp)) rfl ?_
  refine e_strC (dc (7, .getfield 15, 3) (by simp)) c15 hk ?_
  refine e_if_ne (tgt := 17) (dc (10, .ifCond .ne 7, 3) (by simp)) (by decide) (fun z => absurd rfl z) (fun _ => ?_)
  refine e_iconst (dc (13, .iconst 1, 1) (by simp)) rfl ?_
  refine e_goto (tgt := 18) (dc (14, .goto 4, 3) (by simp)) (by decide) ?_
  exact e_tret (dc (18, .ireturn, 1) (by simp)) re (by decide) ⟨rfl, rfl⟩
theorem tx_sh : ∀ k, k < 26 → (Int32.ofNat (tx_len.getD k 0)) >>> ((0 : Int32) &&& 31) = Int32.ofNat (tx_len.getD k 0) := by decide +kernel
theorem m_strLen (hd : 1 ≤ d) {k : Nat} (hk : k < 26) : M cx 241 d a [.ref (1 + k)] h (RQ (.int (Int32.ofNat (tx_len.getD k 0))) h) := by
  have c15 : mcn 241 = 15 := by have := jk_cn; simp only [List.cons.injEq] at this; exact this.1
  have mx : mmax 241 = 1 := by have := jk_mx; simp only [List.cons.injEq] at this; exact this.1
  have re : mret 241 = some .int := by have := jk_re; simp only [List.cons.injEq] at this; exact this.1
  have dc := fun q hq => dx_ok dj241 q hq
  refine m_of (List.all_eq_true.mp jk_ok 241 (by simp)) (by rw [mx]; exact Nat.le_refl _) ?_
  refine e_aload_n (x := 1 + k) (dc (0, .aload_n 0, 1) (by simp)) rfl ?_
  refine e_strV (dc (1, .getfield 9, 3) (by simp)) c15 hk ?_
  refine e_strL (dc (4, .arraylength, 1) (by simp)) hk ?_
  refine e_aload_n (x := 1 + k) (dc (5, .aload_n 0, 1) (by simp)) rfl ?_
  refine e_callStr (vs := []) (v := .int 0) (hint := 552) (dc (6, .invokevirtual 335, 3) (by simp)) (by rw [c15]; decide +kernel) (List.all_eq_true.mp jk_ok 243 (by simp)) (List.all_eq_true.mp jk_in 243 (by simp)) (use_np (by decide)) hk (Nat.le_of_ble_eq_true rfl) (by omega) (m_coder hk) ?_
  refine e_ishr (dc (9, .ishr, 1) (by simp)) ?_
  rw [tx_sh k hk]
  exact e_tret (dc (10, .ireturn, 1) (by simp)) re rfl ⟨rfl, rfl⟩
end T99990
