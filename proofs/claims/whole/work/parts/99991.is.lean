/-! String.charAt of the words; the reader's `is` -/
section T99991
variable {cx : Cx} {j d a pc : Nat} {loc : Lc} {st : List Value} {h : Hp} {Q : Option Value → Hp → Prop}
/-- Preconditions.checkIndex with whatever formatter -/
theorem met_251 {i n : Int32} {w : Value} (hw : w.category = 1) (h0 : ¬ i < 0) (h1 : i < n) (l : Launch) (ad : Nat → Nat) (sz : Nat) : Met l (my 251) (wsj 251) (rm d (3 * 0) (500 * 0)) (va_Pc [.int i, .int n, w] (fun U => U.heap.size = sz ∧ va_P (cxD cx) vwCl (cls cx ad h) U.heap ∧ va_K (cxD cx) vwCl (tys cx) U ∧ va_D (fun _ => True) (cls cx ad h) ∧ Wst cx ad (va_A (cls cx ad h) sz) U U.heap)) (QQ cx ad h sz (RQ (.int i) h)) (3 * 0) (500 * 0) (va_A (cls cx ad h) sz) := by
  have mx : mmax 251 = 3 := by have := jk_mx; simp only [List.cons.injEq] at this; exact this.2.2.2.2.2.2.1
  have re : mret 251 = some .int := by have := jk_re; simp only [List.cons.injEq] at this; exact this.2.2.2.2.2.2.1
  have dc := fun q hq => dx_ok dj251 q hq
  have k : E cx 251 d 0 0 [some (.int i), some (.int n), none] [] h (RQ (.int i) h) := by
    refine e_iload_n (x := i) (dc (0, .iload_n 0, 1) (by simp)) rfl ?_
    refine e_if_lt (tgt := 9) (dc (1, .ifCond .lt 8, 3) (by simp)) (by decide) (fun z => absurd z h0) (fun _ => ?_)
    refine e_iload_n (x := i) (dc (4, .iload_n 0, 1) (by simp)) rfl ?_
    refine e_iload_n (x := n) (dc (5, .iload_n 1, 1) (by simp)) rfl ?_
    refine e_icmp_lt (tgt := 16) (dc (6, .if_icmp .lt 10, 3) (by simp)) (by decide) (fun _ => ?_) (fun z => absurd h1 z)
    refine e_iload_n (x := i) (dc (16, .iload_n 0, 1) (by simp)) rfl ?_
    exact e_tret (dc (17, .ireturn, 1) (by simp)) re rfl ⟨rfl, rfl⟩
  obtain ⟨w1, w2, w3, w4, w5, w6⟩ := mk_use (List.all_eq_true.mp jk_ok 251 (by simp))
  refine Met.ofW (cc := mcode 251) (maxL := mmax 251) (ret := mret 251) w6 (ws' := gT) rfl ?_
  intro p e s m args below meth c s₁ B hml hv
  obtain ⟨rfl, hsz, hP, hK, hD0, hWst⟩ := hv
  have hts := atoms_spec (ws := wsj 251) B.pre
  have hown : s.vm.findClass (my 251).cls = some m.cls := findClass_of_methodNamed B.named
  subst hsz
  have hl := lv_entry [Value.int i, .int n, w] (n := mmax 251) (by
    have ci : ∀ z : Int32, ¬ (Value.int z).category = 2 := fun z => by intro q; cases q
    have cw : ¬ w.category = 2 := by rw [hw]; decide
    rw [mx]; simp only [lg_sl, List.flatMap_cons, List.flatMap_nil, if_neg (ci _), if_neg cw]; exact Nat.le_refl _)
  rw [lg_entry_eq]
  generalize (lg_sl [Value.int i, .int n, w] ++ List.replicate (mmax 251 - (lg_sl [Value.int i, .int n, w]).length) Slot.unset).toArray = ls at hl ⊢
  have hlv : lvok ad ls (mmax 251) [some (.int i), some (.int n), none] := ⟨hl.1, hl.2.1, fun q v hv => by
    match q, hv with
    | 0, hv => cases hv; exact hl.2.2 (0, Value.int i) (by simp [lv_args])
    | 1, hv => cases hv; exact hl.2.2 (1, Value.int n) (by simp [lv_args, Value.category])
    | 2, hv => simp [lnth] at hv
    | q + 3, hv => simp [lnth] at hv⟩
  exact k p l e s m _ below meth c h ad ad ls s.heap [] 0 0 (3 * 0) (500 * 0) ⟨⟨B.exec, B.bytes, B.returns, hml, by rw [w5]; exact hown, fun w hw => hts w (List.mem_cons_of_mem _ hw), B.notSynchronized⟩, ⟨hK, hP, hD0.self, va_S.rf, hWst⟩, ⟨fun _ _ => rfl, Nat.le_refl _, fun _ => rfl⟩, hlv⟩ (by omega) (by omega)
theorem blindR {ad : Nat → Nat} {vs : List Value} {sz : Nat} : FrameBlind (va_Pc vs (fun U => U.heap.size = sz ∧ va_P (cxD cx) vwCl (cls cx ad h) U.heap ∧ va_K (cxD cx) vwCl (tys cx) U ∧ va_D (fun _ => True) (cls cx ad h) ∧ Wst cx ad (va_A (cls cx ad h) sz) U U.heap)) := by
  intro av U g mk q
  obtain ⟨q1, q2, q3, q4, q5, q6⟩ := q
  exact ⟨q1, q2, q3, va_K.moved (u := U) (U := U.calling g mk av) (Vm.Alike.refl U.vm) q4, q5, wst_calling q6⟩
theorem m_check (hd : 1 ≤ d) {i n : Int32} (h0 : ¬ i < 0) (h1 : i < n) : M cx 245 d a [.int i, .int n] h (RV h) := by
  have c15 : mcn 245 = 15 := by have := jk_cn; simp only [List.cons.injEq] at this; exact this.2.2.2.2.1
  have mx : mmax 245 = 2 := by have := jk_mx; simp only [List.cons.injEq] at this; exact this.2.2.2.2.1
  have re : mret 245 = none := by have := jk_re; simp only [List.cons.injEq] at this; exact this.2.2.2.2.1
  have dc := fun q hq => dx_ok dj245 q hq
  refine m_of (List.all_eq_true.mp jk_ok 245 (by simp)) (by rw [mx]; exact Nat.le_refl _) ?_
  refine e_iload_n (x := i) (dc (0, .iload_n 0, 1) (by simp)) rfl ?_
  refine e_iload_n (x := n) (dc (1, .iload_n 1, 1) (by simp)) rfl ?_
  have last : E cx 245 d (a - 0) (5 + 3) (lent [Value.int i, .int n]) [.int i] h (RV h) := e_pop (dc (8, .pop, 1) (by simp)) rfl (e_vret (dc (9, .return_, 1) (by simp)) re ⟨rfl, rfl⟩)
  intro p l e s m args below meth c h0' ad0 ad ls H locs nc ns mc ms hc q1 q2
  have hown : s.vm.findClass RJ0 = some m.cls := by have q := hc.1.2.2.2.2.1; rw [c15] at q; exact q
  obtain ⟨w, hw, hZ⟩ : ∃ w : Value, w.category = 1 ∧ va_Z RJ3 "SIOOBE_FORMATTER" "Ljava/util/function/BiFunction;" w (va_A (cls cx ad0 h0') s.heap.size) s s.heap := by
    rcases hc.2.1.2.2.2.2.2.2.2.2 with z | ⟨t, z⟩
    · exact ⟨_, rfl, z⟩
    · exact ⟨_, rfl, z⟩
  have hAA := hAA_of hc
  obtain ⟨w1, w2, w3, w4, w5, w6⟩ := mk_use (List.all_eq_true.mp jk_ok 251 (by simp))
  have hms := List.all_eq_true.mp jk_st 251 (by simp)
  simp only [mk_s, decide_eq_true_eq] at hms
  have hl := List.all_eq_true.mp tb_C_ok (15, 1059, 251, 1, 574) (by decide +kernel)
  simp only [ct_ok, decide_eq_true_eq] at hl
  have hts := hc.1.2.2.2.2.2.1
  have hnp := use_np (k := 251) (by decide)
  have cb : CallB (rm d mc ms) s args RJ0 1059 (my 251) (mcode 251) (mmax 251) (mret 251) (wsj 251) (rm (d - 1) (3 * 0) (500 * 0)) (3 * 0) (500 * 0) 3 :=
    callB_of 3 hts (good_wsj (List.all_eq_true.mp jk_ok 251 (by simp))) (ws' := gT) rfl rfl rfl (hts _ w2) (hts _ (gT_of hl rfl)) ⟨w4.1, w4.2, hnp⟩ ⟨by show d - 1 + 1 ≤ d; omega, by show 8 + (mmax 251 + 11) + 64 * (d - 1) ≤ 64 * d; omega⟩
  have run := va_runS (p := p) (l := l) (e := e) (below := below) (meth := meth) (locs := locs) (cells := nc) (slots := ns) (R := rm d mc ms) (H := H) (As := [.int i, .int n, w]) (rest := []) (g := F0 m 5 ls [w, .int n, .int i]) (Ts := gT) (own := RJ0) (nL := mmax 245) (cc := mcode 245)
    ⟨hc.1.1, hc.1.2.1, hc.1.2.2.2.1, hown, hts⟩ (met_251 (cx := cx) (d := d - 1) (h := h) hw h0 h1 l ad H.size) ⟨cb, hts _ (gT_of hms rfl)⟩
    ⟨blindR, fun U hU hW => ⟨rfl, by rw [hU], by rw [hU]; exact hc.2.1.2.1, va_K.moved hW.alike hc.2.1.1, hc.2.1.2.2.1.weaken (fun _ _ _ _ => trivial), wst_call hc.2.1.2.2.2.2 (fun o ho => hc.2.2.1.1 o (by omega)) hc.2.1.2.2.2.1 hAA hU hW⟩⟩
    rfl rfl hc.2.2.2.1 rfl (lv_room (Nat.zero_le _)) (dc (5, .invokestatic 1059, 3) (by simp)) ⟨by show nc + 3 * 0 ≤ mc; omega, by show ns + 500 * 0 ≤ ms; omega⟩
  refine va_gets hc.1.1 hc.1.2.1 hZ hc.2.1.2.2.2.1 hown (hc.1.2.2.2.2.2.1 _ (gT_of jk_f1 rfl)) (fun x q => q) (dc (2, .getstatic 1053, 3) (by simp)) ?_
  exact e_back (st := []) (j' := 251) (a' := 0) (vs := []) (Q' := RQ (.int i) h) (Nat.zero_le _) (Or.inr fun r g q => by rw [q.2]) (fun r g q => by obtain ⟨rfl, rfl⟩ := q; exact last) hc q1 q2 hAA run
theorem tx_ch : ∀ k, k < 26 → tx_len.getD k 0 < 8 ∧ ∀ i, i < tx_len.getD k 0 → (((tx_byt.getD k []).getD i 0 &&& 255).toUInt32 % 65536).toInt32 = (tx_byt.getD k []).getD i 0 ∧ narrow .char (.int ((tx_byt.getD k []).getD i 0)) = .int ((tx_byt.getD k []).getD i 0) := by decide +kernel
theorem m_latinAt (hd : 2 ≤ d) {k i : Nat} (hk : k < 26) (hi : i < tx_len.getD k 0) : M cx 246 d a [.ref (30 + k), .int (nI i)] h (RQ (.int ((tx_byt.getD k []).getD i 0)) h) := by
  have c16 : mcn 246 = 16 := by have := jk_cn; simp only [List.cons.injEq] at this; exact this.2.2.2.2.2.1
  have mx : mmax 246 = 2 := by have := jk_mx; simp only [List.cons.injEq] at this; exact this.2.2.2.2.2.1
  have re : mret 246 = some .char := by have := jk_re; simp only [List.cons.injEq] at this; exact this.2.2.2.2.2.1
  have dc := fun q hq => dx_ok dj246 q hq
  obtain ⟨t1, t2⟩ := tx_ch k hk
  obtain ⟨t3, t4⟩ := t2 i hi
  refine m_of (List.all_eq_true.mp jk_ok 246 (by simp)) (by rw [mx]; exact Nat.le_refl _) ?_
  refine e_iload_n (x := nI i) (dc (0, .iload_n 1, 1) (by simp)) rfl ?_
  refine e_aload_n (x := 30 + k) (dc (1, .aload_n 0, 1) (by simp)) rfl ?_
  refine e_strL (dc (2, .arraylength, 1) (by simp)) hk ?_
  refine e_callS (st := []) (vs := [.int (nI i), .int (Int32.ofNat (tx_len.getD k 0))]) (a' := 0) (Q' := RV h) (hint := 569) (dc (3, .invokestatic 9, 3) (by simp)) (by rw [c16]; decide +kernel) (List.all_eq_true.mp jk_ok 245 (by simp)) (List.all_eq_true.mp jk_st 245 (by simp)) (use_np (by decide)) (Nat.zero_le _) (by omega) (Nat.zero_le _) (Or.inr fun r g q => by rw [q.2]) (m_check (by omega) (nI_pos (by omega)) (nI_lt hi (by omega))) (fun r g q => ?_)
  obtain ⟨rfl, rfl⟩ := q
  refine e_aload_n (x := 30 + k) (dc (6, .aload_n 0, 1) (by simp)) rfl ?_
  refine e_iload_n (x := nI i) (dc (7, .iload_n 1, 1) (by simp)) rfl ?_
  refine e_strB (dc (8, .baload, 1) (by simp)) hk (vp_in_nI hi (by omega)) ?_
  refine e_sipush (v := 255) (dc (9, .sipush 255, 3) (by simp)) (by decide) ?_
  refine e_iand (dc (12, .iand, 1) (by simp)) ?_
  refine e_i2c (dc (13, .i2c, 1) (by simp)) ?_
  rw [nI_clamp (by omega), t3]
  exact e_tret (dc (14, .ireturn, 1) (by simp)) re t4 ⟨rfl, rfl⟩
theorem m_charAt (hd : 3 ≤ d) {k i : Nat} (hk : k < 26) (hi : i < tx_len.getD k 0) : M cx 242 d a [.ref (1 + k), .int (nI i)] h (RQ (.int ((tx_byt.getD k []).getD i 0)) h) := by
  have c15 : mcn 242 = 15 := by have := jk_cn; simp only [List.cons.injEq] at this; exact this.2.1
  have mx : mmax 242 = 2 := by have := jk_mx; simp only [List.cons.injEq] at this; exact this.2.1
  have re : mret 242 = some .char := by have := jk_re; simp only [List.cons.injEq] at this; exact this.2.1
  have dc := fun q hq => dx_ok dj242 q hq
  obtain ⟨t3, t4⟩ := (tx_ch k hk).2 i hi
  refine m_of (List.all_eq_true.mp jk_ok 242 (by simp)) (by rw [mx]; exact Nat.le_refl _) ?_
  refine e_aload_n (x := 1 + k) (dc (0, .aload_n 0, 1) (by simp)) rfl ?_
  refine e_callStr (st := []) (vs := []) (v := .int 1) (hint := 562) (dc (1, .invokevirtual 492, 3) (by simp)) (by rw [c15]; decide +kernel) (List.all_eq_true.mp jk_ok 244 (by simp)) (List.all_eq_true.mp jk_in 244 (by simp)) (use_np (by decide)) hk (Nat.zero_le _) (by omega) (m_isLatin1 hk) ?_
  refine e_if_eq (tgt := 16) (dc (4, .ifCond .eq 12, 3) (by simp)) (by decide) (fun z => absurd z (by decide)) (fun _ => ?_)
  refine e_aload_n (x := 1 + k) (dc (7, .aload_n 0, 1) (by simp)) rfl ?_
  refine e_strV (dc (8, .getfield 9, 3) (by simp)) c15 hk ?_
  refine e_iload_n (x := nI i) (dc (11, .iload_n 1, 1) (by simp)) rfl ?_
  refine e_callS (st := []) (vs := [.ref (30 + k), .int (nI i)]) (a' := 0) (Q' := RQ (.int ((tx_byt.getD k []).getD i 0)) h) (hint := 566) (dc (12, .invokestatic 495, 3) (by simp)) (by rw [c15]; decide +kernel) (List.all_eq_true.mp jk_ok 246 (by simp)) (List.all_eq_true.mp jk_st 246 (by simp)) (use_np (by decide)) (Nat.zero_le _) (by omega) (Nat.zero_le _) (Or.inr fun r g q => by rw [q.2]) (m_latinAt (by omega) hk hi) (fun r g q => ?_)
  obtain ⟨rfl, rfl⟩ := q
  exact e_tret (dc (15, .ireturn, 1) (by simp)) re t4 ⟨rfl, rfl⟩
/-- the letters from s to e are the word's -/
def wIs (b : Nat → Int32) (s e k : Nat) : Prop := e - s = tx_len.getD k 0 ∧ ∀ i, i < tx_len.getD k 0 → b (s + i) = (tx_byt.getD k []).getD i 0
def bis28 : List Ins := [(.aload_n 0, 0, 0, 0, 0), (.getfield 22, 5, 2, 0, 0), (.aload_n 0, 0, 0, 0, 0), (.getfield 54, 5, 4, 0, 0), (.iload_n 2, 0, 0, 0, 0), (.iadd, 0, 0, 0, 0), (.invokevirtual 156, 68, 1, 8, 0), (.aload_n 1, 0, 0, 0, 0), (.iload_n 2, 0, 0, 0, 0)]
theorem kis28 : chk 50 bis28 28 = true := by decide +kernel
theorem m_is (hd : 4 ≤ d) {b : Nat → Int32} {s e k : Nat} (hk : k < 26) (e4 : hI h o_reader 4 = nI s) (e5 : hI h o_reader 5 = nI e) (hs : s ≤ e) (he : e ≤ 400) (hB : ∀ j, j < 400 → hI h o_tape_bytes j = b j) : M cx jX5_is d a [.ref o_reader, .ref (1 + k)] h (RQ (.int (b2i (wIs b s e k))) h) := by
  have c5 : mcn 50 = 5 := by have := jk_cn; simp only [List.cons.injEq] at this; exact this.2.2.2.2.2.2.2.1
  have re : mret 50 = some .boolean := by decide +kernel
  have dc := fun q hq => dx_ok dj50 q hq
  obtain ⟨t1, t2⟩ := tx_ch k hk
  have bt : ∀ {i : Int32} (j : Nat), i = nI j → j < 400 → M cx jX8_byteAt (d - 1) 0 [.ref o_tape, .int i] h (RQ (.int (b j)) h) := fun {i} j ei hj => by
    refine M_mono m_byteAt ?_
    rintro r g ⟨rfl, rfl⟩
    refine ⟨?_, rfl⟩
    rw [ei, if_pos ⟨nI_pos' (by omega), nI_lt (b := 400) hj (by decide)⟩, nI_clamp (by omega), hB j hj]
  have len : ∀ {pc : Nat} {loc : Lc} {st : List Value}, decode (mcode 50) pc = .ok (.invokevirtual 170, 3) → (st.map fun v => v.category).sum ≤ 8 → E cx 50 d a (pc + 3) loc (.int (nI (tx_len.getD k 0)) :: st) h (RQ (.int (b2i (wIs b s e k))) h) → E cx 50 d a pc loc (.ref (1 + k) :: st) h (RQ (.int (b2i (wIs b s e k))) h) := fun {pc loc st} hd' hs' kk =>
    e_callStr (vs := []) (v := .int (nI (tx_len.getD k 0))) (hint := 548) hd' (by rw [c5]; decide +kernel) (List.all_eq_true.mp jk_ok 241 (by simp)) (List.all_eq_true.mp jk_in 241 (by simp)) (use_np (by decide)) hk hs' (by omega) (m_strLen (by omega) hk) kk
  have no : ∀ {pc : Nat} {loc : Lc}, decode (mcode 50) pc = .ok (.iconst 0, 1) → decode (mcode 50) (pc + 1) = .ok (.ireturn, 1) → ¬ wIs b s e k → E cx 50 d a pc loc [] h (RQ (.int (b2i (wIs b s e k))) h) := fun {pc loc} h1 h2 z =>
    e_iconst (v := 0) h1 rfl (e_tret h2 re (by decide) (RQ_eq (b2i_f z).symm))
  have loop : e - s = tx_len.getD k 0 → ∀ m i, m + i = tx_len.getD k 0 → (∀ i', i' < i → b (s + i') = (tx_byt.getD k []).getD i' 0) → E cx 50 d a 20 [some (.ref o_reader), some (.ref (1 + k)), some (.int (nI i))] [] h (RQ (.int (b2i (wIs b s e k))) h) := by
    intro el m
    induction m with
    | zero =>
      intro i hi all
      obtain rfl : i = tx_len.getD k 0 := by omega
      refine eX5_is (len (dc (22, .invokevirtual 170, 3) (by simp)) (Nat.le_of_ble_eq_true rfl) ?_)
      refine e_icmp_ge (tgt := 57) (dc (25, .if_icmp .ge 32, 3) (by simp)) (by decide) (fun _ => ?_) (fun z => absurd (Int32.le_refl _) z)
      exact eX5_is (And.intro (Or.inr rfl) (RQ_eq (b2i_t ⟨el, all⟩).symm))
    | succ m ih =>
      intro i hi all
      refine eX5_is (len (dc (22, .invokevirtual 170, 3) (by simp)) (Nat.le_of_ble_eq_true rfl) ?_)
      refine e_icmp_ge (tgt := 57) (dc (25, .if_icmp .ge 32, 3) (by simp)) (by decide) (fun z => absurd z (nI_ge (by omega) (by omega))) (fun _ => ?_)
      have bs := bt (s + i) (by show hI h o_reader 4 + nI i = _; rw [e4, nI_add]) (by omega)
      refine wp_ok _ _ _ _ _ _ kis28 (wcV bs ?_)
      have go : E cx 50 d a 46 [some (.ref o_reader), some (.ref (1 + k)), some (.int (nI i))] [.int ((tx_byt.getD k []).getD i 0), .int (b (s + i))] h (RQ (.int (b2i (wIs b s e k))) h) := by
        refine e_icmp_eq (tgt := 51) (dc (46, .if_icmp .eq 5, 3) (by simp)) (by decide) (fun z => ?_) (fun z => ?_)
        · have i2 := ih (i + 1) (by omega) (fun i' h' => by
            by_cases q : i' = i
            · rw [q]; exact z
            · exact all i' (by omega))
          rw [nI_succ] at i2
          exact eX5_is i2
        · exact no (dc (49, .iconst 0, 1) (by simp)) (dc (50, .ireturn, 1) (by simp)) (fun q => z (q.2 i (by omega)))
      exact e_callStr (st := [.int (b (s + i))]) (vs := [.int (nI i)]) (v := .int ((tx_byt.getD k []).getD i 0)) (hint := 558) (dc (43, .invokevirtual 174, 3) (by simp)) (by rw [c5]; decide +kernel) (List.all_eq_true.mp jk_ok 242 (by simp)) (List.all_eq_true.mp jk_in 242 (by simp)) (use_np (by decide)) hk (Nat.le_of_ble_eq_true rfl) (by omega) (m_charAt (by omega) hk (by omega)) go
  refine sX5_is rfl (len (dc (10, .invokevirtual 170, 3) (by simp)) (Nat.le_of_ble_eq_true rfl) ?_)
  have sub : hI h o_reader 5 - hI h o_reader 4 = nI (e - s) := by rw [e4, e5]; exact pk_sub hs
  refine e_icmp_eq (tgt := 18) (dc (13, .if_icmp .eq 5, 3) (by simp)) (by decide) (fun z => ?_) (fun z => ?_)
  · have el : e - s = tx_len.getD k 0 := (nI_eq (by omega) (by omega)).mp (sub.symm.trans z)
    exact eX5_is (loop el (tx_len.getD k 0) 0 rfl (fun i' h' => absurd h' (Nat.not_lt_zero _)))
  · exact no (dc (16, .iconst 0, 1) (by simp)) (dc (17, .ireturn, 1) (by simp)) (fun q => z (by show hI h o_reader 5 - hI h o_reader 4 = _; rw [sub, q.1]))
end T99991
