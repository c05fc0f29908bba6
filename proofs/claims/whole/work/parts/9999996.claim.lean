/-! the law from its start to its end -/
def wF1 (cx : Cx) (F : Nat → Nat × va_E) (x y : Nat) : Prop := ∃ a1 a2 a3 a4 a5 a6 a7 a8 a9 a10 a11 a12 a13 a14 a15 a16 a17 a18 a19 a20 a21 a22 a23 a24 a25 a26 a27 a28 a29 a30 a31 a32 a33 a34 a35 a36 a37 a38 a39 b1 b2 b3 b4 b5 b6 b7 b8 b9 b10 b11 b12 b13 b14 b15 b16 b17 b18 b19 b20 b21, wF0 cx F x a1 a2 a3 a4 a5 a6 a7 a8 a9 a10 a11 a12 a13 a14 a15 a16 a17 a18 a19 a20 a21 a22 a23 a24 a25 a26 a27 a28 a29 a30 a31 a32 a33 a34 a35 a36 a37 a38 a39 y b1 b2 b3 b4 b5 b6 b7 b8 b9 b10 b11 b12 b13 b14 b15 b16 b17 b18 b19 b20 b21
theorem st_F {cx : Cx} {F : Nat → Nat × va_E} {b : Nat} {adK adV : Nat → Nat} {x y : Nat} (q : wF1 cx F x y) : (∀ k, k < 62 → (adS F b adK adV (64 + k), cE cx (adS F b adK adV) H0 (64 + k)) = F (pI (64 + k))) ∧ (F 0).1 = x ∧ (F 40).1 = y := by
  obtain ⟨a1, a2, a3, a4, a5, a6, a7, a8, a9, a10, a11, a12, a13, a14, a15, a16, a17, a18, a19, a20, a21, a22, a23, a24, a25, a26, a27, a28, a29, a30, a31, a32, a33, a34, a35, a36, a37, a38, a39, b1, b2, b3, b4, b5, b6, b7, b8, b9, b10, b11, b12, b13, b14, b15, b16, b17, b18, b19, b20, b21, q⟩ := q
  refine ⟨st_cls q, ?_, ?_⟩
  · rw [q.1]
  · rw [q.2.2.2.2.2.2.2.2.2.2.2.2.2.2.2.2.2.2.2.2.2.2.2.2.2.2.2.2.2.2.2.2.2.2.2.2.2.2.2.2.1]
theorem pI_inj : ∀ i, i < 62 → ∀ j, j < 62 → pI (64 + i) = pI (64 + j) → i = j := by decide +kernel
theorem pI_lt : ∀ i, i < 62 → pI (64 + i) < 62 := by decide +kernel
theorem adS_K {F : Nat → Nat × va_E} {b : Nat} {adK adV : Nat → Nat} {k : Nat} (hk : k < 29) : adS F b adK adV (1 + k) = adK k := by
  unfold adS
  rw [if_neg (by omega), if_pos (by omega), show 1 + k - 1 = k by omega]
theorem adS_V {F : Nat → Nat × va_E} {b : Nat} {adK adV : Nat → Nat} {k : Nat} (hk : k < 34) : adS F b adK adV (30 + k) = adV k := by
  unfold adS
  rw [if_neg (by omega), if_neg (by omega), if_pos (by omega), show 30 + k - 30 = k by omega]
/-- what the start gives -/
def St (cx : Cx) (b : Nat) (adK adV : Nat → Nat) (s : State) : Prop :=
  (va_X b (cxL cx) (cxX cx) s s.heap ∧ b < s.heap.size) ∧
  (vk_S 26 tx_len tx_byt adK adV (fun q => s.heap.size ≤ q) s s.heap ∧ ∀ (k : Nat) (q : Nat × String), tb_S[k]? = some q → vk_R RX5 q.1 q.2 (adK k) s) ∧
  (∀ q ∈ tb_C, q.2.2.2.1 = 2 → va_Nw (mn_w q) s) ∧
  (va_Z RJ0 "COMPACT_STRINGS" "Z" (.int 1) (fun q => s.heap.size ≤ q) s s.heap ∧ va_Zq RJ3 "SIOOBE_FORMATTER" "Ljava/util/function/BiFunction;" (fun q => s.heap.size ≤ q) s s.heap)
theorem st_wst {cx : Cx} {F : Nat → Nat × va_E} {b : Nat} {adK adV : Nat → Nat} {s : State} (h : St cx b adK adV s) : Wst cx (adS F b adK adV) (fun q => s.heap.size ≤ q) s s.heap := by
  obtain ⟨⟨h1, h2⟩, ⟨h3, h4⟩, h5, h6⟩ := h
  refine ⟨⟨h1, h2, Nat.not_le.mpr h2⟩, ⟨⟨fun i hi => ?_, fun i j hi hj e => ?_⟩, fun k q hk => ?_⟩, h5, h6⟩
  · have z := h3.1 i hi
    show va_O "java/lang/String" (adS F b adK adV (1 + i)) _ s s.heap ∧ va_OF "java/lang/String" "coder" "B" (.int 0) (adS F b adK adV (1 + i)) _ s s.heap ∧ va_OF "java/lang/String" "value" "[B" (.ref (adS F b adK adV (30 + i))) (adS F b adK adV (1 + i)) _ s s.heap ∧ va_T .byte (adS F b adK adV (30 + i)) _ _ _ s s.heap
    rw [adS_K (by omega), adS_V (by omega)]
    exact z
  · have e : adS F b adK adV (1 + i) = adS F b adK adV (1 + j) := e
    rw [adS_K (by omega), adS_K (by omega)] at e
    exact h3.2 i j hi hj e
  · have hl : k < 26 := (List.getElem?_eq_some_iff.mp hk).1
    rw [adS_K (by omega)]
    exact h4 k q hk
def R_law : String := "FiveTouchLaw"
def lw_P (b : Addr) (xs : List Int32) (args : Array Value) (s : State) : Prop := args = #[.ref b] ∧ s.IntsAt b xs ∧ xs.length ≤ 3072 ∧ (Jvm.Cond.and given_1 narrow_1).before args s = true
def lw_Q (_ : Array Value) (s : State) (o : Outcome) (t : State) : Prop := o = .returned (some (.int 1)) ∧ Framed s o t [] 600000 7302250
def lw_Z (below : List Frame) (a : Array Value) (s : State) : State → Prop := fun t => ∃ o, t.status = .running ∧ Ended t below o ∧ lw_Q a s o t
/-- the law's own end, with 1 on the stack, nothing written that was there before, its room as the claim has it -/
theorem lw_ret {p : Program} {l : Launch} {e : Jvm.Env} {s : State} {m : MethodId} {below : List Frame} {meth : Method} {c : Code} {b : Nat} (hx : p.tables.exec = Jvm.exec) (hb : c.code = code) (hr : meth.sig.returnType = ret) (hlocks : meth.locks = false) {pc : Nat} {H : Heap} {ls : Array Slot} (hdg : decode code pc = .ok (.ireturn, 1)) : W p l e room_1 s m #[Value.ref b] below meth c H [] 600000 7302250 (lw_Z below #[Value.ref b] s) (F0 m pc ls [.int 1]) := by
  intro T hT X
  obtain ⟨fs, hret, hrun, hended, hW, hframe⟩ := X.leave (v := some (.int 1)) (hlocks := hlocks) (fun h => by rw [hr] at h; cases h)
  have hmeth' : T.vm.method? m = some meth := X.method'
  refine ⟨T.setFrames fs, ?_, .returned (some (.int 1)), hrun, hended, rfl, ⟨_, rfl⟩, hW, hframe⟩
  jvm_step X.here [X.here.top, hx, hb, hdg, hmeth', hr, ret, narrow_b1]
  (try refine ⟨rfl, ?_⟩); (try refine ⟨rfl, ?_⟩)
  first | (intro acts; rw [hret _ acts rfl rfl rfl]) | rw [hret _ _ rfl rfl rfl]
  exact Steps.refl _
/-- what holds at the law's entry: the machine, the code, the tables' words (any of lw_tbl by 'hts w (by decide +kernel)'), the script of L ints xs at the cell b, what the Statement gives of the start (any of its parts by flat_of_before) -/
def lw_At (p : Program) (s : State) (m : MethodId) (meth : Method) (c : Code) (b L : Nat) (xs : Nat → Int32) : Prop :=
  p.tables.exec = Jvm.exec ∧ c.code = code ∧ meth.sig.returnType = ret ∧ c.maxLocals = 4 ∧ s.vm.findClass R_law = some m.cls ∧ (∀ w ∈ lw_tbl, w.before #[Value.ref b] s = true) ∧ va_X b L xs s s.heap ∧ b < s.heap.size ∧ meth.locks = false ∧ (Jvm.Cond.and given_1 narrow_1).before #[Value.ref b] s = true
section WT
variable {cx : Cx} {p : Program} {l : Launch} {e : Jvm.Env} {s : State} {m : MethodId} {args : Array Value} {below : List Frame} {meth : Method} {c : Code} {ls : Array Slot} {H : Heap} {locs : List Loc} {n0 s0 mc ms b x y d : Nat} {adK adV : Nat → Nat} {f F : Nat → Nat × va_E}
theorem wA0 {sz : Nat} : va_A (wK 0 f) sz = fun q => sz ≤ q := by
  funext q
  refine propext ⟨fun z => ?_, Or.inr⟩
  rcases z with ⟨k, e, z⟩ | z
  · cases (show ([] : va_W)[k]? = some (q, e) from z)
  · exact z
theorem cl0_get {ad : Nat → Nat} {k : Nat} {q : Nat × va_E} (h : (cls cx ad H0)[k]? = some q) : k < 62 ∧ q = (ad (64 + k), cE cx ad H0 (64 + k)) := by
  have h : ((List.range 62).map (fun i => (ad (64 + i), cE cx ad H0 (64 + i))))[k]? = some q := h
  rw [List.getElem?_map] at h
  by_cases hk : k < 62
  · rw [List.getElem?_range hk] at h
    exact ⟨hk, (Option.some.inj h).symm⟩
  · rw [List.getElem?_eq_none (by simp; omega)] at h
    cases h
theorem cl0_at {ad : Nat → Nat} {k : Nat} (hk : k < 62) : (cls cx ad H0)[k]? = some (ad (64 + k), cE cx ad H0 (64 + k)) := by
  show ((List.range 62).map (fun i => (ad (64 + i), cE cx ad H0 (64 + i))))[k]? = _
  rw [List.getElem?_map, List.getElem?_range hk]; rfl
theorem st_E (hd : 201 ≤ d) (hL : cxL cx ≤ 3072) (hc : Bc cx true 252 (wK 0 f) 62 F [some (.ref b), some (.ref x), some (.ref y), some (.int 0)] p s m args meth c ls H locs) (q : wF1 cx F x y) (hs : St cx b adK adV s) (h1 : n0 + 3 * 512 ≤ mc) (h2 : s0 + 500 * 512 ≤ ms) :
    W p l e (rm d mc ms) s m args below meth c H locs n0 s0 (MQ below (QQ cx (adS F b adK adV) H0 s.heap.size (fun r _ => r = some (.int 1))) args s mc ms (fun q => s.heap.size ≤ q)) (F0 m 18 ls []) := by
  obtain ⟨hF, e0, e40⟩ := st_F (b := b) (adK := adK) (adV := adV) q
  have a0 : adS F b adK adV 0 = b := rfl
  have ax : adS F b adK adV 64 = x := e0
  have ay : adS F b adK adV 104 = y := e40
  have hw := st_wst (F := F) hs
  generalize hadd : adS F b adK adV = ad at hF a0 ax ay hw ⊢
  clear hadd
  obtain ⟨⟨c1, c2, c3, c4, c5, c6, c7, c8⟩, ⟨k1, k2, k3, k4, k5⟩, kl⟩ := hc
  rw [wA0] at k3 k4
  have hA : va_A (cls cx ad H0) s.heap.size = fun q => s.heap.size ≤ q := by
    funext q
    refine propext ⟨fun z => ?_, Or.inr⟩
    rcases z with ⟨k, e, z⟩ | z
    · obtain ⟨hk, ez⟩ := cl0_get z
      rw [hF k hk] at ez
      have := k3.2 (pI (64 + k)) _ (wK_get (pI_lt k hk))
      rw [← ez] at this
      exact this
    · exact z
  have hE := lw_loop (cx := cx) (Q := fun r _ => r = some (.int 1)) hd hL (fun _ => rfl) 512 0 512 A0 H0 rfl (Nat.le_refl _) a0_wf rx_start rm_start p l e s m args below meth c H0 ad ad ls H locs n0 s0 mc ms ⟨⟨c1, c2, c3, c4, c5, c6, c7⟩, ⟨k1, fun k q hk => ?_, ⟨fun i j p q hi hj e => ?_, fun k q hk => ?_⟩, by rw [hA]; exact k4, by rw [hA]; exact hw⟩, ⟨fun _ _ => rfl, Nat.le_refl _, fun _ => rfl⟩, ⟨kl.1, kl.2.1, fun i v hv => ?_⟩⟩ h1 h2
  · rw [hA] at hE
    exact hE
  · obtain ⟨hk, ez⟩ := cl0_get hk
    rw [hF k hk] at ez
    rw [ez]
    exact k2 (pI (64 + k)) _ (wK_get (pI_lt k hk))
  · obtain ⟨li, ei⟩ := cl0_get hi
    obtain ⟨lj, ej⟩ := cl0_get hj
    rw [hF i li] at ei
    rw [hF j lj] at ej
    rw [ei, ej] at e
    exact pI_inj i li j lj (k3.1 _ _ _ _ (wK_get (pI_lt i li)) (wK_get (pI_lt j lj)) e)
  · exact Or.inl ⟨k, q.2, hk⟩
  · match i, hv with
    | 0, hv => cases hv; show _ = some (Slot.val (.ref (ad 0))); rw [a0]; exact kl.2.2 0 (.ref b) rfl
    | 1, hv => cases hv; show _ = some (Slot.val (.ref (ad 64))); rw [ax]; exact kl.2.2 1 (.ref x) rfl
    | 2, hv => cases hv; show _ = some (Slot.val (.ref (ad 104))); rw [ay]; exact kl.2.2 2 (.ref y) rfl
    | 3, hv => cases hv; exact kl.2.2 3 (.int 0) rfl
    | _ + 4, hv => cases hv
theorem st_end {ad : Nat → Nat} {t : State} (h : MQ below (QQ cx ad H0 s.heap.size (fun r _ => r = some (.int 1))) args s 600000 7302250 (fun q => s.heap.size ≤ q) t) : lw_Z below args s t := by
  obtain ⟨o, h1, h2, ⟨⟨r, h', ad', ho, hr, -⟩, -⟩, L, ⟨f1, f2, f3⟩, hf⟩ := h
  subst hr
  refine ⟨o, h1, h2, ho, f1, f2, f3.1, f3.2.1, f3.2.2.1, f3.2.2.2.1, f3.2.2.2.2.1, fun a c hc => ?_⟩
  obtain ⟨c', g1, g2, g3, g4⟩ := f3.2.2.2.2.2 a c hc
  refine ⟨c', g1, g2, g3, fun i _ => g4 i (fun z => ?_)⟩
  have z2 : s.heap.size ≤ a := hf _ z
  exact absurd (Array.getElem?_eq_some_iff.mp hc).1 (Nat.not_lt.mpr z2)
theorem st_walk (hL : cxL cx ≤ 3072) (hc : Bc cx true 252 (wK 0 f) 0 f [some (.ref b), none, none, none] p s m args meth c ls s.heap []) (hs : St cx b adK adV s) :
    W p l e (rm 1312 600000 7302250) s m args below meth c s.heap [] 0 0 (lw_Z below args s) (F0 m 0 ls []) := by
  refine w_new (i1 := 104) (i2 := 105) (i3 := 85) (ci := 11) (fs := [.null, .null, .null, .null, .null, .null, .null, .null, .null, .int 0, .int 0, .int 0, .int 0]) hc (by decide) (by decide) (dx_at ck252_0 0 rfl) (by rw [cn252.1]; decide +kernel) (by decide +kernel) (by decide +kernel) (by decide) cd11 (fun x H1 hc1 => ?_)
  refine lv_dup hc1.1.1 hc1.1.2.1 (dx_at ck252_0 1 rfl) rfl ?_
  refine w_callI (hint := 106) (j' := 101) (x := x) (vs := []) (st := [.ref x]) hc1 (by decide) (by decide) (dx_at ck252_0 2 rfl) (by rw [cn252.1]; decide +kernel) cn101.2.2.2.1 cn101.2.2.2.2 cn101.2.1 (use_np (by decide)) (Nat.le_of_ble_eq_true rfl) (by decide) (ct_X11 (cx := cx) (d := 1311) (io := 0) (K := 0 + 1) (by decide) (by decide) upW_s) (fun r K' f' z => z.1) (fun K1 f1 H2 locs2 z hc2 => ?_)
  obtain ⟨-, rfl, a1, a2, a3, a4, a5, a6, a7, a8, a9, a10, a11, a12, a13, a14, a15, a16, a17, a18, a19, a20, a21, a22, a23, a24, a25, a26, a27, a28, a29, a30, a31, a32, a33, a34, a35, a36, a37, a38, a39, g0, g1, g2, g3, g4, g5, g6, g7, g8, g9, g10, g11, g12, g13, g14, g15, g16, g17, g18, g19, g20, g21, g22, g23, g24, g25, g26, g27, g28, g29, g30, g31, g32, g33, g34, g35, g36, g37, g38, g39, -⟩ := z
  refine lv_astore_n hc2.1.1 hc2.1.2.1 (dx_at ck252_0 3 rfl) rfl (lvok_has hc2.2.2) (by rw [cn252.2.1]; decide) rfl (fun ls1 hl1 => ?_)
  have hc3 : Bc cx true 252 (wK 0 f) 40 f1 [some (.ref b), some (.ref x), none, none] p s m args meth c ls1 H2 locs2 := ⟨hc2.1, hc2.2.1, lvok_sto (loc := [some (.ref b), none, none, none]) (i := 1) (v := .ref x) hl1⟩
  refine w_new (i1 := 1080) (i2 := 1081) (i3 := 96) (ci := 12) (fs := [.int 0, .int 0, .null, .null, .null, .null, .int 0, .null, .null, .null, .int 0, .int 0, .null, .null, .null, .int 0, .int 0, .int 0, .int 0, .int 0, .int 0, .int 0, .null, .null, .null, .null, .null, .int 0, .null, .null, .null, .null, .int 0, .int 0, .int 0, .null, .null, .int 0, .int 0]) hc3 (by decide) (by decide) (dx_at ck252_0 4 rfl) (by rw [cn252.1]; decide +kernel) (by decide +kernel) (by decide +kernel) (by decide) cd12 (fun y H3 hc4 => ?_)
  refine lv_dup hc4.1.1 hc4.1.2.1 (dx_at ck252_0 5 rfl) rfl ?_
  refine w_callI (hint := 1082) (j' := 149) (x := y) (vs := []) (st := [.ref y]) hc4 (by decide) (by decide) (dx_at ck252_0 6 rfl) (by rw [cn252.1]; decide +kernel) cn149.2.2.2.1 cn149.2.2.2.2 cn149.2.1 (use_np (by decide)) (Nat.le_of_ble_eq_true rfl) (by decide) (ct_X12 (cx := cx) (d := 1311) (io := 40) (K := 40 + 1) (by decide) (by decide) upW_s) (fun r K' f' z => z.1) (fun K2 F H4 locs4 z hc5 => ?_)
  obtain ⟨-, rfl, b1, b2, b3, b4, b5, b6, b7, b8, b9, b10, b11, b12, b13, b14, b15, b16, b17, b18, b19, b20, b21, h0, h1, h2, h3, h4, h5, h6, h7, h8, h9, h10, h11, h12, h13, h14, h15, h16, h17, h18, h19, h20, h21, old⟩ := z
  have old : ∀ i, i < 40 → F i = f1 i := fun i hi => (old i (by omega) (by omega)).trans (upW_n (by omega))
  refine lv_astore_n hc5.1.1 hc5.1.2.1 (dx_at ck252_0 7 rfl) rfl (lvok_has hc5.2.2) (by rw [cn252.2.1]; decide) rfl (fun ls2 hl2 => ?_)
  have hc6 : Bc cx true 252 (wK 0 f) 62 F [some (.ref b), some (.ref x), some (.ref y), none] p s m args meth c ls2 H4 locs4 := ⟨hc5.1, hc5.2.1, lvok_sto (loc := [some (.ref b), some (.ref x), none, none]) (i := 2) (v := .ref y) hl2⟩
  refine lv_iconst (v := 0) hc6.1.1 hc6.1.2.1 (dx_at ck252_0 8 rfl) rfl ?_
  refine lv_istore_n hc6.1.1 hc6.1.2.1 (dx_at ck252_0 9 rfl) rfl (lvok_has hc6.2.2) (by rw [cn252.2.1]; decide) rfl (fun ls3 hl3 => ?_)
  have hc7 : Bc cx true 252 (wK 0 f) 62 F [some (.ref b), some (.ref x), some (.ref y), some (.int 0)] p s m args meth c ls3 H4 locs4 := ⟨hc6.1, hc6.2.1, lvok_sto (loc := [some (.ref b), some (.ref x), some (.ref y), none]) (i := 3) (v := .int 0) hl3⟩
  refine W_mono (st_E (by decide) hL hc7 ⟨a1, a2, a3, a4, a5, a6, a7, a8, a9, a10, a11, a12, a13, a14, a15, a16, a17, a18, a19, a20, a21, a22, a23, a24, a25, a26, a27, a28, a29, a30, a31, a32, a33, a34, a35, a36, a37, a38, a39, b1, b2, b3, b4, b5, b6, b7, b8, b9, b10, b11, b12, b13, b14, b15, b16, b17, b18, b19, b20, b21, (old 0 (by decide)).trans g0, (old 1 (by decide)).trans g1, (old 2 (by decide)).trans g2, (old 3 (by decide)).trans g3, (old 4 (by decide)).trans g4, (old 5 (by decide)).trans g5, (old 6 (by decide)).trans g6, (old 7 (by decide)).trans g7, (old 8 (by decide)).trans g8, (old 9 (by decide)).trans g9, (old 10 (by decide)).trans g10, (old 11 (by decide)).trans g11, (old 12 (by decide)).trans g12, (old 13 (by decide)).trans g13, (old 14 (by decide)).trans g14, (old 15 (by decide)).trans g15, (old 16 (by decide)).trans g16, (old 17 (by decide)).trans g17, (old 18 (by decide)).trans g18, (old 19 (by decide)).trans g19, (old 20 (by decide)).trans g20, (old 21 (by decide)).trans g21, (old 22 (by decide)).trans g22, (old 23 (by decide)).trans g23, (old 24 (by decide)).trans g24, (old 25 (by decide)).trans g25, (old 26 (by decide)).trans g26, (old 27 (by decide)).trans g27, (old 28 (by decide)).trans g28, (old 29 (by decide)).trans g29, (old 30 (by decide)).trans g30, (old 31 (by decide)).trans g31, (old 32 (by decide)).trans g32, (old 33 (by decide)).trans g33, (old 34 (by decide)).trans g34, (old 35 (by decide)).trans g35, (old 36 (by decide)).trans g36, (old 37 (by decide)).trans g37, (old 38 (by decide)).trans g38, (old 39 (by decide)).trans g39, h0, h1, h2, h3, h4, h5, h6, h7, h8, h9, h10, h11, h12, h13, h14, h15, h16, h17, h18, h19, h20, h21⟩ hs (by decide) (by decide)) (fun t => st_end)
end WT
