/-! the law's first steps, for one given machine -/
def cj252_0 : List (Nat × Instr × Nat) := [(0, .new 7, 3), (3, .dup, 1), (4, .invokespecial 9, 3), (7, .astore_n 1, 1), (8, .new 10, 3), (11, .dup, 1), (12, .invokespecial 12, 3), (15, .astore_n 2, 1), (16, .iconst 0, 1), (17, .istore_n 3, 1)]
theorem ck252_0 : cj252_0.all (dx 252) = true := by decide +kernel
theorem cn252 : mcn 252 = 19 ∧ mmax 252 = 4 ∧ (my 252).name = "law" := by decide +kernel
section WS
variable {cx : Cx} {kf : Bool} {j d pc K : Nat} {loc : Lc} {st : List Value} {f : Nat → Nat × va_E}
variable {p : Program} {l : Launch} {e : Jvm.Env} {s : State} {m : MethodId} {args : Array Value} {below : List Frame} {meth : Method} {c : Code} {ws0 : va_W} {ls : Array Slot} {H : Heap} {locs : List Loc} {n0 s0 mc ms : Nat} {Z : State → Prop}
theorem w_new {idx ci i1 i2 i3 : Nat} {fs : List Value} (hc : Bc cx kf j ws0 K f loc p s m args meth c ls H locs) (h1 : n0 + 1 ≤ mc) (h2 : s0 + tb_NN ci ≤ ms) (hd : decode (mcode j) pc = .ok (.new idx, 3)) (hw1 : lw_tbl[i1]? = some (Cond.classLink (tb_RR (mcn j)) idx (tb_RR ci))) (hw2 : lw_tbl[i2]? = some (Cond.instantiable (tb_RR ci) (tb_NN ci))) (hw3 : lw_tbl[i3]? = some (Cond.initialized (tb_RR ci))) (hci : ci < 13) (hfs : ∀ j, j < tb_NN ci → defaultValue (tb_ty ci j) = vp_V fs j)
    (k : ∀ q H1, Bc cx kf j ws0 (K + 1) (upW f K (q, .inr (ci, fs))) loc p s m args meth c ls H1 locs → W p l e (rm d mc ms) s m args below meth c H1 locs (n0 + 1) (s0 + tb_NN ci) Z (F0 m (pc + 3) ls (.ref q :: st))) : W p l e (rm d mc ms) s m args below meth c H locs n0 s0 Z (F0 m pc ls st) := by
  have hts := hc.1.2.2.2.2.2.1
  refine va_new (T := tb_TT ci) (N := tb_NN ci) (ci := ci) hc.1.1 hc.1.2.1 hts (u_in hci) (tb_ty ci) (tb_ty_ok hci) hc.1.2.2.2.2.1 (hts _ (gT_of hw1 rfl)) (hts _ (gT_of hw2 rfl)) (hts _ (gT_of hw3 rfl)) hc.2.1.1 hc.2.1.2.1 hc.2.1.2.2.1 hc.2.1.2.2.2.1 (fun q hq => Or.inr hq) (vw_get hci) hfs (by show n0 + 1 ≤ mc; omega) (by show s0 + tb_NN ci ≤ ms; omega) hd (fun q H1 hP hD hS => ?_)
  rw [wK_push] at hP hD
  exact k q H1 ⟨hc.1, ⟨hc.2.1.1, hP, hD, hS, hc.2.1.2.2.2.2⟩, hc.2.2⟩
theorem w_callI {idx j' hint nc' ns' x : Nat} {vs : List Value} {Q' : Option Value → Nat → (Nat → Nat × va_E) → Prop} (hc : Bc cx kf j ws0 K f loc p s m args meth c ls H locs) (h1 : n0 + nc' ≤ mc) (h2 : s0 + ns' ≤ ms) (hd : decode (mcode j) pc = .ok (.invokespecial idx, 3)) (hl : lw_tbl[hint]? = some (Cond.methodLink (tb_RR (mcn j)) idx (my j'))) (hmk : mk_ok j' = true) (hin : (decide (lw_tbl[(mh j').2.2.1]? = some (mw_inst j')) && decide ((my j').name = "<init>")) = true) (hre : mret j' = none) (hnp : (parseMethodDescriptor (my j').desc).map (fun q => q.parameters.length) = some vs.length) (hsm : (st.map fun v => v.category).sum ≤ 8) (hd0 : 0 < d)
    (hM : MK cx kf j' (d - 1) nc' ns' (.ref x :: vs) K f Q') (hq' : ∀ r K' f', Q' r K' f' → r = none)
    (kk : ∀ K' f' H' locs', Q' none K' f' → Bc cx kf j ws0 K' f' loc p s m args meth c ls H' locs' → W p l e (rm d mc ms) s m args below meth c H' locs' (n0 + nc') (s0 + ns') Z (F0 m (pc + 3) ls st)) : W p l e (rm d mc ms) s m args below meth c H locs n0 s0 Z (F0 m pc ls (vs.reverse ++ .ref x :: st)) := by
  have hAA := b_AA hc
  obtain ⟨w1, w2, w3, w4, w5, w6⟩ := mk_use hmk
  simp only [Bool.and_eq_true, decide_eq_true_eq] at hin
  have hts := hc.1.2.2.2.2.2.1
  have cb : CallB (rm d mc ms) s args (tb_RR (mcn j)) idx (my j') (mcode j') (mmax j') none (wsj j') (rm (d - 1) nc' ns') nc' ns' vs.length :=
    callB_of vs.length hts (good_wsj hmk) (ws' := gT) (by unfold wsj; rw [hre]) rfl rfl (hts _ w2) (hts _ (gT_of hl rfl)) ⟨w4.1, w4.2, hnp⟩ ⟨by show d - 1 + 1 ≤ d; omega, by show 8 + (mmax j' + 11) + 64 * (d - 1) ≤ 64 * d; omega⟩
  have hr := va_runI (p := p) (l := l) (e := e) (below := below) (meth := meth) (locs := locs) (cells := n0) (slots := s0) (R := rm d mc ms) (H := H) (b := x) (As := vs) (rest := st) (g := F0 m pc ls (vs.reverse ++ .ref x :: st)) (Ts := gT) (own := tb_RR (mcn j)) (nL := mmax j) (cc := mcode j)
    ⟨hc.1.1, hc.1.2.1, hc.1.2.2.2.1, hc.1.2.2.2.2.1, hts⟩ (hM l H.size) ⟨cb, hin.2, hts _ (gT_of hin.1 rfl)⟩
    ⟨blindK, fun U hU hW => ⟨rfl, by rw [hU], by rw [hU]; exact hc.2.1.2.1, va_K.moved hW.alike hc.2.1.1, hc.2.1.2.2.1.weaken (fun _ _ _ _ => trivial), Kw_warm hW hc.2.1.2.2.2.2⟩⟩
    rfl rfl hc.2.2.1 rfl (lv_room hsm) hd ⟨by show n0 + nc' ≤ mc; omega, by show s0 + ns' ≤ ms; omega⟩
  intro T hT X
  obtain ⟨v, st₀, t, T', L, g0, X', hL, e1, e2, ⟨⟨r, K', f', hv, hq, hP, hK, hD⟩, hz, hk⟩, stp⟩ := hr T hT X
  cases hv
  obtain rfl := hq' _ _ _ hq
  rw [g0] at hz hk
  have hS := hc.2.1.2.2.2.1
  have hS' : va_S (va_A ws0 s.heap.size) s.heap T'.heap (locs ++ L) := ⟨Nat.le_trans hS.1 (by rw [e1]; exact hz), fun q z1 z2 => by rw [e1, hk q (Nat.lt_of_lt_of_le z1 hS.1) (fun z => z2 (hAA q z))]; exact hS.2.1 q z1 z2, fun q hq => by
      rcases List.mem_append.mp hq with z | z
      · exact hS.2.2 q z
      · exact hAA _ (hL q z)⟩
  obtain ⟨t2, a1, b1⟩ := kk K' f' T'.heap (locs ++ L) hq ⟨hc.1, ⟨hc.2.1.1, by rw [e1]; exact hP, hD.weaken (fun k q _ z => hAA _ z), hS', hc.2.1.2.2.2.2⟩, hc.2.2⟩ T' rfl X'
  exact ⟨t2, stp t2 a1, b1⟩
/-- the claim's room holds the machine's -/
theorem w_room {g : JFrame} (k : W p l e (rm 1312 600000 7302250) s m args below meth c H locs n0 s0 Z g) : W p l e room_1 s m args below meth c H locs n0 s0 Z g := by
  intro T hT X
  refine k T hT { X with room := ?_ }
  have h := X.room
  unfold State.hasRoom at h ⊢
  simp only [Bool.and_eq_true] at h ⊢
  obtain ⟨⟨⟨⟨h1, h2⟩, h7⟩, h8⟩, h9⟩ := h
  have q1 := of_decide_eq_true h1
  obtain ⟨q2, q3, q4, q5, q6⟩ := of_decide_eq_true h2
  refine ⟨⟨⟨⟨decide_eq_true ?_, decide_eq_true ⟨?_, ?_, ?_, ?_, q6⟩⟩, h7⟩, h8⟩, h9⟩
  · exact Nat.le_trans (Nat.add_le_add_right (Nat.add_le_add_left (by decide) _) _) q1
  · exact Nat.le_trans (Nat.add_le_add_left (by decide) _) q2
  · exact Nat.le_trans (Nat.add_le_add_left (by decide) _) q3
  · exact Nat.le_trans (Nat.add_le_add_left (by decide) _) q4
  · exact Nat.le_trans (Nat.add_le_add_left (by decide) _) q5
theorem W_mono {R : Room} {g : JFrame} {Z' : State → Prop} (k : W p l e R s m args below meth c H locs n0 s0 Z g) (hz : ∀ t, Z t → Z' t) : W p l e R s m args below meth c H locs n0 s0 Z' g := by
  intro T hT X
  obtain ⟨t, a1, a2⟩ := k T hT X
  exact ⟨t, a1, hz t a2⟩
end WS
