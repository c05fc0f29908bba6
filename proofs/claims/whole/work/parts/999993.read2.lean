/-! the reader makes the law -/
abbrev lj36 : List (Nat × Instr × Nat) := [(121, .new 57, 3), (124, .dup, 1), (125, .aload_n 0, 1), (126, .getfield 9, 3), (129, .aload_n 0, 1), (130, .getfield 32, 3), (133, .aload_n 0, 1), (134, .getfield 15, 3), (137, .iload_n 3, 1), (138, .invokespecial 59, 3), (141, .areturn, 1)]
theorem dj36 : lj36.all (dx 36) = true := by decide +kernel
theorem k36 : (mcn 36 = 5 ∧ mret 36 = some (.object "FiveTouch$Law") ∧ ¬ (my 36).name = "<init>") := by decide +kernel
theorem k36_w : (lw_tbl[669]? = some (Cond.classLink (tb_RR (mcn 36)) 57 (tb_RR 3)) ∧ lw_tbl[670]? = some (Cond.instantiable (tb_RR 3) (tb_NN 3)) ∧ lw_tbl[102]? = some (Cond.initialized (tb_RR 3)) ∧ lw_tbl[671]? = some (Cond.methodLink (tb_RR (mcn 36)) 59 (my 27))) := by decide +kernel
theorem k36_f : (chF 36 9 5 0 && chF 36 32 5 6 && chF 36 15 5 1) = true := by decide +kernel
theorem k27_i : (decide (lw_tbl[(mh 27).2.2.1]? = some (mw_inst 27)) && decide ((my 27).name = "<init>")) = true := by decide +kernel
theorem k27_o : mk_ok 27 = true := by decide +kernel
theorem dv3 : ∀ j, j < tb_NN 3 → defaultValue (tb_ty 3 j) = vp_V [.null, .null, .int 0] j := by
  intro j hj
  have hj : j < 3 := hj
  have : j = 0 ∨ j = 1 ∨ j = 2 := by omega
  rcases this with rfl | rfl | rfl <;> rfl
section T999993
variable {cx : Cx} {d a : Nat} {h g : Hp} {Q : Option Value → Hp → Prop}
theorem newH_I {m c o k : Nat} (ho : o < 126 + 3 * hN g) : hI (newH g m c) o k = hI g o k := by
  show (if o = 126 + 3 * hN g then _ else if o = 127 + 3 * hN g then _ else if o = 128 + 3 * hN g then _ else hI g o k) = _
  rw [if_neg (by omega), if_neg (by omega), if_neg (by omega)]
theorem newH_L {m c o : Nat} (ho : o < 126 + 3 * hN g) : hL (newH g m c) o = hL g o := by
  show (if o = 127 + 3 * hN g then _ else if o = 128 + 3 * hN g then _ else hL g o) = _
  rw [if_neg (by omega), if_neg (by omega)]
theorem newH_0 {m c k : Nat} : hI (newH g m c) (126 + 3 * hN g) k = if k = 2 then nI c else 0 := by
  show (if _ then _ else _) = _
  rw [if_pos rfl]
theorem newH_1 {m c k : Nat} : hI (newH g m c) (127 + 3 * hN g) k = cpy (hI g o_reader_steps) m k := by
  show (if _ then _ else if _ then _ else _) = _
  rw [if_neg (by omega), if_pos rfl]
theorem newH_2 {m c k : Nat} : hI (newH g m c) (128 + 3 * hN g) k = upd (cpy (hI g o_reader_starts) (2 * c)) (2 * c) (nI m) k := by
  show (if _ then _ else if _ then _ else if _ then _ else _) = _
  rw [if_neg (by omega), if_neg (by omega), if_pos rfl]
theorem newH_L1 {m c : Nat} : hL (newH g m c) (127 + 3 * hN g) = m := by
  show (if _ then _ else _) = _
  rw [if_pos rfl]
theorem newH_L2 {m c : Nat} : hL (newH g m c) (128 + 3 * hN g) = 2 * c + 1 := by
  show (if _ then _ else if _ then _ else _) = _
  rw [if_neg (by omega), if_pos rfl]
theorem e_newLaw (hd : 2 ≤ d) (ha : 1 ≤ a) {x1 x2 : Int32} {l4 : Option Value} {m c : Nat} (e6 : hI g o_reader 6 = nI m) (hm : m ≤ 400) (hc : c ≤ 12) (rf : refOk g) (hq : Q (some (.ref (126 + 3 * hN g))) (newH g m c)) : E cx 36 d a 121 [some (.ref o_reader), some (.int x1), some (.int x2), some (.int (nI c)), l4] [] g Q := by
  obtain ⟨cn, re, nm⟩ := k36
  obtain ⟨w1, w2, w3, w4⟩ := k36_w
  have hF := k36_f
  simp only [Bool.and_eq_true] at hF
  have dc := fun q hq => dx_ok dj36 q hq
  refine e_of_B nm (fun ad => ?_)
  generalize hK : 62 + 3 * hN g = K
  have k62 : 62 ≤ K := by omega
  generalize hf : (fun i => (ad (64 + i), cE cx ad g (64 + i)) : Nat → Nat × va_E) = f
  have f17 : f 17 = (ad o_reader, .inr (5, fds ad g o_reader 5)) := by rw [← hf]; show (ad o_reader, cE cx ad g o_reader) = _; rw [cE_obj (ci := 5) rfl (by decide)]
  have f18 : f 18 = (ad o_reader_steps, .inl (cxA cx 0, 400, .inl (hI g o_reader_steps))) := by rw [← hf]; rfl
  have f19 : f 19 = (ad o_reader_starts, .inl (cxA cx 0, 24, .inl (hI g o_reader_starts))) := by rw [← hf]; rfl
  have r0 : (fds ad g o_reader 5)[0]? = some (.ref (ad o_reader_steps)) := by rw [fds_get (by decide)]; rfl
  have r1 : (fds ad g o_reader 5)[1]? = some (.ref (ad o_reader_starts)) := by rw [fds_get (by decide)]; rfl
  have r6 : (fds ad g o_reader 5)[6]? = some (.int (nI m)) := by rw [fds_get (by decide), ← e6]; rfl
  refine b_le (nc := 0 + 2 + 1) (ns := 0 + (2 * c + 1 + m) + tb_NN 3) ?_ (by omega) (by show 0 + (2 * c + 1 + m) + 3 ≤ _; omega)
  refine b_new (ci := 3) (fs := [.null, .null, .int 0]) (dc (121, .new 57, 3) (by simp)) w1 w2 w3 (by decide) dv3 (fun q => ?_)
  refine b_dup (dc (124, .dup, 1) (by simp)) rfl ?_
  have n17 : upW f K (q, .inr (3, [.null, .null, .int 0])) 17 = (ad o_reader, .inr (5, fds ad g o_reader 5)) := by rw [upW_n (by omega)]; exact f17
  refine b_aload_n (x := ad o_reader) (dc (125, .aload_n 0, 1) (by simp)) rfl ?_
  refine b_get (i := 17) (dc (126, .getfield 9, 3) (by simp)) hF.1.1 (by omega) n17 r0 ?_
  refine b_aload_n (x := ad o_reader) (dc (129, .aload_n 0, 1) (by simp)) rfl ?_
  refine b_get (i := 17) (dc (130, .getfield 32, 3) (by simp)) hF.1.2 (by omega) n17 r6 ?_
  refine b_aload_n (x := ad o_reader) (dc (133, .aload_n 0, 1) (by simp)) rfl ?_
  refine b_get (i := 17) (dc (134, .getfield 15, 3) (by simp)) hF.2 (by omega) n17 r1 ?_
  refine b_iload_n (x := nI c) (dc (137, .iload_n 3, 1) (by simp)) rfl ?_
  have hM := mk_law (cx := cx) (kf := false) (d := d - 1) (f := upW f K (q, .inr (3, [.null, .null, .int 0]))) (K := K + 1) (by omega) (io := K) (ia := 18) (ib := 19) (x := q) (xa := ad o_reader_steps) (xb := ad o_reader_starts) (m := m) (c := c) (T := hI g o_reader_steps) (ST := hI g o_reader_starts) (by omega) (by omega) (by omega) (by omega) (by omega) hm hc upW_s (by rw [upW_n (by omega)]; exact f18) (by rw [upW_n (by omega)]; exact f19)
  refine b_callI (st := [.ref q]) (x := q) (vs := [.ref (ad o_reader_steps), .int (nI m), .ref (ad o_reader_starts), .int (nI c)]) (dc (138, .invokespecial 59, 3) (by simp)) w4 k27_o k27_i k27.2.2.1 (use_np (by decide)) (Nat.le_of_ble_eq_true rfl) (by omega) hM (fun r K' f' z => z.1) (fun K' f' z => ?_)
  obtain ⟨-, rfl, a1, a2, g1, g2, g3, g4⟩ := z
  refine b_aret (dc (141, .areturn, 1) (by simp)) re ⟨some (.ref (126 + 3 * hN g)), newH g m c, adN ad (hN g) q a1 a2, ?_, hq, Nat.le_succ _, fun o ho => ?_, fun z => ?_, ?_, ?_⟩
  · show some (Value.ref q) = some (.ref (adN ad (hN g) q a1 a2 (126 + 3 * hN g)))
    unfold adN; rw [if_pos rfl]
  · unfold adN; rw [if_neg (by omega), if_neg (by omega), if_neg (by omega)]
  · have : hN g + 1 = hN g := z
    omega
  · intro H hP k z hz
    have hlen := (List.getElem?_eq_some_iff.mp hz).1
    rw [cls_len] at hlen
    have hlen : k < 62 + 3 * (hN g + 1) := hlen
    have ez : z = (adN ad (hN g) q a1 a2 (64 + k), cE cx (adN ad (hN g) q a1 a2) (newH g m c) (64 + k)) := by
      have := cls_get (cx := cx) (ad := adN ad (hN g) q a1 a2) (h := newH g m c) (o := 64 + k) (by omega) (by show 64 + k < 126 + 3 * (hN g + 1); omega)
      rw [show 64 + k - 64 = k by omega] at this
      exact Option.some.inj (hz.symm.trans this)
    subst ez
    by_cases lt : k < K
    · have w := hP k _ (wK_get (by omega))
      rw [g4 k (by omega) (by omega), upW_n (by omega), ← hf] at w
      have ea : ∀ o, o < 126 + 3 * hN g → adN ad (hN g) q a1 a2 o = ad o := fun o ho => by unfold adN; rw [if_neg (by omega), if_neg (by omega), if_neg (by omega)]
      rw [ea (64 + k) (by omega)]
      exact cE_at (h := g) (by omega) (by omega) rf (fun _ => newH_I (by omega)) (fun _ => rfl) (fun _ => rfl) (newH_L (by omega)) ea w
    · have cs : k = K ∨ k = K + 1 ∨ k = K + 2 := by omega
      rcases cs with e | e | e
      · have w := hP K _ (wK_get (by omega))
        rw [g1] at w
        have eo : 64 + k = 126 + 3 * hN g := by omega
        have ad0 : adN ad (hN g) q a1 a2 (64 + k) = q := by unfold adN; rw [if_pos eo]
        have ce : cE cx (adN ad (hN g) q a1 a2) (newH g m c) (64 + k) = .inr (3, [.ref a1, .ref a2, .int (nI c)]) := by
          rw [cE_obj (ci := 3) (by unfold kd; rw [if_neg (by omega), if_pos (by omega)]) (by decide)]
          have fe : fds (adN ad (hN g) q a1 a2) (newH g m c) (64 + k) 3 = [fv (adN ad (hN g) q a1 a2) (newH g m c) (64 + k) 3 0, fv (adN ad (hN g) q a1 a2) (newH g m c) (64 + k) 3 1, fv (adN ad (hN g) q a1 a2) (newH g m c) (64 + k) 3 2] := rfl
          have v0 : fv (adN ad (hN g) q a1 a2) (newH g m c) (64 + k) 3 0 = .ref a1 := by
            unfold fv; rw [if_pos (show ly_fk 3 0 = true from rfl), rf_d (by omega)]
            unfold adN; rw [if_neg (by omega), if_pos (by omega)]
          have v1 : fv (adN ad (hN g) q a1 a2) (newH g m c) (64 + k) 3 1 = .ref a2 := by
            unfold fv; rw [if_pos (show ly_fk 3 1 = true from rfl), rf_d (by omega)]
            unfold adN; rw [if_neg (by omega), if_neg (by omega), if_pos (by omega)]
          have v2 : fv (adN ad (hN g) q a1 a2) (newH g m c) (64 + k) 3 2 = .int (nI c) := by
            unfold fv; rw [if_neg (show ¬ ly_fk 3 2 = true from by decide), eo, newH_0, if_pos rfl]
          rw [fe, v0, v1, v2]
        rw [ad0, ce]; exact w
      · have w := hP (K + 1) _ (wK_get (by omega))
        rw [g2] at w
        have eo : 64 + k = 127 + 3 * hN g := by omega
        have ad0 : adN ad (hN g) q a1 a2 (64 + k) = a1 := by unfold adN; rw [if_neg (by omega), if_pos eo]
        have ce : cE cx (adN ad (hN g) q a1 a2) (newH g m c) (64 + k) = .inl (cxA cx 0, m, .inl (cpy (hI g o_reader_steps) m)) := by
          unfold cE
          rw [show kd (64 + k) = 20 by unfold kd; rw [if_neg (by omega), if_neg (by omega)], eo]
          show Sum.inl (cxA cx 0, ln _ _, Sum.inl (hI (newH g m c) (127 + 3 * hN g))) = _
          rw [show hI (newH g m c) (127 + 3 * hN g) = cpy (hI g o_reader_steps) m from funext fun k => newH_1]
          unfold ln; rw [if_neg (by omega), newH_L1]
        rw [ad0, ce]; exact w
      · have w := hP (K + 2) _ (wK_get (by omega))
        rw [show K + 2 = K + 1 + 1 from rfl, g3] at w
        have eo : 64 + k = 128 + 3 * hN g := by omega
        have ad0 : adN ad (hN g) q a1 a2 (64 + k) = a2 := by unfold adN; rw [if_neg (by omega), if_neg (by omega), if_pos eo]
        have ce : cE cx (adN ad (hN g) q a1 a2) (newH g m c) (64 + k) = .inl (cxA cx 0, 2 * c + 1, .inl (upd (cpy (hI g o_reader_starts) (2 * c)) (2 * c) (nI m))) := by
          unfold cE
          rw [show kd (64 + k) = 20 by unfold kd; rw [if_neg (by omega), if_neg (by omega)], eo]
          show Sum.inl (cxA cx 0, ln _ _, Sum.inl (hI (newH g m c) (128 + 3 * hN g))) = _
          rw [show hI (newH g m c) (128 + 3 * hN g) = upd (cpy (hI g o_reader_starts) (2 * c)) (2 * c) (nI m) from funext fun k => newH_2]
          unfold ln; rw [if_neg (by omega), newH_L2]
        rw [ad0, ce]; exact w
  · -- apart
    have adr : ∀ k, k < K + 3 → adN ad (hN g) q a1 a2 (64 + k) = (f' k).1 := fun k hk => by
      by_cases lt : k < K
      · rw [g4 k (by omega) (by omega), upW_n (by omega), ← hf]
        unfold adN; rw [if_neg (by omega), if_neg (by omega), if_neg (by omega)]
      · have cs : k = K ∨ k = K + 1 ∨ k = K + 1 + 1 := by omega
        rcases cs with e | e | e
        · rw [e, g1]; unfold adN; rw [if_pos (by omega)]
        · rw [e, g2]; unfold adN; rw [if_neg (by omega), if_pos (by omega)]
        · rw [e, g3]; unfold adN; rw [if_neg (by omega), if_neg (by omega), if_pos (by omega)]
    have get : ∀ (k : Nat) (z : Nat × va_E), (cls cx (adN ad (hN g) q a1 a2) (newH g m c))[k]? = some z → k < K + 3 ∧ z.1 = (f' k).1 := fun k z hz => by
      have hlen := (List.getElem?_eq_some_iff.mp hz).1
      rw [cls_len] at hlen
      have hlen : k < 62 + 3 * (hN g + 1) := hlen
      have := cls_get (cx := cx) (ad := adN ad (hN g) q a1 a2) (h := newH g m c) (o := 64 + k) (by omega) (by show 64 + k < 126 + 3 * (hN g + 1); omega)
      rw [show 64 + k - 64 = k by omega] at this
      have e := Option.some.inj (hz.symm.trans this)
      refine ⟨by omega, ?_⟩
      rw [e]; exact adr k (by omega)
    intro A hD
    refine ⟨fun i j p q' hi hj e => ?_, fun k z hz => ?_⟩
    · obtain ⟨i1, i2⟩ := get i p hi
      obtain ⟨j1, j2⟩ := get j q' hj
      exact hD.1 i j _ _ (wK_get (by omega)) (wK_get (by omega)) (by rw [← i2, ← j2]; exact e)
    · obtain ⟨i1, i2⟩ := get k z hz
      rw [i2]; exact hD.2 k _ (wK_get (by omega))
end T999993
