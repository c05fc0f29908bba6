/-! what the start gives: the words' places, the classes, the links -/
def tmS (i : Nat) : Term := .string RX5 (tb_S.getD i (0, "")).1
def strV (i : Nat) : Term := .field (tmS i) "java/lang/String" "value" "[B"
def strW (i : Nat) : List Cond := [.exactly (tmS i) "java/lang/String", .eq (.field (tmS i) "java/lang/String" "coder" "B") (.int 0), .arrayOf (strV i) .byte, .eq (.length (strV i)) (.int (Int32.ofNat (tx_len.getD i 0)))] ++ (List.range (tx_len.getD i 0)).map (fun j => .eq (.elem (strV i) (.int (Int32.ofNat j))) (.int ((tx_byt.getD i []).getD j 0)))
theorem st_flat : (flatC (Cond.and given_1 narrow_1)).drop 9 = (List.range 26).flatMap strW := by decide +kernel
theorem st_fl4 : (flatC (Cond.and given_1 narrow_1))[4]? = some (Cond.eq (.static RJ0 "COMPACT_STRINGS" "Z") (.int 1)) := by decide +kernel
theorem st_fl5 : (flatC (Cond.and given_1 narrow_1))[5]? = some (Cond.isRef (.static RJ3 "SIOOBE_FORMATTER" "Ljava/util/function/BiFunction;")) := by decide +kernel
theorem tx_small : ∀ i, i < 26 → tx_len.getD i 0 < 2 ^ 31 := by decide +kernel
theorem tx_diff : ∀ i, i < 26 → ∀ j, j < 26 → Int32.ofNat (tx_len.getD i 0) = Int32.ofNat (tx_len.getD j 0) → (∀ k, k < tx_len.getD i 0 → k < tx_len.getD j 0 → (tx_byt.getD i []).getD k 0 = (tx_byt.getD j []).getD k 0) → i = j := by decide +kernel
def tb_Sh : List Nat := [543, 596, 609, 610, 627, 628, 629, 634, 635, 636, 641, 646, 651, 652, 653, 654, 655, 656, 657, 658, 663, 664, 665, 666, 667, 668]
theorem tb_Sh_ok : ∀ i, i < 26 → lw_tbl[tb_Sh.getD i 0]? = some (Cond.stringRef RX5 (tb_S.getD i (0, "")).1 (tb_S.getD i (0, "")).2) := by decide +kernel
def in_h : List Nat := [215, 287, 209, 670, 267, 171, 348, 257, 156, 251, 113, 105, 1081]
theorem in_ok : ∀ c, c < 13 → lw_tbl[in_h.getD c 0]? = some (Cond.instantiable (tb_RR c) (tb_NN c)) := by decide +kernel
def nw_ok (q : Nat × Nat × Nat × Nat × Nat) : Bool := match q.2.2.2.1 with
  | 2 => decide (lw_tbl[q.2.2.2.2]? = some (mn_w q))
  | 4 => decide (lw_tbl[q.2.2.2.2]? = some (mn_w q))
  | _ => true
theorem nw_all : tb_C.all nw_ok = true := by decide +kernel
theorem c252_0 : lw_tbl[(mh 252).2.1]? = none := by decide +kernel
theorem c252 : mcode 252 = code ∧ mret 252 = ret := by
  unfold mcode mret me
  rw [c252_0]
  exact ⟨rfl, rfl⟩
section ST
variable {args : Array Value} {s : State} {A : Nat → Prop}
theorem st_wd (h : (Cond.and given_1 narrow_1).before args s = true) {i : Nat} (hi : i < 26) {w : Cond} (hw : w ∈ strW i) : w.before args s = true := by
  refine flat_of_before _ h w (List.mem_of_mem_drop (i := 9) ?_)
  rw [st_flat]
  exact List.mem_flatMap.mpr ⟨i, List.mem_range.mpr hi, hw⟩
theorem st_str (h : (Cond.and given_1 narrow_1).before args s = true) (hA : ∀ a : Nat, a < s.heap.size → ¬ A a) : ∃ adK adV : Nat → Nat, vk_S 26 tx_len tx_byt adK adV A s s.heap ∧ ∀ i : Nat, i < 26 → (tmS i).eval args s none [] s = some (.ref (adK i)) := by
  have h0 : ∀ i : Nat, ∃ q : Nat × Nat, i < 26 → (tmS i).eval args s none [] s = some (.ref q.1) ∧ va_O "java/lang/String" q.1 A s s.heap ∧ va_OF "java/lang/String" "coder" "B" (.int 0) q.1 A s s.heap ∧ va_OF "java/lang/String" "value" "[B" (.ref q.2) q.1 A s s.heap ∧ va_T .byte q.2 (tx_len.getD i 0) (fun j => .int ((tx_byt.getD i []).getD j 0)) A s s.heap := by
    intro i
    by_cases hi : i < 26
    · have w0 : (Cond.exactly (tmS i) "java/lang/String").before args s = true := st_wd h hi (List.mem_append_left _ (List.mem_of_getElem? (i := 0) rfl))
      have w1 : (Cond.eq (.field (tmS i) "java/lang/String" "coder" "B") (.int 0)).before args s = true := st_wd h hi (List.mem_append_left _ (List.mem_of_getElem? (i := 1) rfl))
      have w2 : (Cond.arrayOf (strV i) .byte).before args s = true := st_wd h hi (List.mem_append_left _ (List.mem_of_getElem? (i := 2) rfl))
      have w3 : (Cond.eq (.length (strV i)) (.int (Int32.ofNat (tx_len.getD i 0)))).before args s = true := st_wd h hi (List.mem_append_left _ (List.mem_of_getElem? (i := 3) rfl))
      have w4 : ∀ j : Nat, j < tx_len.getD i 0 → (Cond.eq (.elem (strV i) (.int (Int32.ofNat j))) (.int ((tx_byt.getD i []).getD j 0))).before args s = true := fun j hj => st_wd h hi (List.mem_append_right _ (List.mem_map.mpr ⟨j, List.mem_range.mpr hj, rfl⟩))
      obtain ⟨a, c, cA, kA, q1, q2, q3, q4, q5, q6, -⟩ := Cond.exactly_spec (args := args) (first := s) (o := none) (s := s) (idx := []) (t := tmS i) (cls := "java/lang/String") w0
      obtain ⟨t, ht, hT⟩ := va_Tof (f := fun j => .int ((tx_byt.getD i []).getD j 0)) (A := A) (tx_small i hi) w2 (va_eqt w3) (fun j hj => va_eqt (w4 j hj)) hA
      exact ⟨(a, t), fun _ => ⟨q1, ⟨cA, q3, q5, by rw [q6]; exact q2, hA a (Array.getElem?_eq_some_iff.mp q3).1⟩, vk_OFof q1 (va_eqt w1) hA, vk_OFof q1 ht hA, hT⟩⟩
    · exact ⟨(0, 0), fun h => absurd h hi⟩
  obtain ⟨ad, had⟩ := Classical.axiomOfChoice h0
  refine ⟨fun i => (ad i).1, fun i => (ad i).2, ⟨fun i hi => (had i hi).2, fun i j hi hj e => ?_⟩, fun i hi => (had i hi).1⟩
  have e : (ad i).1 = (ad j).1 := e
  obtain ⟨-, -, -, ⟨cf, k1, fi, fd, cell, p1, -, p2, -, p3, -⟩, ⟨ce, t1, -, -, -, t2, t3, -⟩⟩ := had i hi
  obtain ⟨-, -, -, ⟨cf', k1', fi', fd', cell', p1', -, p2', -, p3', -⟩, ⟨ce', t1', -, -, -, t2', t3', -⟩⟩ := had j hj
  rw [e] at p2
  obtain rfl : cell = cell' := Option.some.inj (p2.symm.trans p2')
  have ef := Option.some.inj (p1.symm.trans p1')
  have ef : fd = fd' := congrArg (fun z => z.2.2.2) ef
  subst ef
  have ev : (ad i).2 = (ad j).2 := Value.ref.inj (Option.some.inj (p3.symm.trans p3'))
  rw [ev] at t1
  obtain rfl : ce = ce' := Option.some.inj (t1.symm.trans t1')
  exact tx_diff i hi j hj (t2.symm.trans t2') (fun k hk hk' => Value.int.inj (Option.some.inj ((t3 k hk).symm.trans (t3' k hk'))))
theorem st_A {ty : FieldType} (h : (Cond.arrayClass ty).before args s = true) : ∃ cA, ArrOfT s cA ty ∧ s.vm.findClass ("[" ++ ty.toString) = some cA := by
  obtain ⟨cA, kA, comp, h1, h2, h3⟩ := Cond.arrayClass_spec (args := args) (first := s) (o := none) (s := s) (idx := []) h
  exact ⟨cA, fun n z => ⟨fun k h => (by cases h), kA, h2, comp, h3⟩, h1⟩
theorem st_Ao {C : String} (h : (Cond.arrayOver (.object C)).before args s = true) : ∃ cA, ArrOfT s cA (.object C) ∧ va_RA s cA (.object C) := by
  obtain ⟨comp, cA, kA, hcomp, hidx, hkA, hkind, hname⟩ := Cond.arrayOver_spec (args := args) (first := s) (o := none) (s := s) (idx := []) h
  exact ⟨cA, fun n z => ⟨fun k h => (by cases h), kA, hkA, comp, hkind⟩, kA, comp, hkA, hkind, hcomp, hname⟩
theorem st_K (hts : ∀ w ∈ lw_tbl, w.before args s = true) : ∃ (D1 : Nat → ClassId) (D2 : Nat → Nat → Nat) (a : Nat → ClassId), ∀ (L : Nat) (xs : Nat → Int32), va_K (D1, D2) vwCl (tys (D1, D2, a, L, xs)) s := by
  have hg : ∀ w ∈ gT, w.before args s = true := fun w hw => hts w (List.mem_filter.mp hw).1
  have h0 : ∀ c : Nat, ∃ q : ClassId × (Nat → Nat), c < 13 → u_Kn s (tb_RR c) (tb_TT c) (tb_NN c) q.1 q.2 := by
    intro c
    by_cases hc : c < 13
    · obtain ⟨a, b, h⟩ := u_known (n := tb_NN c) hg (u_in hc) (hts _ (List.mem_of_getElem? (in_ok c hc)))
      exact ⟨(a, b), fun _ => h⟩
    · exact ⟨(0, fun _ => 0), fun z => absurd z hc⟩
  obtain ⟨D, hD⟩ := Classical.axiomOfChoice h0
  obtain ⟨c0, x0, y0⟩ := st_A (hts _ (List.mem_of_getElem? (i := 153) (show _ = some (Cond.arrayClass .int) by decide +kernel)))
  obtain ⟨c1, x1, y1⟩ := st_A (hts _ (List.mem_of_getElem? (i := 230) (show _ = some (Cond.arrayClass .long) by decide +kernel)))
  obtain ⟨c2, x2, y2⟩ := st_A (hts _ (List.mem_of_getElem? (i := 169) (show _ = some (Cond.arrayClass .boolean) by decide +kernel)))
  obtain ⟨c3, x3, y3⟩ := st_A (hts _ (List.mem_of_getElem? (i := 689) (show _ = some (Cond.arrayClass .byte) by decide +kernel)))
  obtain ⟨c4, x4, y4⟩ := st_Ao (hts _ (List.mem_of_getElem? (i := 154) (show _ = some (Cond.arrayOver (.object "FiveTouch$Wall")) by decide +kernel)))
  obtain ⟨c5, x5, y5⟩ := st_Ao (hts _ (List.mem_of_getElem? (i := 119) (show _ = some (Cond.arrayOver (.object "FiveTouch$Law")) by decide +kernel)))
  refine ⟨fun c => (D c).1, fun c => (D c).2, fun k => match k with | 0 => c0 | 1 => c1 | 2 => c2 | 3 => c3 | 4 => c4 | _ => c5, fun L xs => ⟨fun c q hq => ?_, fun k q hq => ?_⟩⟩
  · have hc : c < 13 := (List.getElem?_eq_some_iff.mp hq).1
    have := Option.some.inj ((vw_get hc).symm.trans hq)
    subst this
    exact hD c hc
  · match k, hq with
    | 0, hq => cases hq; exact ⟨x0, y0⟩
    | 1, hq => cases hq; exact ⟨x1, y1⟩
    | 2, hq => cases hq; exact ⟨x2, y2⟩
    | 3, hq => cases hq; exact ⟨x3, y3⟩
    | 4, hq => cases hq; exact ⟨x4, y4⟩
    | 5, hq => cases hq; exact ⟨x5, y5⟩
    | _ + 6, hq => cases hq
theorem st_nw (hts : ∀ w ∈ lw_tbl, w.before args s = true) {q : Nat × Nat × Nat × Nat × Nat} (hq : q ∈ tb_C) (hk : q.2.2.2.1 = 2 ∨ q.2.2.2.1 = 4) : va_Nw (mn_w q) s := by
  have hl := List.all_eq_true.mp nw_all _ hq
  have hl : lw_tbl[q.2.2.2.2]? = some (mn_w q) := by
    unfold nw_ok at hl
    rcases hk with hk | hk
    · rw [hk] at hl; exact of_decide_eq_true hl
    · rw [hk] at hl; exact of_decide_eq_true hl
  exact va_Nw.of rfl (hts _ (List.mem_of_getElem? hl))
end ST
