/-! the model's walk: tests -/
section T54
variable {cx : Cx} {d a : Nat} {h g : Hp} {base N : Nat} {C V : Nat → Int32} {e : Env}
def Rb (live b0 : Bool) (so : Option Bool) (v : Bool) (b : Bool) : Prop := ((live = true ∧ b0 = false) → (match so with | some x => b = false ∧ v = x | none => b = true)) ∧ (¬ (live = true ∧ b0 = false) → b = b0)
def bQ (h : Hp) (k : Nat) (live b0 : Bool) (so : Option Bool) : Option Value → Hp → Prop := fun r g => ∃ (v : Bool) (b : Bool), r = some (.int (bI v)) ∧ g = ev h k b ∧ Rb live b0 so v b
theorem bQ_N {k : Nat} {live b0 : Bool} {so : Option Bool} : ∀ v g, bQ h k live b0 so v g → hN g = hN h := fun v g q => by obtain ⟨_, _, _, rfl, _⟩ := q; rfl
def evB (cx : Cx) (j D : Nat) (h : Hp) (base N : Nat) (e : Env) (P : Nat → Nat → PR SB) : Prop := ∀ (d t lv : Nat) (live b : Bool), D ≤ d → t ≤ N → (P t lv).1 = true → M cx j d 0 [.ref o_m, .int (bI live)] (ev h (base + t) b) (bQ h (base + (P t lv).2.1) live b ((P t lv).2.2.2 e))
theorem Rb_cmp {live b0 b b2 v : Bool} {s s2 : Option Int64} {x y : Int64} {c : Int32} (q1 : Rn live b0 s x b) (q2 : Rn live b s2 y b2) (hv : live = true → b2 = false → v = cmpV c x y) : Rb live b0 (cmpO c s s2) v b2 := by
  refine ⟨fun hl => ?_, fun hl => ?_⟩
  · obtain ⟨rfl, rfl⟩ := hl
    have q1 := q1.1 ⟨rfl, rfl⟩
    cases s with
    | none =>
      have q2 := q2.2 (fun z => by rw [show b = true from q1] at z; exact absurd z.2 (by decide))
      exact q2.trans q1
    | some x0 =>
      obtain ⟨rfl, rfl⟩ := q1
      have q2 := q2.1 ⟨rfl, rfl⟩
      cases s2 with
      | none => exact q2
      | some y0 =>
        obtain ⟨rfl, rfl⟩ := q2
        exact ⟨rfl, hv rfl rfl⟩
  · have e1 := q1.2 hl
    subst e1
    exact q2.2 hl
theorem Rb_and {live b0 b b2 v w : Bool} {s s2 : Option Bool} (q1 : Rb live b0 s v b) (q2 : Rb (live && v) b s2 w b2) : Rb live b0 (obO 5 s s2) (v && w) b2 := by
  refine ⟨fun hl => ?_, fun hl => ?_⟩
  · obtain ⟨rfl, rfl⟩ := hl
    have q1 := q1.1 ⟨rfl, rfl⟩
    cases s with
    | none => exact (q2.2 (fun z => by rw [show b = true from q1] at z; exact absurd z.2 (by decide))).trans q1
    | some x0 =>
      obtain ⟨rfl, rfl⟩ := q1
      cases v with
      | false => exact ⟨q2.2 (fun z => absurd z.1 (by decide)), rfl⟩
      | true =>
        have q2 := q2.1 ⟨rfl, rfl⟩
        cases s2 with
        | none => exact q2
        | some y0 => exact q2
  · have e1 := q1.2 hl
    subst e1
    refine q2.2 fun z => hl ⟨?_, z.2⟩
    have := z.1
    cases live
    · cases this
    · rfl
theorem Rb_or {live b0 b b2 v w : Bool} {s s2 : Option Bool} (q1 : Rb live b0 s v b) (q2 : Rb (live && !v) b s2 w b2) : Rb live b0 (obO 4 s s2) (v || w) b2 := by
  refine ⟨fun hl => ?_, fun hl => ?_⟩
  · obtain ⟨rfl, rfl⟩ := hl
    have q1 := q1.1 ⟨rfl, rfl⟩
    cases s with
    | none => exact (q2.2 (fun z => by rw [show b = true from q1] at z; exact absurd z.2 (by decide))).trans q1
    | some x0 =>
      obtain ⟨rfl, rfl⟩ := q1
      cases v with
      | true => exact ⟨q2.2 (fun z => absurd z.1 (by decide)), rfl⟩
      | false =>
        have q2 := q2.1 ⟨rfl, rfl⟩
        cases s2 with
        | none => exact q2
        | some y0 => exact q2
  · have e1 := q1.2 hl
    subst e1
    refine q2.2 fun z => hl ⟨?_, z.2⟩
    have := z.1
    cases live
    · cases this
    · rfl
theorem Rb_not {live b0 b v k : Bool} {s : Option Bool} (q1 : Rb live b0 s v b) : Rb live b0 (ntO k s) (v != k) b := by
  refine ⟨fun hl => ?_, q1.2⟩
  have q1 := q1.1 hl
  cases s with
  | none => exact q1
  | some x => exact ⟨q1.1, by rw [q1.2]⟩
theorem ev_pos (q : tokE h base N C V e) {D : Nat} {nx : Option (Nat → Nat → PR SB)} {S : Nat → Nat → PR SN} (hD : 2 ≤ D) (hS : evN cx jX12_sumOf D h base N e S) (hSm : mono N S) (hnx : ∀ S, nx = some S → evB cx jX12_testOf D h base N e S) (hmo : ∀ S, nx = some S → mono N S) : evB cx jX12_positiveOf (D + 1) h base N e (pPos C nx S) := by
  intro d t lv live b hd ht
  have hN := q.2.1
  unfold pPos
  by_cases h140 : C t = 140
  · rw [if_pos h140]
    match nx, hnx, hmo with
    | none, _, _ => intro z; exact absurd z (by simp [pBrk])
    | some T, hnx, hmo =>
      have hT := hnx T rfl
      have tl : t < N := tok_lt q (by rw [h140]; decide)
      unfold pBrk
      simp only []
      by_cases ok : (T (t + 1) lv).1 = true
      · rw [if_pos ok]
        by_cases cl : C (T (t + 1) lv).2.1 = 141
        · rw [if_pos cl]
          intro _
          have hM := hT (d - 1) (t + 1) lv live b (by omega) (by omega) ok
          refine sX12_positiveOf rfl (wcS (n_signC (r := 140)) (wcV (n_passT (by omega) q (by omega) h140) (And.intro (fun z => absurd z (by decide)) (fun _ => wcQ hM (fun v g z => ?_) bQ_N))))
          obtain ⟨v, b', rfl, rfl, rn⟩ := z
          exact And.intro bI_B ⟨v, b', rfl, ev_inc, rn⟩
        · rw [if_neg cl]; intro z; cases z
      · rw [if_neg ok]; intro z; cases z
  · rw [if_neg h140]
    unfold pCmp
    by_cases ok : (S t lv).1 = true
    · rw [if_pos ok]
      by_cases c : isCmp (C (S t lv).2.1) = true
      · rw [if_pos c]
        intro ok2
        have ok2 : (S ((S t lv).2.1 + 1) (S t lv).2.2.1).1 = true := ok2
        have m1 := hSm t lv ht
        have tl : (S t lv).2.1 < N := tok_lt q (fun z => by rw [z] at c; exact absurd c (by decide))
        have hM := hS (d - 1) t lv live b (by omega) ht ok
        refine sX12_positiveOf rfl (wcS (n_signC (r := 140)) (wcV (n_passF (by omega) q (by omega) h140) (And.intro (fun _ => eX12_positiveOf (wcQ hM (fun v g z => ?_) nQ_N)) (fun z => absurd rfl z))))
        obtain ⟨x, b1, rfl, rfl, rn1⟩ := z
        have hM2 := hS (d - 1) ((S t lv).2.1 + 1) (S t lv).2.2.1 live b1 (by omega) (by omega) ok2
        rw [← ev_inc] at hM2
        refine wcV (n_codeAt q ev_go (by omega)) (wcQ hM2 (fun v g z => ?_) nQ_N)
        obtain ⟨y, b2, rfl, rfl, rn2⟩ := z
        have fin : ∀ v : Bool, (live = true → b2 = false → v = cmpV (C (S t lv).2.1) x y) → bQ h (base + (S ((S t lv).2.1 + 1) (S t lv).2.2.1).2.1) live b (cmpS (C (S t lv).2.1) (S t lv).2.2.2 (S ((S t lv).2.1 + 1) (S t lv).2.2.1).2.2.2 e) (some (.int (bI v))) (ev h (base + (S ((S t lv).2.1 + 1) (S t lv).2.2.1).2.1) b2) := fun v hv => ⟨v, b2, rfl, rfl, Rb_cmp rn1 rn2 hv⟩
        have no : (live = true → b2 = false → false = cmpV (C (S t lv).2.1) x y) → E cx jX12_positiveOf d 0 125 [some (.ref o_m), some (.int (bI live)), some (.long x), none, some (.int (C (S t lv).2.1)), some (.long y), none] [] (ev h (base + (S ((S t lv).2.1 + 1) (S t lv).2.2.1).2.1) b2) (bQ h (base + (S ((S t lv).2.1 + 1) (S t lv).2.2.1).2.1) live b (cmpS (C (S t lv).2.1) (S t lv).2.2.2 (S ((S t lv).2.1 + 1) (S t lv).2.2.1).2.2.2 e)) := fun hv => eX12_positiveOf (eX12_positiveOf (And.intro (Or.inl rfl) (fin false hv)))
        have yes : (live = true → b2 = false → true = cmpV (C (S t lv).2.1) x y) → E cx jX12_positiveOf d 0 121 [some (.ref o_m), some (.int (bI live)), some (.long x), none, some (.int (C (S t lv).2.1)), some (.long y), none] [] (ev h (base + (S ((S t lv).2.1 + 1) (S t lv).2.2.1).2.1) b2) (bQ h (base + (S ((S t lv).2.1 + 1) (S t lv).2.2.1).2.1) live b (cmpS (C (S t lv).2.1) (S t lv).2.2.2 (S ((S t lv).2.1 + 1) (S t lv).2.2.1).2.2.2 e)) := fun hv => eX12_positiveOf (eX12_positiveOf (And.intro (Or.inr rfl) (fin true hv)))
        refine And.intro (fun q1 => no fun z => ?_) (fun q1 => And.intro (fun q2 => no fun _ z => ?_) (fun q2 => wcS (n_signC (r := 160)) (And.intro (fun q3 => eX12_positiveOf (wcS (n_signC (r := 162)) (And.intro (fun q4 => eX12_positiveOf (And.intro (fun q5 => no fun _ _ => ?_) (fun q5 => yes fun _ _ => ?_))) (fun q4 => And.intro (fun q5 => no fun _ _ => ?_) (fun q5 => yes fun _ _ => ?_))))) (fun q3 => And.intro (fun q5 => no fun _ _ => ?_) (fun q5 => yes fun _ _ => ?_)))))
        · rw [bI_0.mp q1] at z; cases z
        · exact absurd (ev_br.trans (by rw [z]; rfl)) q2
        · unfold cmpV; rw [if_neg q3, if_neg q4]
          exact (decide_eq_false fun z => q5 ((lg_cmp_eq _ _).mpr z)).symm
        · unfold cmpV; rw [if_neg q3, if_neg q4]
          exact (decide_eq_true ((lg_cmp_eq _ _).mp q5)).symm
        · unfold cmpV; rw [if_neg q3, if_pos q4]
          exact (decide_eq_false fun z => absurd ((lg_cmp_gt _ _).mpr z) (Int32.not_lt.mpr q5)).symm
        · unfold cmpV; rw [if_neg q3, if_pos q4]
          exact (decide_eq_true ((lg_cmp_gt _ _).mp (Int32.not_le.mp q5))).symm
        · unfold cmpV; rw [if_pos q3]
          exact (decide_eq_false fun z => absurd z (Int64.not_lt.mpr ((lg_cmp_ge _ _).mp q5))).symm
        · unfold cmpV; rw [if_pos q3]
          exact (decide_eq_true (Int64.not_le.mp fun z => q5 ((lg_cmp_ge _ _).mpr z))).symm
      · rw [if_neg c]; intro z; cases z
    · rw [if_neg ok]; intro z; cases z
theorem ev_plain (q : tokE h base N C V e) {D : Nat} {nx : Option (Nat → Nat → PR SB)} {S : Nat → Nat → PR SN} (hD : 2 ≤ D) (hP : evB cx jX12_positiveOf D h base N e (pPos C nx S)) : evB cx jX12_plainOf (D + 1) h base N e (pPlain C nx S) := by
  intro d t0 lv live b hd ht0
  have hN := q.2.1
  have loop : ∀ n t k, 400 < n + t → t ≤ N → (pPos C nx S (pNots C n t k).1 lv).1 = true → E cx jX12_plainOf d 0 2 [some (.ref o_m), some (.int (bI live)), some (.int (bI k))] [] (ev h (base + t) b) (bQ h (base + (pPos C nx S (pNots C n t k).1 lv).2.1) live b (ntO (pNots C n t k).2 ((pPos C nx S (pNots C n t k).1 lv).2.2.2 e))) := by
    intro n
    induction n with
    | zero => intro t k hn ht; omega
    | succ n ih =>
      intro t k hn ht
      rw [pNots]
      by_cases c : C t = 6
      · rw [if_pos c]
        intro ok
        have tl : t < N := tok_lt q (by rw [c]; decide)
        have := ih (t + 1) (!k) (by omega) (by omega) ok
        refine eX12_plainOf (wcV (n_passT (by omega) q (by omega) c) (And.intro (fun z => absurd z (by decide)) (fun _ => And.intro (fun q2 => eX12_plainOf (eX12_plainOf ?_)) (fun q2 => eX12_plainOf ?_))))
        · have ek : k = true := bI_n.mp q2
          subst ek; exact this
        · have ek : k = false := bI_0.mp q2
          subst ek; exact this
      · rw [if_neg c]
        intro ok
        refine eX12_plainOf (wcV (n_passF (by omega) q (by omega) c) (And.intro (fun _ => eX12_plainOf (wcQ (hP (d - 1) t lv live b (by omega) ht ok) (fun v g z => ?_) bQ_N)) (fun z => absurd rfl z)))
        obtain ⟨v, b', rfl, rfl, rb⟩ := z
        refine And.intro (fun q2 => eX12_plainOf (eX12_plainOf (And.intro (Or.inl rfl) ⟨false, b', rfl, rfl, ?_⟩))) (fun q2 => eX12_plainOf (And.intro (Or.inr rfl) ⟨true, b', rfl, rfl, ?_⟩))
        · have ev : (v != k) = false := by cases v <;> cases k <;> first | rfl | exact absurd q2 (by decide)
          have := Rb_not (k := k) rb; rw [ev] at this; exact this
        · have ev : (v != k) = true := by cases v <;> cases k <;> first | rfl | exact absurd rfl q2
          have := Rb_not (k := k) rb; rw [ev] at this; exact this
  intro ok
  exact sX12_plainOf rfl (loop 401 t0 false (by omega) ht0 ok)
theorem ev_both (q : tokE h base N C V e) {D : Nat} {P : Nat → Nat → PR SB} (hD : 2 ≤ D) (hm : mono N P) (hP : evB cx jX12_plainOf D h base N e P) : evB cx jX12_bothOf (D + 1) h base N e (pChain opAnd opB P C) := by
  have hN := q.2.1
  intro d t0 lv0 live b0 hd ht0
  have loop : ∀ n t lv s v b l3, 400 < n + t → t ≤ N → Rb live b0 (s e) v b → (pLoop opAnd opB P C n t lv s).1 = true →
      E cx jX12_bothOf d 0 6 [some (.ref o_m), some (.int (bI live)), some (.int (bI v)), l3] [] (ev h (base + t) b) (bQ h (base + (pLoop opAnd opB P C n t lv s).2.1) live b0 ((pLoop opAnd opB P C n t lv s).2.2.2 e)) := by
    intro n
    induction n with
    | zero => intro t lv s v b l3 hn ht; omega
    | succ n ih =>
      intro t lv s v b l3 hn ht rn
      rw [pLoop]
      by_cases op : opAnd (C t) = true
      · rw [if_pos op]
        have c5 : C t = 5 := by simpa [opAnd] using op
        have tl : t < N := tok_lt q (fun z => by rw [z] at op; exact absurd op (by decide))
        have mo := hm (t + 1) lv (by omega)
        by_cases ok : (P (t + 1) lv).1 = true
        · rw [if_pos ok]
          intro okL
          have e28 : ∀ lw : Bool, lw = (live && v) → E cx jX12_bothOf d 0 28 [some (.ref o_m), some (.int (bI live)), some (.int (bI v)), l3] [.int (bI lw), .ref o_m] (ev h (base + (t + 1)) b) (bQ h (base + (pLoop opAnd opB P C n (P (t + 1) lv).2.1 (P (t + 1) lv).2.2.1 (opB (C t) s (P (t + 1) lv).2.2.2)).2.1) live b0 ((pLoop opAnd opB P C n (P (t + 1) lv).2.1 (P (t + 1) lv).2.2.1 (opB (C t) s (P (t + 1) lv).2.2.2)).2.2.2 e)) := fun lw el => by
            refine eX12_bothOf (wcQ (hP (d - 1) (t + 1) lv lw b (by omega) (by omega) ok) (fun v2 g z => ?_) bQ_N)
            obtain ⟨w, b2, rfl, rfl, rn2⟩ := z
            subst el
            have rr : Rb live b0 (opB (C t) s (P (t + 1) lv).2.2.2 e) (v && w) b2 := by rw [c5]; exact Rb_and rn rn2
            have e45 : ∀ u : Bool, u = (v && w) → E cx jX12_bothOf d 0 45 [some (.ref o_m), some (.int (bI live)), some (.int (bI v)), some (.int (bI w))] [.int (bI u)] (ev h (base + (P (t + 1) lv).2.1) b2) (bQ h (base + (pLoop opAnd opB P C n (P (t + 1) lv).2.1 (P (t + 1) lv).2.2.1 (opB (C t) s (P (t + 1) lv).2.2.2)).2.1) live b0 ((pLoop opAnd opB P C n (P (t + 1) lv).2.1 (P (t + 1) lv).2.2.1 (opB (C t) s (P (t + 1) lv).2.2.2)).2.2.2 e)) := fun u eu => by
              subst eu
              exact eX12_bothOf (ih _ _ _ _ _ (some (.int (bI w))) (by omega) mo.2.1 rr okL)
            refine And.intro (fun q1 => eX12_bothOf (e45 false ?_)) (fun q1 => And.intro (fun q2 => eX12_bothOf (e45 false ?_)) (fun q2 => e45 true ?_))
            · rw [bI_0.mp q1]; rfl
            · rw [bI_0.mp q2, Bool.and_false]
            · rw [bI_n.mp q1, bI_n.mp q2]; rfl
          refine eX12_bothOf (wcV (n_passT (by omega) q (by omega) c5) (And.intro (fun z => absurd z (by decide)) (fun _ => And.intro (fun q1 => eX12_bothOf (e28 false ?_)) (fun q1 => And.intro (fun q2 => eX12_bothOf (e28 false ?_)) (fun q2 => e28 true ?_)))))
          · rw [bI_0.mp q1]; rfl
          · rw [bI_0.mp q2, Bool.and_false]
          · rw [bI_n.mp q1, bI_n.mp q2]; rfl
        · rw [if_neg ok]; intro z; exact absurd z ok
      · rw [if_neg op]
        intro _
        have n1 : ¬ C t = 5 := fun z => op (by simp [opAnd, z])
        exact eX12_bothOf (wcV (n_passF (by omega) q (by omega) n1) (And.intro (fun _ => eX12_bothOf (And.intro bI_B ⟨v, b, rfl, rfl, rn⟩)) (fun z => absurd rfl z)))
  unfold pChain
  by_cases ok : (P t0 lv0).1 = true
  · rw [if_pos ok]
    intro okL
    have mo := hm t0 lv0 ht0
    refine sX12_bothOf rfl (wcQ (hP (d - 1) t0 lv0 live b0 (by omega) ht0 ok) (fun v g z => ?_) bQ_N)
    obtain ⟨w, b2, rfl, rfl, rn2⟩ := z
    exact loop 401 _ _ _ w b2 none (by omega) mo.2.1 rn2 okL
  · rw [if_neg ok]; intro z; exact absurd z ok
theorem ev_test (q : tokE h base N C V e) {D : Nat} {P : Nat → Nat → PR SB} (hD : 2 ≤ D) (hm : mono N P) (hP : evB cx jX12_bothOf D h base N e P) : evB cx jX12_testOf (D + 1) h base N e (pChain opOr opB P C) := by
  have hN := q.2.1
  intro d t0 lv0 live b0 hd ht0
  have loop : ∀ n t lv s v b l3, 400 < n + t → t ≤ N → Rb live b0 (s e) v b → (pLoop opOr opB P C n t lv s).1 = true →
      E cx jX12_testOf d 0 6 [some (.ref o_m), some (.int (bI live)), some (.int (bI v)), l3] [] (ev h (base + t) b) (bQ h (base + (pLoop opOr opB P C n t lv s).2.1) live b0 ((pLoop opOr opB P C n t lv s).2.2.2 e)) := by
    intro n
    induction n with
    | zero => intro t lv s v b l3 hn ht; omega
    | succ n ih =>
      intro t lv s v b l3 hn ht rn
      rw [pLoop]
      by_cases op : opOr (C t) = true
      · rw [if_pos op]
        have c5 : C t = 4 := by simpa [opOr] using op
        have tl : t < N := tok_lt q (fun z => by rw [z] at op; exact absurd op (by decide))
        have mo := hm (t + 1) lv (by omega)
        by_cases ok : (P (t + 1) lv).1 = true
        · rw [if_pos ok]
          intro okL
          have e28 : ∀ lw : Bool, lw = (live && !v) → E cx jX12_testOf d 0 28 [some (.ref o_m), some (.int (bI live)), some (.int (bI v)), l3] [.int (bI lw), .ref o_m] (ev h (base + (t + 1)) b) (bQ h (base + (pLoop opOr opB P C n (P (t + 1) lv).2.1 (P (t + 1) lv).2.2.1 (opB (C t) s (P (t + 1) lv).2.2.2)).2.1) live b0 ((pLoop opOr opB P C n (P (t + 1) lv).2.1 (P (t + 1) lv).2.2.1 (opB (C t) s (P (t + 1) lv).2.2.2)).2.2.2 e)) := fun lw el => by
            refine eX12_testOf (wcQ (hP (d - 1) (t + 1) lv lw b (by omega) (by omega) ok) (fun v2 g z => ?_) bQ_N)
            obtain ⟨w, b2, rfl, rfl, rn2⟩ := z
            subst el
            have rr : Rb live b0 (opB (C t) s (P (t + 1) lv).2.2.2 e) (v || w) b2 := by rw [c5]; exact Rb_or rn rn2
            have e45 : ∀ u : Bool, u = (v || w) → E cx jX12_testOf d 0 45 [some (.ref o_m), some (.int (bI live)), some (.int (bI v)), some (.int (bI w))] [.int (bI u)] (ev h (base + (P (t + 1) lv).2.1) b2) (bQ h (base + (pLoop opOr opB P C n (P (t + 1) lv).2.1 (P (t + 1) lv).2.2.1 (opB (C t) s (P (t + 1) lv).2.2.2)).2.1) live b0 ((pLoop opOr opB P C n (P (t + 1) lv).2.1 (P (t + 1) lv).2.2.1 (opB (C t) s (P (t + 1) lv).2.2.2)).2.2.2 e)) := fun u eu => by
              subst eu
              exact eX12_testOf (ih _ _ _ _ _ (some (.int (bI w))) (by omega) mo.2.1 rr okL)
            refine And.intro (fun q1 => eX12_testOf (e45 true ?_)) (fun q1 => And.intro (fun q2 => eX12_testOf (e45 false ?_)) (fun q2 => eX12_testOf (e45 true ?_)))
            · rw [bI_n.mp q1]; rfl
            · rw [bI_0.mp q1, bI_0.mp q2]; rfl
            · rw [bI_n.mp q2, Bool.or_true]
          refine eX12_testOf (wcV (n_passT (by omega) q (by omega) c5) (And.intro (fun z => absurd z (by decide)) (fun _ => And.intro (fun q1 => eX12_testOf (e28 false ?_)) (fun q1 => And.intro (fun q2 => eX12_testOf (e28 false ?_)) (fun q2 => e28 true ?_)))))
          · rw [bI_0.mp q1]; rfl
          · rw [bI_n.mp q2, Bool.not_true, Bool.and_false]
          · rw [bI_n.mp q1, bI_0.mp q2]; rfl
        · rw [if_neg ok]; intro z; exact absurd z ok
      · rw [if_neg op]
        intro _
        have n1 : ¬ C t = 4 := fun z => op (by simp [opOr, z])
        exact eX12_testOf (wcV (n_passF (by omega) q (by omega) n1) (And.intro (fun _ => eX12_testOf (And.intro bI_B ⟨v, b, rfl, rfl, rn⟩)) (fun z => absurd rfl z)))
  unfold pChain
  by_cases ok : (P t0 lv0).1 = true
  · rw [if_pos ok]
    intro okL
    have mo := hm t0 lv0 ht0
    refine sX12_testOf rfl (wcQ (hP (d - 1) t0 lv0 live b0 (by omega) ht0 ok) (fun v g z => ?_) bQ_N)
    obtain ⟨w, b2, rfl, rfl, rn2⟩ := z
    exact loop 401 _ _ _ w b2 none (by omega) mo.2.1 rn2 okL
  · rw [if_neg ok]; intro z; exact absurd z ok
/-- all levels -/
theorem ev_sumP (q : tokE h base N C V e) : ∀ r, evN cx jX12_sumOf (5 * r + 7) h base N e (sumP C V r) := by
  have hC := q.2.2.2.2.1
  intro r
  induction r with
  | zero =>
    have h1 := ev_part (cx := cx) (D := 2) (nx := none) q (fun S z => by cases z) (fun S z => by cases z)
    exact ev_sum q (by decide) (mono_trm hC 0) (ev_term q (by decide) (mono_prt hC 0) h1)
  | succ r ih =>
    have h1 := ev_part (cx := cx) (D := 5 * r + 7) (nx := some (sumP C V r)) q (fun S z => by cases z; exact ih) (fun S z => by cases z; exact mono_sum hC r)
    have h2 := ev_sum q (by omega) (mono_trm hC (r + 1)) (ev_term q (by omega) (mono_prt hC (r + 1)) h1)
    rw [sumP_eq]
    exact fun d t lv live b hd => h2 d t lv live b (by omega)
theorem ev_testP (q : tokE h base N C V e) : ∀ r, evB cx jX12_testOf (5 * r + 11) h base N e (testP C V r) := by
  have hC := q.2.2.2.2.1
  intro r
  have go : ∀ D, 5 * r + 7 ≤ D → (∀ S, nxT C V r = some S → evB cx jX12_testOf D h base N e S) → evB cx jX12_testOf (D + 4) h base N e (testP C V r) := fun D hD hnx => by
    have h1 := ev_pos (cx := cx) (D := D) (nx := nxT C V r) q (by omega) (fun d t lv live b hd => ev_sumP q r d t lv live b (by omega)) (mono_sum hC r) hnx (mono_nxT hC r)
    have h2 := ev_plain q (by omega) h1
    have h3 := ev_both q (by omega) (mono_pln hC r) h2
    have h4 := ev_test q (by omega) (mono_bth hC r) h3
    rw [testP_eq]
    exact h4
  induction r with
  | zero => exact fun d t lv live b hd => go 7 (by omega) (fun S z => by cases z) d t lv live b (by omega)
  | succ r ih =>
    have ih := ih (fun D hD hnx => by
      have h1 := ev_pos (cx := cx) (D := D) (nx := nxT C V r) q (by omega) (fun d t lv live b hd => ev_sumP q r d t lv live b (by omega)) (mono_sum hC r) hnx (mono_nxT hC r)
      have h2 := ev_plain q (by omega) h1
      have h3 := ev_both q (by omega) (mono_pln hC r) h2
      have h4 := ev_test q (by omega) (mono_bth hC r) h3
      rw [testP_eq]
      exact h4)
    exact fun d t lv live b hd => go (5 * r + 12) (by omega) (fun S z => by cases z; exact fun d t lv live b hd => ih d t lv live b (by omega)) d t lv live b (by omega)
end T54
