/-! the model's walk: terms and sums -/
section T53
variable {cx : Cx} {d a : Nat} {h g : Hp} {base N : Nat} {C V : Nat → Int32} {e : Env}
theorem bdS_t {live : Bool} {v : Int64} : bdS live true v = true := by unfold bdS; split <;> rfl
theorem bdS_d {b : Bool} {v : Int64} : bdS false b v = b := by unfold bdS; rw [if_neg (fun z => absurd z.1 (by decide))]
theorem bdS_n {z : Int64} : match bndS z with | some u => bdS true false z = false ∧ cond (bdS true false z) 0 z = u | none => bdS true false z = true := by
  unfold bndS bdS
  by_cases o : outS z
  · rw [if_pos (show 1000000000 < z ∨ z < -1000000000 from o), if_pos ⟨rfl, o⟩]
  · rw [if_neg (show ¬ (1000000000 < z ∨ z < -1000000000) from o), if_neg (fun y => o y.2)]; exact ⟨rfl, rfl⟩
theorem Rn_b {live b0 b b2 : Bool} {s s2 : SN} {x y z : Int64} {c : Int32} (q1 : Rn live b0 (s e) x b) (q2 : Rn live b (s2 e) y b2) (ez : opV c x y = bndS z) : Rn live b0 (opN c s s2 e) (cond (bdS live b2 z) 0 z) (bdS live b2 z) := by
  refine Rn_op (z := z) (c := c) q1 q2 _ _ rfl ⟨fun hb => by rw [hb]; exact bdS_t, fun hl => by rw [hl]; exact bdS_d⟩ (fun hl hb => ?_)
  subst hl; subst hb
  rw [ez]
  exact bdS_n
theorem Rn_z {live b0 b b2 : Bool} {s s2 : SN} {x y z : Int64} {c : Int32} (q1 : Rn live b0 (s e) x b) (q2 : Rn live b (s2 e) y b2) (ez : opV c x y = none) : Rn live b0 (opN c s s2 e) (cond (bdS live (b2 || live) z) 0 z) (bdS live (b2 || live) z) := by
  refine Rn_op (z := z) (c := c) q1 q2 _ _ rfl ⟨fun hb => by rw [hb]; exact bdS_t, fun hl => by rw [hl, bdS_d]; simp⟩ (fun hl hb => ?_)
  subst hl; subst hb
  rw [ez]
  exact bdS_t
theorem ev_term (q : tokE h base N C V e) {D : Nat} {P : Nat → Nat → PR SN} (hD : 2 ≤ D) (hm : mono N P) (hP : evN cx jX12_partOf D h base N e P) : evN cx jX12_termOf (D + 1) h base N e (pChain opTerm opN P C) := by
  have hN := q.2.1
  intro d t0 lv0 live b0 hd ht0
  have loop : ∀ n t lv s v b l4 l5 l6, 400 < n + t → t ≤ N → Rn live b0 (s e) v b → (pLoop opTerm opN P C n t lv s).1 = true →
      E cx jX12_termOf d 0 6 [some (.ref o_m), some (.int (bI live)), some (.long v), none, l4, l5, l6] [] (ev h (base + t) b) (nQ h (base + (pLoop opTerm opN P C n t lv s).2.1) live b0 ((pLoop opTerm opN P C n t lv s).2.2.2 e)) := by
    intro n
    induction n with
    | zero => intro t lv s v b l4 l5 l6 hn ht; omega
    | succ n ih =>
      intro t lv s v b l4 l5 l6 hn ht rn
      rw [pLoop]
      by_cases op : opTerm (C t) = true
      · rw [if_pos op]
        have tl : t < N := tok_lt q (fun z => by rw [z] at op; exact absurd op (by decide))
        have mo := hm (t + 1) lv (by omega)
        by_cases ok : (P (t + 1) lv).1 = true
        · rw [if_pos ok]
          have hM := hP (d - 1) (t + 1) lv live b (by omega) (by omega) ok
          rw [← ev_inc] at hM
          intro okL
          have e130 : ∀ (z : Int64) (b2 : Bool) (p : Int32) (w : Int64), Rn live b0 (opN (C t) s (P (t + 1) lv).2.2.2 e) (cond (bdS live b2 z) 0 z) (bdS live b2 z) → E cx jX12_termOf d 0 130 [some (.ref o_m), some (.int (bI live)), some (.long v), none, some (.int p), some (.long w), none] [.long z, .ref o_m] (ev h (base + (P (t + 1) lv).2.1) b2) (nQ h (base + (pLoop opTerm opN P C n (P (t + 1) lv).2.1 (P (t + 1) lv).2.2.1 (opN (C t) s (P (t + 1) lv).2.2.2)).2.1) live b0 ((pLoop opTerm opN P C n (P (t + 1) lv).2.1 (P (t + 1) lv).2.2.1 (opN (C t) s (P (t + 1) lv).2.2.2)).2.2.2 e)) := fun z b2 p w r =>
            eX12_termOf (wcV n_bounded (ih _ _ _ _ _ (some (.int p)) (some (.long w)) none (by omega) mo.2.1 r okL))
          have e38 : E cx jX12_termOf d 0 38 [some (.ref o_m), some (.int (bI live)), some (.long v), none, l4, l5, l6] [] (ev h (base + t) b) (nQ h (base + (pLoop opTerm opN P C n (P (t + 1) lv).2.1 (P (t + 1) lv).2.2.1 (opN (C t) s (P (t + 1) lv).2.2.2)).2.1) live b0 ((pLoop opTerm opN P C n (P (t + 1) lv).2.1 (P (t + 1) lv).2.2.1 (opN (C t) s (P (t + 1) lv).2.2.2)).2.2.2 e)) := by
            refine eX12_termOf (wcV (n_codeAt q ev_go (by omega)) (wcS (n_signC (r := 142)) (And.intro (fun q1 => eX12_termOf (eX12_termOf (wcQ hM (fun v2 g z => ?_) nQ_N))) (fun q1 => eX12_termOf (wcQ hM (fun v2 g z => ?_) nQ_N)))))
            · obtain ⟨w, b2, rfl, rfl, rn2⟩ := z
              have c147 : C t = 147 := by
                have : C t = 142 ∨ C t = 147 := by simpa [opTerm] using op
                exact this.resolve_left q1
              refine And.intro (fun z => absurd rfl z) (fun _ => And.intro (fun q2 => ?_) (fun q2 => ?_))
              · have w0 : ¬ w = 0 := fun z => q2 (by rw [z]; exact (lg_cmp_eq _ _).mpr rfl)
                refine eX12_termOf (And.intro (fun _ => eX12_termOf (And.intro w0 (e130 _ _ 0 w (Rn_b rn rn2 ?_)))) (fun z => absurd rfl z))
                unfold opV; rw [if_neg q1, if_pos c147, if_neg w0]
              · have w0 : w = 0 := (lg_cmp_eq _ _).mp q2
                have key : ∀ G, G = ev h (base + (P (t + 1) lv).2.1) (b2 || live) → E cx jX12_termOf d 0 113 [some (.ref o_m), some (.int (bI live)), some (.long v), none, some (.int 0), some (.long 1), none] [] G (nQ h (base + (pLoop opTerm opN P C n (P (t + 1) lv).2.1 (P (t + 1) lv).2.2.1 (opN (C t) s (P (t + 1) lv).2.2.2)).2.1) live b0 ((pLoop opTerm opN P C n (P (t + 1) lv).2.1 (P (t + 1) lv).2.2.1 (opN (C t) s (P (t + 1) lv).2.2.2)).2.2.2 e)) := fun G eG => by
                  subst eG
                  refine eX12_termOf (And.intro (fun _ => eX12_termOf (And.intro (by decide) (e130 _ _ 0 1 (Rn_z rn rn2 ?_)))) (fun z => absurd rfl z))
                  unfold opV; rw [if_neg q1, if_pos c147, if_pos w0]
                refine And.intro (fun q3 => eX12_termOf (eX12_termOf (And.intro (Or.inr rfl) (key _ ?_)))) (fun q3 => And.intro (fun q4 => eX12_termOf (eX12_termOf (And.intro (Or.inl rfl) (key _ ?_)))) (fun q4 => eX12_termOf (eX12_termOf (And.intro (Or.inr rfl) (key _ ?_)))))
                · have : b2 = true := bI_n.mp fun z => q3 (ev_br.trans z)
                  exact ev_w21 (by rw [this]; rfl)
                · have h1 : b2 = false := bI_0.mp (ev_br.symm.trans q3)
                  have h2 : live = false := bI_0.mp q4
                  exact ev_w21 (by rw [h1, h2]; rfl)
                · have h2 : live = true := bI_n.mp q4
                  exact ev_w21 (by rw [h2, Bool.or_true]; rfl)
            · obtain ⟨w, b2, rfl, rfl, rn2⟩ := z
              refine And.intro (fun _ => eX12_termOf (And.intro (fun z => absurd z (by decide)) (fun _ => e130 _ _ 1 w (Rn_b rn rn2 ?_)))) (fun z => absurd z (by decide))
              unfold opV; rw [if_pos q1]
          refine eX12_termOf (wcV (n_codeAt q ev_go (by omega)) (wcS (n_signC (r := 142)) (And.intro (fun _ => e38) (fun q1 => wcV (n_codeAt q ev_go (by omega)) (wcS (n_signC (r := 147)) (And.intro (fun q2 => ?_) (fun _ => e38)))))))
          have : C t = 142 ∨ C t = 147 := by simpa [opTerm] using op
          exact absurd this (fun z => z.elim q1 q2)
        · rw [if_neg ok]; intro z; exact absurd z ok
      · rw [if_neg op]
        intro _
        have n1 : ¬ C t = 142 := fun z => op (by simp [opTerm, z])
        have n2 : ¬ C t = 147 := fun z => op (by simp [opTerm, z])
        exact eX12_termOf (wcV (n_codeAt q ev_go (by omega)) (wcS (n_signC (r := 142)) (And.intro (fun z => absurd z n1) (fun q1 => wcV (n_codeAt q ev_go (by omega)) (wcS (n_signC (r := 147)) (And.intro (fun q2 => eX12_termOf ⟨v, b, rfl, rfl, rn⟩) (fun z => absurd z n2)))))))
  unfold pChain
  by_cases ok : (P t0 lv0).1 = true
  · rw [if_pos ok]
    intro okL
    have mo := hm t0 lv0 ht0
    refine sX12_termOf rfl (wcQ (hP (d - 1) t0 lv0 live b0 (by omega) ht0 ok) (fun v g z => ?_) nQ_N)
    obtain ⟨w, b2, rfl, rfl, rn2⟩ := z
    exact loop 401 _ _ _ w b2 none none none (by omega) mo.2.1 rn2 okL
  · rw [if_neg ok]; intro z; exact absurd z ok
theorem ev_sum (q : tokE h base N C V e) {D : Nat} {P : Nat → Nat → PR SN} (hD : 2 ≤ D) (hm : mono N P) (hP : evN cx jX12_termOf D h base N e P) : evN cx jX12_sumOf (D + 1) h base N e (pChain opSum opN P C) := by
  have hN := q.2.1
  intro d t0 lv0 live b0 hd ht0
  have loop : ∀ n t lv s v b l4 l5 l6, 400 < n + t → t ≤ N → Rn live b0 (s e) v b → (pLoop opSum opN P C n t lv s).1 = true →
      E cx jX12_sumOf d 0 6 [some (.ref o_m), some (.int (bI live)), some (.long v), none, l4, l5, l6] [] (ev h (base + t) b) (nQ h (base + (pLoop opSum opN P C n t lv s).2.1) live b0 ((pLoop opSum opN P C n t lv s).2.2.2 e)) := by
    intro n
    induction n with
    | zero => intro t lv s v b l4 l5 l6 hn ht; omega
    | succ n ih =>
      intro t lv s v b l4 l5 l6 hn ht rn
      rw [pLoop]
      by_cases op : opSum (C t) = true
      · rw [if_pos op]
        have tl : t < N := tok_lt q (fun z => by rw [z] at op; exact absurd op (by decide))
        have mo := hm (t + 1) lv (by omega)
        by_cases ok : (P (t + 1) lv).1 = true
        · rw [if_pos ok]
          have hM := hP (d - 1) (t + 1) lv live b (by omega) (by omega) ok
          rw [← ev_inc] at hM
          intro okL
          have e95 : ∀ (z : Int64) (b2 : Bool) (p : Int32) (w : Int64), Rn live b0 (opN (C t) s (P (t + 1) lv).2.2.2 e) (cond (bdS live b2 z) 0 z) (bdS live b2 z) → E cx jX12_sumOf d 0 95 [some (.ref o_m), some (.int (bI live)), some (.long v), none, some (.int p), some (.long w), none] [.long z, .ref o_m] (ev h (base + (P (t + 1) lv).2.1) b2) (nQ h (base + (pLoop opSum opN P C n (P (t + 1) lv).2.1 (P (t + 1) lv).2.2.1 (opN (C t) s (P (t + 1) lv).2.2.2)).2.1) live b0 ((pLoop opSum opN P C n (P (t + 1) lv).2.1 (P (t + 1) lv).2.2.1 (opN (C t) s (P (t + 1) lv).2.2.2)).2.2.2 e)) := fun z b2 p w r =>
            eX12_sumOf (wcV n_bounded (ih _ _ _ _ _ (some (.int p)) (some (.long w)) none (by omega) mo.2.1 r okL))
          have e38 : E cx jX12_sumOf d 0 38 [some (.ref o_m), some (.int (bI live)), some (.long v), none, l4, l5, l6] [] (ev h (base + t) b) (nQ h (base + (pLoop opSum opN P C n (P (t + 1) lv).2.1 (P (t + 1) lv).2.2.1 (opN (C t) s (P (t + 1) lv).2.2.2)).2.1) live b0 ((pLoop opSum opN P C n (P (t + 1) lv).2.1 (P (t + 1) lv).2.2.1 (opN (C t) s (P (t + 1) lv).2.2.2)).2.2.2 e)) := by
            refine eX12_sumOf (wcV (n_codeAt q ev_go (by omega)) (wcS (n_signC (r := 143)) (And.intro (fun q1 => eX12_sumOf (eX12_sumOf (wcQ hM (fun v2 g z => ?_) nQ_N))) (fun q1 => eX12_sumOf (wcQ hM (fun v2 g z => ?_) nQ_N)))))
            · obtain ⟨w, b2, rfl, rfl, rn2⟩ := z
              have c145 : C t = 145 := by
                have : C t = 143 ∨ C t = 145 := by simpa [opSum] using op
                exact this.resolve_left q1
              refine And.intro (fun _ => eX12_sumOf (e95 _ _ 0 w (Rn_b rn rn2 ?_))) (fun z => absurd rfl z)
              unfold opV; rw [c145]; rfl
            · obtain ⟨w, b2, rfl, rfl, rn2⟩ := z
              refine And.intro (fun z => absurd z (by decide)) (fun _ => e95 _ _ 1 w (Rn_b rn rn2 ?_))
              unfold opV; rw [q1]; rfl
          refine eX12_sumOf (wcV (n_codeAt q ev_go (by omega)) (wcS (n_signC (r := 143)) (And.intro (fun _ => e38) (fun q1 => wcV (n_codeAt q ev_go (by omega)) (wcS (n_signC (r := 145)) (And.intro (fun q2 => ?_) (fun _ => e38)))))))
          have : C t = 143 ∨ C t = 145 := by simpa [opSum] using op
          exact absurd this (fun z => z.elim q1 q2)
        · rw [if_neg ok]; intro z; exact absurd z ok
      · rw [if_neg op]
        intro _
        have n1 : ¬ C t = 143 := fun z => op (by simp [opSum, z])
        have n2 : ¬ C t = 145 := fun z => op (by simp [opSum, z])
        exact eX12_sumOf (wcV (n_codeAt q ev_go (by omega)) (wcS (n_signC (r := 143)) (And.intro (fun z => absurd z n1) (fun q1 => wcV (n_codeAt q ev_go (by omega)) (wcS (n_signC (r := 145)) (And.intro (fun q2 => eX12_sumOf ⟨v, b, rfl, rfl, rn⟩) (fun z => absurd z n2)))))))
  unfold pChain
  by_cases ok : (P t0 lv0).1 = true
  · rw [if_pos ok]
    intro okL
    have mo := hm t0 lv0 ht0
    refine sX12_sumOf rfl (wcQ (hP (d - 1) t0 lv0 live b0 (by omega) ht0 ok) (fun v g z => ?_) nQ_N)
    obtain ⟨w, b2, rfl, rfl, rn2⟩ := z
    exact loop 401 _ _ _ w b2 none none none (by omega) mo.2.1 rn2 okL
  · rw [if_neg ok]; intro z; exact absurd z ok
end T53
