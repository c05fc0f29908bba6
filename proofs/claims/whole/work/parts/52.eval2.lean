/-! the model's walk: parts, terms, sums -/
section T52
variable {cx : Cx} {d a : Nat} {h g : Hp} {base N : Nat} {C V : Nat → Int32} {e : Env}
theorem n_signC {c r : Int32} (er : (100 : Int32) + c = r := by decide) : M cx jX12_sign d a [.int c] h (RQ (.int r) h) := by subst er; exact n_sign
theorem n_passT {t : Nat} {b : Bool} {c : Int32} (hd : 1 ≤ d) (q : tokE h base N C V e) (ht : t ≤ 1000) (hc : C t = c) : M cx jX12_passes0 d a [.ref o_m, .int c] (ev h (base + t) b) (RQ (.int 1) (ev h (base + (t + 1)) b)) := by
  have := n_passes (cx := cx) (d := d) (a := a) (b := b) (c := c) hd q ht
  rw [b2i_t hc, if_pos hc] at this; exact this
theorem n_passF {t : Nat} {b : Bool} {c : Int32} (hd : 1 ≤ d) (q : tokE h base N C V e) (ht : t ≤ 1000) (hc : ¬ C t = c) : M cx jX12_passes0 d a [.ref o_m, .int c] (ev h (base + t) b) (RQ (.int 0) (ev h (base + t) b)) := by
  have := n_passes (cx := cx) (d := d) (a := a) (b := b) (c := c) hd q ht
  rw [b2i_f hc, if_neg hc] at this; exact this
theorem ev_inc {t : Nat} {b : Bool} : wI (ev h (base + t) b) o_m 19 (hI (ev h (base + t) b) o_m 19 + 1) = ev h (base + (t + 1)) b := ev_w19 (by rw [ev_go, ← nI_succ]; rfl)
/-- method j walks as parser P reads -/
def evN (cx : Cx) (j D : Nat) (h : Hp) (base N : Nat) (e : Env) (P : Nat → Nat → PR SN) : Prop := ∀ (d t lv : Nat) (live b : Bool), D ≤ d → t ≤ N → (P t lv).1 = true → M cx j d 0 [.ref o_m, .int (bI live)] (ev h (base + t) b) (nQ h (base + (P t lv).2.1) live b ((P t lv).2.2.2 e))
theorem e_partLeaf (q : tokE h base N C V e) {t : Nat} {live b : Bool} (hd : 2 ≤ d) (ht : t < N) (hl : isLeaf (C t) (V t)) (h191 : ¬ C t = 191) : M cx jX12_partOf d 0 [.ref o_m, .int (bI live)] (ev h (base + t) b) (nQ h (base + (t + 1)) live b (leafS (C t) (V t) e)) := by
  have hN := q.2.1
  have hb := q.2.2.1
  refine sX12_partOf rfl (wcS n_signC (wcV (n_passF (by omega) q (by omega) h191) (And.intro (fun _ => eX12_partOf (wcV (n_codeAt q ev_go (by omega)) ?_)) (fun z => absurd rfl z))))
  have dead : ¬ (live = true ∧ b = false) → E cx jX12_partOf d 0 60 [some (.ref o_m), some (.int (bI live)), some (.int (C t)), none] [] (ev h (base + (t + 1)) b) (nQ h (base + (t + 1)) live b (leafS (C t) (V t) e)) := fun z =>
    eX12_partOf ⟨_, b, rfl, rfl, fun y => absurd y z, fun _ => rfl⟩
  refine And.intro (fun q1 => e_eq (dead fun z => ?_) rfl rfl ev_inc) (fun q1 => And.intro (fun q2 => e_eq (eX12_partOf ?_) rfl rfl ev_inc) (fun q2 => e_eq (dead fun z => ?_) rfl rfl ev_inc))
  · rw [bI_0.mp q1] at z; exact absurd z.1 (by decide)
  · have q2 : hI (ev h (base + (t + 1)) b) o_m 21 = 0 := (congrArg (fun G => hI G o_m 21) ev_inc.symm).trans q2
    have q2 : b = false := bI_0.mp (ev_br.symm.trans q2)
    have hlv : live = true := bI_n.mp q1
    have lf : ∀ w : Int32, w = (if C t = 50 then V t else e ((C t).toNatClampNeg - 7)) → nQ h (base + (t + 1)) live b (leafS (C t) (V t) e) (some (.long w.toInt64)) (ev h (base + (t + 1)) b) := fun w ew => by
      refine ⟨_, b, rfl, rfl, fun _ => ?_, fun _ => rfl⟩
      show b = false ∧ w.toInt64 = _
      exact ⟨q2, by rw [ew]⟩
    refine And.intro (fun q3 => eX12_partOf (And.intro ?_ (eX12_partOf (lf _ ?_)))) (fun q3 => And.intro ?_ (eX12_partOf (lf _ ?_)))
    · have hl : 7 ≤ C t ∧ C t ≤ 14 := hl.resolve_left fun z => q3 z.1
      show vp_in (C t - 7) 8
      rcases pk_ix (C t) (n := 15) (by decide) with z | z | ⟨j, hj, ej⟩
      · exact absurd (Int32.lt_of_lt_of_le z (show (0 : Int32) ≤ 7 by decide)) (Int32.not_lt.mpr hl.1)
      · exact absurd (Int32.le_trans z hl.2) (by decide)
      · have h7 : 7 ≤ j := Nat.le_of_not_lt fun z => absurd (ej ▸ hl.1) (nI_ge (a := j) (b := 7) z (by decide))
        rw [ej, show (7 : Int32) = nI 7 from rfl, pk_sub h7]
        exact vp_in_nI (by omega) (by decide)
    · have hl : 7 ≤ C t ∧ C t ≤ 14 := hl.resolve_left fun z => q3 z.1
      show hI (ev h (base + (t + 1)) b) o_m_asked (C t - 7).toNatClampNeg = _
      rcases pk_ix (C t) (n := 15) (by decide) with z | z | ⟨j, hj, ej⟩
      · exact absurd (Int32.lt_of_lt_of_le z (show (0 : Int32) ≤ 7 by decide)) (Int32.not_lt.mpr hl.1)
      · exact absurd (Int32.le_trans z hl.2) (by decide)
      · have h7 : 7 ≤ j := Nat.le_of_not_lt fun z => absurd (ej ▸ hl.1) (nI_ge (a := j) (b := 7) z (by decide))
        rw [if_neg q3, ej, show (7 : Int32) = nI 7 from rfl, pk_sub h7, nI_clamp (by omega), nI_clamp (by omega), ev_o (by decide)]
        exact q.2.2.2.2.2 (j - 7) (by omega)
    · show vp_in ((2568 : Int32) + hI (ev h (base + (t + 1)) b) o_m 19 - 1) 4968
      rw [ev_go, show (2568 : Int32) = nI 2568 from rfl, nI_add, show (1 : Int32) = nI 1 from rfl, pk_sub (by omega)]
      exact vp_in_nI (by omega) (by decide)
    · show hI (ev h (base + (t + 1)) b) o_m_kept ((2568 : Int32) + hI (ev h (base + (t + 1)) b) o_m 19 - 1).toNatClampNeg = _
      rw [ev_go, show (2568 : Int32) = nI 2568 from rfl, nI_add, show (1 : Int32) = nI 1 from rfl, pk_sub (by omega), nI_clamp (by omega), if_pos q3, ev_o (by decide)]
      have := (q.2.2.2.1 t ht).2
      rw [← this]; congr 1
  · have q2 : ¬ hI (ev h (base + (t + 1)) b) o_m 21 = 0 := fun y => q2 ((congrArg (fun G => hI G o_m 21) ev_inc).trans y)
    exact q2 (ev_br.trans (by rw [z.2]; rfl))
theorem ev_part (q : tokE h base N C V e) {D : Nat} {nx : Option (Nat → Nat → PR SN)} (hnx : ∀ S, nx = some S → evN cx jX12_sumOf D h base N e S) (hmo : ∀ S, nx = some S → mono N S) : evN cx jX12_partOf (D + 3) h base N e (pPart C V nx) := by
  intro d t lv live b hd ht
  have hN := q.2.1
  unfold pPart
  by_cases h191 : C t = 191
  · rw [if_pos h191]
    match nx, hnx, hmo with
    | none, _, _ => intro z; exact absurd z (by simp [pBrk])
    | some S, hnx, hmo =>
      have hS := hnx S rfl
      have tl : t < N := tok_lt q (by rw [h191]; decide)
      unfold pBrk
      simp only []
      by_cases ok : (S (t + 1) lv).1 = true
      · rw [if_pos ok]
        by_cases cl : C (S (t + 1) lv).2.1 = 193
        · rw [if_pos cl]
          intro _
          have hM := hS (d - 1) (t + 1) lv live b (by omega) (by omega) ok
          refine sX12_partOf rfl (wcS n_signC (wcV (n_passT (by omega) q (by omega) h191) (And.intro (fun z => absurd z (by decide)) (fun _ => wcQ hM (fun v g z => ?_) nQ_N))))
          obtain ⟨v, b', rfl, rfl, rn⟩ := z
          exact ⟨v, b', rfl, ev_inc, rn⟩
        · rw [if_neg cl]; intro z; cases z
      · rw [if_neg ok]; intro z; cases z
  · rw [if_neg h191]
    by_cases lf : isLeaf (C t) (V t) ∧ lv < 50
    · rw [if_pos lf]
      intro _
      have tl : t < N := tok_lt q (leaf_ne0 lf.1)
      exact e_partLeaf q (by omega) tl lf.1 h191
    · rw [if_neg lf]; intro z; cases z
end T52
