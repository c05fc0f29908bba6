/-! becomeAs; image and back on both sides -/
def cpI (DF DT DL SF ST SL : Nat) (h G : Hp) (n m l : Nat) : Prop := G.2.1 = h.2.1 ∧ G.2.2.2 = h.2.2.2 ∧ (∀ o k, o ≠ DF → o ≠ DT → hI G o k = hI h o k) ∧ (∀ k, hI G DF k = if k < n then hI h SF k else hI h DF k) ∧ (∀ k, hI G DT k = if k < m then hI h ST k else hI h DT k) ∧ (∀ o k, o ≠ DL → hR G o k = hR h o k) ∧ (∀ k, hR G DL k = if k < l then hR h SL k else hR h DL k)
/-- the one wall has become as the other is -/
def becG (D DF DT DL S SF ST SL : Nat) (h g : Hp) : Prop := g.2.1 = h.2.1 ∧ g.2.2.2 = h.2.2.2 ∧ (∀ o k, o ≠ D → o ≠ DF → o ≠ DT → hI g o k = hI h o k) ∧ (∀ k, k < 154 → hI g DF k = hI h SF k) ∧ (∀ k, k < 3 → hI g DT k = hI h ST k) ∧ (∀ k, 3 ≤ k → k ≤ 7 → hI g D k = hI h S k) ∧ (∀ o k, o ≠ DL → hR g o k = hR h o k) ∧ (∀ k, k < 6 → hR g DL k = hR h SL k)
section T9992
variable {cx : Cx} {d a c : Nat} {h g f : Hp} {w w' : Wd} {A A' : Ab} {n s t m l : Nat} {DF DT DL SF ST SL : Nat}
theorem cp_f {v : Int32} (q : cpI DF DT DL SF ST SL h g n m l) (h1 : SF ≠ DF) (h2 : SF ≠ DT) (h3 : DT ≠ DF) (ev : v = hI g SF n) : cpI DF DT DL SF ST SL h (wI g DF n v) (n + 1) m l := by
  obtain ⟨q1, q2, q3, q4, q5, q6, q7⟩ := q
  refine ⟨q1, q2, fun o k n1 n2 => (rd_o n1).trans (q3 o k n1 n2), fun k => ?_, fun k => (rd_o h3).trans (q5 k), q6, q7⟩
  rw [rd_any]
  by_cases e : k = n
  · rw [if_pos ⟨rfl, e⟩, if_pos (by omega), ev, q3 _ _ h1 h2, e]
  · rw [if_neg (fun z => e z.2), q4 k]
    by_cases z : k < n
    · rw [if_pos z, if_pos (by omega)]
    · rw [if_neg z, if_neg (by omega)]
theorem cp_t {v : Int32} (q : cpI DF DT DL SF ST SL h g n m l) (h1 : ST ≠ DF) (h2 : ST ≠ DT) (h3 : DF ≠ DT) (ev : v = hI g ST m) : cpI DF DT DL SF ST SL h (wI g DT m v) n (m + 1) l := by
  obtain ⟨q1, q2, q3, q4, q5, q6, q7⟩ := q
  refine ⟨q1, q2, fun o k n1 n2 => (rd_o n2).trans (q3 o k n1 n2), fun k => (rd_o h3).trans (q4 k), fun k => ?_, q6, q7⟩
  rw [rd_any]
  by_cases e : k = m
  · rw [if_pos ⟨rfl, e⟩, if_pos (by omega), ev, q3 _ _ h1 h2, e]
  · rw [if_neg (fun z => e z.2), q5 k]
    by_cases z : k < m
    · rw [if_pos z, if_pos (by omega)]
    · rw [if_neg z, if_neg (by omega)]
theorem hR_w {o k p i : Nat} {v : Option Nat} : hR (wR g o k v) p i = if p = o then (if i = k then v else hR g p i) else hR g p i := rfl
theorem cp_l {v : Option Nat} (q : cpI DF DT DL SF ST SL h g n m l) (h1 : SL ≠ DL) (ev : v = hR g SL l) : cpI DF DT DL SF ST SL h (wR g DL l v) n m (l + 1) := by
  obtain ⟨q1, q2, q3, q4, q5, q6, q7⟩ := q
  refine ⟨q1, q2, q3, q4, q5, fun o k n1 => by rw [hR_w, if_neg n1]; exact q6 o k n1, fun k => ?_⟩
  rw [hR_w, if_pos rfl]
  by_cases e : k = l
  · rw [if_pos e, if_pos (by omega), ev, q6 _ _ h1, e]
  · rw [if_neg e, q7 k]
    by_cases z : k < l
    · rw [if_pos z, if_pos (by omega)]
    · rw [if_neg z, if_neg (by omega)]
theorem cp_0 : cpI DF DT DL SF ST SL h h 0 0 0 := ⟨rfl, rfl, fun _ _ _ _ => rfl, fun k => by rw [if_neg (by omega)], fun k => by rw [if_neg (by omega)], fun _ _ _ => rfl, fun k => by rw [if_neg (by omega)]⟩
theorem bec_of {D S : Nat} (q : cpI DF DT DL SF ST SL h g 154 3 6) (h1 : D ≠ DF) (h2 : D ≠ DT) (h3 : S ≠ DF) (h4 : S ≠ DT) (ne : S ≠ D) {v3 v4 v5 v6 v7 : Int32} (e3 : v3 = hI g S 3) (e4 : v4 = hI g S 4) (e5 : v5 = hI g S 5) (e6 : v6 = hI g S 6) (e7 : v7 = hI g S 7) : becG D DF DT DL S SF ST SL h (wI (wI (wI (wI (wI g D 3 v3) D 4 v4) D 5 v5) D 6 v6) D 7 v7) := by
  obtain ⟨q1, q2, q3, q4, q5, q6, q7⟩ := q
  have o5 : ∀ o k, o ≠ D → hI (wI (wI (wI (wI (wI g D 3 v3) D 4 v4) D 5 v5) D 6 v6) D 7 v7) o k = hI g o k := fun o k n => by rw [rd_o n, rd_o n, rd_o n, rd_o n, rd_o n]
  refine ⟨q1, q2, fun o k n1 n2 n3 => (o5 o k n1).trans (q3 o k n2 n3), fun k hk => ?_, fun k hk => ?_, fun k h1 h2 => ?_, q6, fun k hk => (q7 k).trans (if_pos hk)⟩
  · rw [o5 _ _ (fun z => h1 z.symm), q4 k, if_pos hk]
  · rw [o5 _ _ (fun z => h2 z.symm), q5 k, if_pos hk]
  · have s : ∀ k, hI g S k = hI h S k := fun k => q3 S k h3 h4
    obtain rfl | rfl | rfl | rfl | rfl : k = 3 ∨ k = 4 ∨ k = 5 ∨ k = 6 ∨ k = 7 := by omega
    · rw [rd_k (by decide), rd_k (by decide), rd_k (by decide), rd_k (by decide), rd_same, e3, s]
    · rw [rd_k (by decide), rd_k (by decide), rd_k (by decide), rd_same, e4, s]
    · rw [rd_k (by decide), rd_k (by decide), rd_same, e5, s]
    · rw [rd_k (by decide), rd_same, e6, s]
    · rw [rd_same, e7, s]
theorem m_become_66_65 (lw : ∀ k, k < 6 → ∀ o, hR h 70 k = some o → lawp h o) : M cx jX10_becomeAs d a [.ref 66, .ref 65] h (fun r g => r = none ∧ becG 66 71 72 73 65 68 69 70 h g) := by
  have l3 : ∀ r i, r + i = 6 → ∀ G, cpI 71 72 73 68 69 70 h G 154 3 i → E cx jX10_becomeAs d a 54 [some (.ref 66), some (.ref 65), some (.int (nI i))] [] G (fun r g => r = none ∧ becG 66 71 72 73 65 68 69 70 h g) := by
    intro r
    induction r with
    | zero =>
      intro i hi G q
      obtain rfl : i = 6 := by omega
      refine eX10_becomeAs (And.intro (fun _ => eX10_becomeAs ⟨rfl, bec_of q (by decide) (by decide) (by decide) (by decide) (by decide) rfl ?_ ?_ ?_ ?_⟩) (fun z => absurd (nI_le (a := 6) (b := 6) (Nat.le_refl _) (by decide)) z))
      · exact rd_o (by decide)
      · exact (rd_o (by decide)).trans (rd_o (by decide))
      · exact (rd_o (by decide)).trans ((rd_o (by decide)).trans (rd_o (by decide)))
      · exact (rd_o (by decide)).trans ((rd_o (by decide)).trans ((rd_o (by decide)).trans (rd_o (by decide))))
    | succ r ih =>
      intro i hi G q
      have v6 : vp_in (nI i) 6 := vp_in_nI (by omega) (by decide)
      have ci : (nI i).toNatClampNeg = i := nI_clamp (by omega)
      have i2 := ih (i + 1) (by omega) _ (cp_l (v := hR G 70 i) q (by decide) rfl)
      rw [nI_succ] at i2
      refine eX10_becomeAs (And.intro (fun z => absurd z (nI_ge (a := i) (b := 6) (by omega) (by decide))) (fun _ => And.intro v6 ?_))
      rw [ci]
      have hN' : hN G = hN h := congrArg (fun z => z.2) q.2.1
      cases e : hR G 70 i with
      | none =>
        rw [e] at i2
        have e0 : hR G (ly_rf 65 2) i = none := e
        rw [e0]
        refine And.intro v6 ?_
        rw [ci]; exact i2
      | some o =>
        rw [e] at i2
        have e0 : hR G (ly_rf 65 2) i = some o := e
        rw [e0]
        have lo := lw i (by omega) o ((q.2.2.2.2.2.1 _ _ (by decide)).symm.trans e)
        refine And.intro v6 (And.intro (show lawp G o by unfold lawp at *; rw [hN']; exact lo) ?_)
        rw [ci]; exact i2
  have l2 : ∀ r i, r + i = 3 → ∀ G, cpI 71 72 73 68 69 70 h G 154 i 0 → E cx jX10_becomeAs d a 29 [some (.ref 66), some (.ref 65), some (.int (nI i))] [] G (fun r g => r = none ∧ becG 66 71 72 73 65 68 69 70 h g) := by
    intro r
    induction r with
    | zero =>
      intro i hi G q
      obtain rfl : i = 3 := by omega
      exact eX10_becomeAs (And.intro (fun _ => eX10_becomeAs (l3 6 0 rfl G q)) (fun z => absurd (nI_le (a := 3) (b := 3) (Nat.le_refl _) (by decide)) z))
    | succ r ih =>
      intro i hi G q
      have v6 : vp_in (nI i) 3 := vp_in_nI (by omega) (by decide)
      have ci : (nI i).toNatClampNeg = i := nI_clamp (by omega)
      have i2 := ih (i + 1) (by omega) _ (cp_t (v := hI G 69 i) q (by decide) (by decide) (by decide) rfl)
      rw [nI_succ] at i2
      refine eX10_becomeAs (And.intro (fun z => absurd z (nI_ge (a := i) (b := 3) (by omega) (by decide))) (fun _ => And.intro v6 (And.intro v6 ?_)))
      rw [ci]; exact i2
  have l1 : ∀ r i, r + i = 154 → ∀ G, cpI 71 72 73 68 69 70 h G i 0 0 → E cx jX10_becomeAs d a 2 [some (.ref 66), some (.ref 65), some (.int (nI i))] [] G (fun r g => r = none ∧ becG 66 71 72 73 65 68 69 70 h g) := by
    intro r
    induction r with
    | zero =>
      intro i hi G q
      obtain rfl : i = 154 := by omega
      exact eX10_becomeAs (And.intro (fun _ => eX10_becomeAs (l2 3 0 rfl G q)) (fun z => absurd (nI_le (a := 154) (b := 154) (Nat.le_refl _) (by decide)) z))
    | succ r ih =>
      intro i hi G q
      have v6 : vp_in (nI i) 154 := vp_in_nI (by omega) (by decide)
      have ci : (nI i).toNatClampNeg = i := nI_clamp (by omega)
      have i2 := ih (i + 1) (by omega) _ (cp_f (v := hI G 68 i) q (by decide) (by decide) (by decide) rfl)
      rw [nI_succ] at i2
      refine eX10_becomeAs (And.intro (fun z => absurd z (nI_ge (a := i) (b := 154) (by omega) (by decide))) (fun _ => And.intro v6 (And.intro v6 ?_)))
      rw [ci]; exact i2
  exact sX10_becomeAs rfl (l1 154 0 rfl h cp_0)
theorem m_become_67_65 (lw : ∀ k, k < 6 → ∀ o, hR h 70 k = some o → lawp h o) : M cx jX10_becomeAs d a [.ref 67, .ref 65] h (fun r g => r = none ∧ becG 67 74 75 76 65 68 69 70 h g) := by
  have l3 : ∀ r i, r + i = 6 → ∀ G, cpI 74 75 76 68 69 70 h G 154 3 i → E cx jX10_becomeAs d a 54 [some (.ref 67), some (.ref 65), some (.int (nI i))] [] G (fun r g => r = none ∧ becG 67 74 75 76 65 68 69 70 h g) := by
    intro r
    induction r with
    | zero =>
      intro i hi G q
      obtain rfl : i = 6 := by omega
      refine eX10_becomeAs (And.intro (fun _ => eX10_becomeAs ⟨rfl, bec_of q (by decide) (by decide) (by decide) (by decide) (by decide) rfl ?_ ?_ ?_ ?_⟩) (fun z => absurd (nI_le (a := 6) (b := 6) (Nat.le_refl _) (by decide)) z))
      · exact rd_o (by decide)
      · exact (rd_o (by decide)).trans (rd_o (by decide))
      · exact (rd_o (by decide)).trans ((rd_o (by decide)).trans (rd_o (by decide)))
      · exact (rd_o (by decide)).trans ((rd_o (by decide)).trans ((rd_o (by decide)).trans (rd_o (by decide))))
    | succ r ih =>
      intro i hi G q
      have v6 : vp_in (nI i) 6 := vp_in_nI (by omega) (by decide)
      have ci : (nI i).toNatClampNeg = i := nI_clamp (by omega)
      have i2 := ih (i + 1) (by omega) _ (cp_l (v := hR G 70 i) q (by decide) rfl)
      rw [nI_succ] at i2
      refine eX10_becomeAs (And.intro (fun z => absurd z (nI_ge (a := i) (b := 6) (by omega) (by decide))) (fun _ => And.intro v6 ?_))
      rw [ci]
      have hN' : hN G = hN h := congrArg (fun z => z.2) q.2.1
      cases e : hR G 70 i with
      | none =>
        rw [e] at i2
        have e0 : hR G (ly_rf 65 2) i = none := e
        rw [e0]
        refine And.intro v6 ?_
        rw [ci]; exact i2
      | some o =>
        rw [e] at i2
        have e0 : hR G (ly_rf 65 2) i = some o := e
        rw [e0]
        have lo := lw i (by omega) o ((q.2.2.2.2.2.1 _ _ (by decide)).symm.trans e)
        refine And.intro v6 (And.intro (show lawp G o by unfold lawp at *; rw [hN']; exact lo) ?_)
        rw [ci]; exact i2
  have l2 : ∀ r i, r + i = 3 → ∀ G, cpI 74 75 76 68 69 70 h G 154 i 0 → E cx jX10_becomeAs d a 29 [some (.ref 67), some (.ref 65), some (.int (nI i))] [] G (fun r g => r = none ∧ becG 67 74 75 76 65 68 69 70 h g) := by
    intro r
    induction r with
    | zero =>
      intro i hi G q
      obtain rfl : i = 3 := by omega
      exact eX10_becomeAs (And.intro (fun _ => eX10_becomeAs (l3 6 0 rfl G q)) (fun z => absurd (nI_le (a := 3) (b := 3) (Nat.le_refl _) (by decide)) z))
    | succ r ih =>
      intro i hi G q
      have v6 : vp_in (nI i) 3 := vp_in_nI (by omega) (by decide)
      have ci : (nI i).toNatClampNeg = i := nI_clamp (by omega)
      have i2 := ih (i + 1) (by omega) _ (cp_t (v := hI G 69 i) q (by decide) (by decide) (by decide) rfl)
      rw [nI_succ] at i2
      refine eX10_becomeAs (And.intro (fun z => absurd z (nI_ge (a := i) (b := 3) (by omega) (by decide))) (fun _ => And.intro v6 (And.intro v6 ?_)))
      rw [ci]; exact i2
  have l1 : ∀ r i, r + i = 154 → ∀ G, cpI 74 75 76 68 69 70 h G i 0 0 → E cx jX10_becomeAs d a 2 [some (.ref 67), some (.ref 65), some (.int (nI i))] [] G (fun r g => r = none ∧ becG 67 74 75 76 65 68 69 70 h g) := by
    intro r
    induction r with
    | zero =>
      intro i hi G q
      obtain rfl : i = 154 := by omega
      exact eX10_becomeAs (And.intro (fun _ => eX10_becomeAs (l2 3 0 rfl G q)) (fun z => absurd (nI_le (a := 154) (b := 154) (Nat.le_refl _) (by decide)) z))
    | succ r ih =>
      intro i hi G q
      have v6 : vp_in (nI i) 154 := vp_in_nI (by omega) (by decide)
      have ci : (nI i).toNatClampNeg = i := nI_clamp (by omega)
      have i2 := ih (i + 1) (by omega) _ (cp_f (v := hI G 68 i) q (by decide) (by decide) (by decide) rfl)
      rw [nI_succ] at i2
      refine eX10_becomeAs (And.intro (fun z => absurd z (nI_ge (a := i) (b := 154) (by omega) (by decide))) (fun _ => And.intro v6 (And.intro v6 ?_)))
      rw [ci]; exact i2
  exact sX10_becomeAs rfl (l1 154 0 rfl h cp_0)
theorem m_become_65_66 (lw : ∀ k, k < 6 → ∀ o, hR h 73 k = some o → lawp h o) : M cx jX10_becomeAs d a [.ref 65, .ref 66] h (fun r g => r = none ∧ becG 65 68 69 70 66 71 72 73 h g) := by
  have l3 : ∀ r i, r + i = 6 → ∀ G, cpI 68 69 70 71 72 73 h G 154 3 i → E cx jX10_becomeAs d a 54 [some (.ref 65), some (.ref 66), some (.int (nI i))] [] G (fun r g => r = none ∧ becG 65 68 69 70 66 71 72 73 h g) := by
    intro r
    induction r with
    | zero =>
      intro i hi G q
      obtain rfl : i = 6 := by omega
      refine eX10_becomeAs (And.intro (fun _ => eX10_becomeAs ⟨rfl, bec_of q (by decide) (by decide) (by decide) (by decide) (by decide) rfl ?_ ?_ ?_ ?_⟩) (fun z => absurd (nI_le (a := 6) (b := 6) (Nat.le_refl _) (by decide)) z))
      · exact rd_o (by decide)
      · exact (rd_o (by decide)).trans (rd_o (by decide))
      · exact (rd_o (by decide)).trans ((rd_o (by decide)).trans (rd_o (by decide)))
      · exact (rd_o (by decide)).trans ((rd_o (by decide)).trans ((rd_o (by decide)).trans (rd_o (by decide))))
    | succ r ih =>
      intro i hi G q
      have v6 : vp_in (nI i) 6 := vp_in_nI (by omega) (by decide)
      have ci : (nI i).toNatClampNeg = i := nI_clamp (by omega)
      have i2 := ih (i + 1) (by omega) _ (cp_l (v := hR G 73 i) q (by decide) rfl)
      rw [nI_succ] at i2
      refine eX10_becomeAs (And.intro (fun z => absurd z (nI_ge (a := i) (b := 6) (by omega) (by decide))) (fun _ => And.intro v6 ?_))
      rw [ci]
      have hN' : hN G = hN h := congrArg (fun z => z.2) q.2.1
      cases e : hR G 73 i with
      | none =>
        rw [e] at i2
        have e0 : hR G (ly_rf 66 2) i = none := e
        rw [e0]
        refine And.intro v6 ?_
        rw [ci]; exact i2
      | some o =>
        rw [e] at i2
        have e0 : hR G (ly_rf 66 2) i = some o := e
        rw [e0]
        have lo := lw i (by omega) o ((q.2.2.2.2.2.1 _ _ (by decide)).symm.trans e)
        refine And.intro v6 (And.intro (show lawp G o by unfold lawp at *; rw [hN']; exact lo) ?_)
        rw [ci]; exact i2
  have l2 : ∀ r i, r + i = 3 → ∀ G, cpI 68 69 70 71 72 73 h G 154 i 0 → E cx jX10_becomeAs d a 29 [some (.ref 65), some (.ref 66), some (.int (nI i))] [] G (fun r g => r = none ∧ becG 65 68 69 70 66 71 72 73 h g) := by
    intro r
    induction r with
    | zero =>
      intro i hi G q
      obtain rfl : i = 3 := by omega
      exact eX10_becomeAs (And.intro (fun _ => eX10_becomeAs (l3 6 0 rfl G q)) (fun z => absurd (nI_le (a := 3) (b := 3) (Nat.le_refl _) (by decide)) z))
    | succ r ih =>
      intro i hi G q
      have v6 : vp_in (nI i) 3 := vp_in_nI (by omega) (by decide)
      have ci : (nI i).toNatClampNeg = i := nI_clamp (by omega)
      have i2 := ih (i + 1) (by omega) _ (cp_t (v := hI G 72 i) q (by decide) (by decide) (by decide) rfl)
      rw [nI_succ] at i2
      refine eX10_becomeAs (And.intro (fun z => absurd z (nI_ge (a := i) (b := 3) (by omega) (by decide))) (fun _ => And.intro v6 (And.intro v6 ?_)))
      rw [ci]; exact i2
  have l1 : ∀ r i, r + i = 154 → ∀ G, cpI 68 69 70 71 72 73 h G i 0 0 → E cx jX10_becomeAs d a 2 [some (.ref 65), some (.ref 66), some (.int (nI i))] [] G (fun r g => r = none ∧ becG 65 68 69 70 66 71 72 73 h g) := by
    intro r
    induction r with
    | zero =>
      intro i hi G q
      obtain rfl : i = 154 := by omega
      exact eX10_becomeAs (And.intro (fun _ => eX10_becomeAs (l2 3 0 rfl G q)) (fun z => absurd (nI_le (a := 154) (b := 154) (Nat.le_refl _) (by decide)) z))
    | succ r ih =>
      intro i hi G q
      have v6 : vp_in (nI i) 154 := vp_in_nI (by omega) (by decide)
      have ci : (nI i).toNatClampNeg = i := nI_clamp (by omega)
      have i2 := ih (i + 1) (by omega) _ (cp_f (v := hI G 71 i) q (by decide) (by decide) (by decide) rfl)
      rw [nI_succ] at i2
      refine eX10_becomeAs (And.intro (fun z => absurd z (nI_ge (a := i) (b := 154) (by omega) (by decide))) (fun _ => And.intro v6 (And.intro v6 ?_)))
      rw [ci]; exact i2
  exact sX10_becomeAs rfl (l1 154 0 rfl h cp_0)
theorem m_become_65_67 (lw : ∀ k, k < 6 → ∀ o, hR h 76 k = some o → lawp h o) : M cx jX10_becomeAs d a [.ref 65, .ref 67] h (fun r g => r = none ∧ becG 65 68 69 70 67 74 75 76 h g) := by
  have l3 : ∀ r i, r + i = 6 → ∀ G, cpI 68 69 70 74 75 76 h G 154 3 i → E cx jX10_becomeAs d a 54 [some (.ref 65), some (.ref 67), some (.int (nI i))] [] G (fun r g => r = none ∧ becG 65 68 69 70 67 74 75 76 h g) := by
    intro r
    induction r with
    | zero =>
      intro i hi G q
      obtain rfl : i = 6 := by omega
      refine eX10_becomeAs (And.intro (fun _ => eX10_becomeAs ⟨rfl, bec_of q (by decide) (by decide) (by decide) (by decide) (by decide) rfl ?_ ?_ ?_ ?_⟩) (fun z => absurd (nI_le (a := 6) (b := 6) (Nat.le_refl _) (by decide)) z))
      · exact rd_o (by decide)
      · exact (rd_o (by decide)).trans (rd_o (by decide))
      · exact (rd_o (by decide)).trans ((rd_o (by decide)).trans (rd_o (by decide)))
      · exact (rd_o (by decide)).trans ((rd_o (by decide)).trans ((rd_o (by decide)).trans (rd_o (by decide))))
    | succ r ih =>
      intro i hi G q
      have v6 : vp_in (nI i) 6 := vp_in_nI (by omega) (by decide)
      have ci : (nI i).toNatClampNeg = i := nI_clamp (by omega)
      have i2 := ih (i + 1) (by omega) _ (cp_l (v := hR G 76 i) q (by decide) rfl)
      rw [nI_succ] at i2
      refine eX10_becomeAs (And.intro (fun z => absurd z (nI_ge (a := i) (b := 6) (by omega) (by decide))) (fun _ => And.intro v6 ?_))
      rw [ci]
      have hN' : hN G = hN h := congrArg (fun z => z.2) q.2.1
      cases e : hR G 76 i with
      | none =>
        rw [e] at i2
        have e0 : hR G (ly_rf 67 2) i = none := e
        rw [e0]
        refine And.intro v6 ?_
        rw [ci]; exact i2
      | some o =>
        rw [e] at i2
        have e0 : hR G (ly_rf 67 2) i = some o := e
        rw [e0]
        have lo := lw i (by omega) o ((q.2.2.2.2.2.1 _ _ (by decide)).symm.trans e)
        refine And.intro v6 (And.intro (show lawp G o by unfold lawp at *; rw [hN']; exact lo) ?_)
        rw [ci]; exact i2
  have l2 : ∀ r i, r + i = 3 → ∀ G, cpI 68 69 70 74 75 76 h G 154 i 0 → E cx jX10_becomeAs d a 29 [some (.ref 65), some (.ref 67), some (.int (nI i))] [] G (fun r g => r = none ∧ becG 65 68 69 70 67 74 75 76 h g) := by
    intro r
    induction r with
    | zero =>
      intro i hi G q
      obtain rfl : i = 3 := by omega
      exact eX10_becomeAs (And.intro (fun _ => eX10_becomeAs (l3 6 0 rfl G q)) (fun z => absurd (nI_le (a := 3) (b := 3) (Nat.le_refl _) (by decide)) z))
    | succ r ih =>
      intro i hi G q
      have v6 : vp_in (nI i) 3 := vp_in_nI (by omega) (by decide)
      have ci : (nI i).toNatClampNeg = i := nI_clamp (by omega)
      have i2 := ih (i + 1) (by omega) _ (cp_t (v := hI G 75 i) q (by decide) (by decide) (by decide) rfl)
      rw [nI_succ] at i2
      refine eX10_becomeAs (And.intro (fun z => absurd z (nI_ge (a := i) (b := 3) (by omega) (by decide))) (fun _ => And.intro v6 (And.intro v6 ?_)))
      rw [ci]; exact i2
  have l1 : ∀ r i, r + i = 154 → ∀ G, cpI 68 69 70 74 75 76 h G i 0 0 → E cx jX10_becomeAs d a 2 [some (.ref 65), some (.ref 67), some (.int (nI i))] [] G (fun r g => r = none ∧ becG 65 68 69 70 67 74 75 76 h g) := by
    intro r
    induction r with
    | zero =>
      intro i hi G q
      obtain rfl : i = 154 := by omega
      exact eX10_becomeAs (And.intro (fun _ => eX10_becomeAs (l2 3 0 rfl G q)) (fun z => absurd (nI_le (a := 154) (b := 154) (Nat.le_refl _) (by decide)) z))
    | succ r ih =>
      intro i hi G q
      have v6 : vp_in (nI i) 154 := vp_in_nI (by omega) (by decide)
      have ci : (nI i).toNatClampNeg = i := nI_clamp (by omega)
      have i2 := ih (i + 1) (by omega) _ (cp_f (v := hI G 74 i) q (by decide) (by decide) (by decide) rfl)
      rw [nI_succ] at i2
      refine eX10_becomeAs (And.intro (fun z => absurd z (nI_ge (a := i) (b := 154) (by omega) (by decide))) (fun _ => And.intro v6 (And.intro v6 ?_)))
      rw [ci]; exact i2
  exact sX10_becomeAs rfl (l1 154 0 rfl h cp_0)
end T9992
