/-! calls that change the wall, on both sides -/
section T995
variable {cx : Cx} {d a c : Nat} {h g f : Hp} {w w' : Wd} {A : Ab} {n s t : Nat}
theorem cs_same (e : ∀ k, 162 ≤ k → w' k = w k) (f : Nat) : nOf w' f = nOf w f ∧ cOf w' f = cOf w f ∧ vOf w' f = vOf w f ∧ csOf w' f = csOf w f := by
  have e1 : nOf w' f = nOf w f := by unfold nOf; rw [e _ (by omega)]
  have e2 : cOf w' f = cOf w f := funext fun k => by unfold cOf; rw [e1, e _ (by omega)]
  have e3 : vOf w' f = vOf w f := funext fun k => by unfold vOf; rw [e1, e _ (by omega)]
  exact ⟨e1, e2, e3, by unfold csOf; rw [e1, e2, e3]⟩
theorem wL_same {ol : Nat} (e : ∀ k, 162 ≤ k → w' k = w k) (e160 : w' 160 = w 160) (q : wL w h ol) : wL w' h ol := ⟨q.1, fun t et ht f hf => by rw [(cs_same e f).2.2.2]; exact q.2 t (e160.symm.trans et) ht f hf⟩
theorem wfL_same (e : ∀ k, 162 ≤ k → w' k = w k) (q : wfL w t) : wfL w' t := fun f hf => by
  have := q f hf
  obtain ⟨e1, e2, e3, -⟩ := cs_same e f
  rw [e1, e2, e3]
  obtain ⟨l1, l2, l3, l4, l5⟩ := this
  exact ⟨(e _ (by omega)).trans l1, l2, fun k hk => ⟨(e _ (by omega)).trans (l3 k hk).1, (e _ (by omega)).trans (l3 k hk).2⟩, l4, l5⟩
def wallX (w' : Wd) (r : Int32) (h : Hp) : Option Value → Hp → Prop := fun v g => v = some (.int r) ∧ wFm w' g ∧ hI g o_x 9 = 0 ∧ hI g o_x 12 = 1 ∧ g.2.2 = h.2.2 ∧ ∀ o k, ¬ (o = 65 ∨ o = 68 ∨ o = 69) → ¬ (o = 64 ∧ (k = 9 ∨ k = 12)) → ¬ (84 ≤ o ∧ o ≤ 100) → hI g o k = hI h o k
def wallM (c : Nat) (w w' : Wd) (r : Int32) (h : Hp) : Option Value → Hp → Prop := fun v g => v = some (.int r) ∧ ∃ G1 G, keepM h G1 ∧ mC c w G1 ∧ kW G = w' ∧ G.2 = G1.2 ∧ (∀ o k, o ≠ 106 → hI G o k = hI G1 o k) ∧ g = ngoodH G
theorem wfA_wall (wf : wfA A) (ww : wfW w') : wfA (goodA (up1 A 0 w')) := by
  refine wfA_good ?_
  obtain ⟨q1, q2, q3, q4, q5⟩ := wf
  refine ⟨ww, fun k hk => ?_, q3, q4, q5⟩
  have e : up1 A 0 w' (1 + k) = A (1 + k) := if_neg (by omega)
  rw [e]; exact q2 k hk
theorem RX_wall (e160 : ∀ k, 160 ≤ k → k ≠ 161 → w' k = A 0 k) (p : RXd A h) (im : imR h) (wf : wFm w' g) (e9 : hI g o_x 9 = 0) (e12 : hI g o_x 12 = 1) (eR : g.2.2 = h.2.2) (eI : ∀ o k, ¬ (o = 65 ∨ o = 68 ∨ o = 69) → ¬ (o = 64 ∧ (k = 9 ∨ k = 12)) → ¬ (84 ≤ o ∧ o ≤ 100) → hI g o k = hI h o k) : RX (goodA (up1 A 0 w')) g := by
  obtain ⟨⟨p1, p1'⟩, p2, p3, p4, p5, p6, p7, p8, ⟨r1, r2, r3, r4, r5⟩, p14, p15⟩ := p
  have lw : ∀ w ol, wL w h ol → wL w g ol := fun w ol z => wL_c (fun k => congrArg (fun z => z.1 ol k) eR) (fun p k hp => eI p k (by omega) (by omega) (by omega)) (fun p => congrArg (fun z => z.2.1 p) eR) (Nat.le_of_eq (congrArg (fun z => z.2.2) eR).symm) z
  refine ⟨⟨⟨wf, wL_same (fun k hk => e160 k (by omega) (by omega)) (e160 160 (by decide) (by decide)) (lw _ _ p1')⟩, fun k hk z => ?_, fun k hk => ?_, fun k hk => ?_, ?_, ?_, ?_, e9, ⟨?_, ?_, ?_, ?_, ?_⟩, fun k hk => ?_, ?_⟩, ⟨Or.inr e12, imR_e eR im⟩, fun z => absurd (e12.symm.trans z) (by decide)⟩
  · have e : goodA (up1 A 0 w') (1 + k) = A (1 + k) := by
      unfold goodA; rw [up2_o (by omega)]; exact if_neg (by omega)
    rw [e]
    have z : A 3 k = 1 := z
    exact ⟨wF_c (fun o j ho => eI o j (by omega) (by omega) (by omega)) (p2 k hk z).1, lw _ _ (p2 k hk z).2⟩
  · exact (eI _ _ (by decide) (fun y => absurd y.1 (by decide)) (by decide)).trans (p3 k hk)
  · exact (eI _ _ (by decide) (fun y => absurd y.1 (by decide)) (by decide)).trans (p4 k hk)
  · exact (eI _ _ (by decide) (by decide) (by decide)).trans p5
  · exact (eI _ _ (by decide) (by decide) (by decide)).trans p6
  · exact (eI _ _ (by decide) (by decide) (by decide)).trans p7
  · exact (eI _ _ (by decide) (by decide) (by decide)).trans r1
  · exact (eI _ _ (by decide) (by decide) (by decide)).trans r2
  · exact (eI _ _ (by decide) (by decide) (by decide)).trans r3
  · exact (eI _ _ (by decide) (by decide) (by decide)).trans r4
  · exact (eI _ _ (by decide) (by decide) (by decide)).trans r5
  · exact (eI _ _ (by decide) (fun y => absurd y.1 (by decide)) (by decide)).trans (p14 k hk)
  · exact (eI _ _ (by decide) (by decide) (by decide)).trans p15
theorem RM_wall {G1 G : Hp} (hc : c < 1000) (p : RMd A h) (kM : keepM h G1) (m : mC c (A 0) G1) (eW : kW G = w') (e2 : G.2 = G1.2) (eI : ∀ o k, o ≠ 106 → hI G o k = hI G1 o k) : RM (c + 1) (goodA (up1 A 0 w')) (ngoodH G) ∧ keepC h (ngoodH G) :=
  ⟨RM_good hc m (fun k _ => eI _ _ (by decide)) (RMd_wall (RMd_keep p kM) eW fun o k _ _ h3 => eI o k h3), keepC_t (keepM_C kM) (keepC_t ⟨e2, fun o k ho => eI o k (by omega)⟩ keepC_good)⟩
theorem stp_wall {jx jm : Nat} {vs : List Value} {r : Int32} (wf : wfA A) (ww : wfW w') (e160 : ∀ k, 160 ≤ k → k ≠ 161 → w' k = A 0 k)
    (X : ∀ d a h, 200 ≤ d → RX A h → M cx jx d a (.ref o_x :: vs) h (wallX w' r h)) (Y : ∀ d c h, 200 ≤ d → RM c A h → M cx jm d 0 (.ref o_m :: vs) h (wallM c (A 0) w' r h)) : stp cx jx jm vs A := by
  refine ⟨r, goodA (up1 A 0 w'), wfA_wall wf ww, fun d a h hd _ p => M_mono (X d a h hd p) ?_, fun d c h hd hc p => M_mono (Y d c h hd p) ?_⟩
  · rintro v g ⟨rfl, x1, x2, x3, x4, x5⟩
    exact ⟨rfl, RX_wall e160 p.1 p.2.1.2 x1 x2 x3 x4 x5, fun o k h1 h2 => x5 o k (by omega) (by omega) (by omega)⟩
  · rintro v g ⟨rfl, G1, G, y1, y2, y3, y4, y5, rfl⟩
    exact ⟨rfl, RM_wall hc p.1 y1 y2 y3 y4 y5⟩
/-- a single write on the model's side -/
theorem wallM_w {k : Nat} {v r : Int32} (p : RM c A h) : ∀ u g, RQ (.int r) (ngoodH (wI h o_m_kept k v)) u g → wallM c (A 0) (updW (A 0) k v) r h u g := by
  rintro u g ⟨rfl, rfl⟩
  exact ⟨rfl, h, wI h o_m_kept k v, keepM_r, p.2, by rw [kW_w, p.1.1], rfl, fun o k ho => rd_o ho, rfl⟩
/-! put -/
theorem box_same {i : Nat} (e : ∀ j, j < 4 → w' (7 * i + j) = w (7 * i + j)) (q : box w i) : box w' i := by
  obtain ⟨x, y, A, B, h1, h2, h3, h4, r⟩ := q
  exact ⟨x, y, A, B, (e 0 (by decide)).trans h1, (e 1 (by decide)).trans h2, (e 2 (by decide)).trans h3, (e 3 (by decide)).trans h4, r⟩
theorem dsj_same {i j : Nat} (e1 : ∀ k, k < 4 → w' (7 * i + k) = w (7 * i + k)) (e2 : ∀ k, k < 4 → w' (7 * j + k) = w (7 * j + k)) (q : dsj w i j) : dsj w' i j := by
  unfold dsj bX at *
  rw [e1 0 (by decide), e1 1 (by decide), e1 2 (by decide), e1 3 (by decide), e2 0 (by decide), e2 1 (by decide), e2 2 (by decide), e2 3 (by decide)]
  exact q
theorem item_same {i : Nat} (e1 : w' 157 = w 157) (e2 : w' 158 = w 158) : cItem w' i ↔ cItem w i := by unfold cItem cStone; rw [e1, e2]
theorem wfI_same (e : ∀ i j, i < 22 → j < 4 → w' (7 * i + j) = w (7 * i + j)) (e1 : w' 157 = w 157) (e2 : w' 158 = w 158) (q : wfI w) : wfI w' :=
  ⟨fun i hi ci => box_same (fun j hj => e i j hi hj) (q.1 i hi ((item_same e1 e2).mp ci)), fun i j hi hj ne ci cj => dsj_same (fun k hk => e i k hi hk) (fun k hk => e j k hj hk) (q.2 i j hi hj ne ((item_same e1 e2).mp ci) ((item_same e1 e2).mp cj))⟩
theorem wF_fact {k : Nat} {v : Int32} (hk : k < 154) (q : wFm w h) : wFm (updW w k v) (wI h o_wall_facts k v) := by
  obtain ⟨q1, q2, q3, q4, q5, q6, q7⟩ := q
  refine ⟨fun i hi => ?_, fun i hi => ?_, ?_, ?_, ?_, ?_, ?_⟩
  · rw [rd_any]; unfold updW
    by_cases e : i = k
    · rw [if_pos ⟨rfl, e⟩, if_pos e]
    · rw [if_neg (fun z => e z.2), if_neg e]; exact q1 i hi
  · rw [rd_o (by decide), updW_n (by omega)]; exact q2 i hi
  · rw [rd_o (by decide), updW_n (by omega)]; exact q3
  · rw [rd_o (by decide), updW_n (by omega)]; exact q4
  · rw [rd_o (by decide), updW_n (by omega)]; exact q5
  · rw [rd_o (by decide), updW_n (by omega)]; exact q6
  · rw [rd_o (by decide), updW_n (by omega)]; exact q7
theorem wF_term {k : Nat} {v : Int32} (hk : k < 3) (q : wFm w h) : wFm (updW w (154 + k) v) (wI h o_wall_terms k v) := by
  obtain ⟨q1, q2, q3, q4, q5, q6, q7⟩ := q
  refine ⟨fun i hi => ?_, fun i hi => ?_, ?_, ?_, ?_, ?_, ?_⟩
  · rw [rd_o (by decide), updW_n (by omega)]; exact q1 i hi
  · rw [rd_any]; unfold updW
    by_cases e : i = k
    · rw [if_pos ⟨rfl, e⟩, if_pos (by omega)]
    · rw [if_neg (fun z => e z.2), if_neg (by omega)]; exact q2 i hi
  · rw [rd_o (by decide), updW_n (by omega)]; exact q3
  · rw [rd_o (by decide), updW_n (by omega)]; exact q4
  · rw [rd_o (by decide), updW_n (by omega)]; exact q5
  · rw [rd_o (by decide), updW_n (by omega)]; exact q6
  · rw [rd_o (by decide), updW_n (by omega)]; exact q7
/-- numbers of the wall: 3 stones, 4 spares, 5 there, 6 laws, 7 in force -/
theorem wF_num {k : Nat} {v : Int32} (hk : 3 ≤ k ∧ k ≤ 7) (q : wFm w h) : wFm (updW w (154 + k) v) (wI h o_wall k v) := by
  obtain ⟨q1, q2, q3, q4, q5, q6, q7⟩ := q
  refine ⟨fun i hi => ?_, fun i hi => ?_, ?_⟩
  · rw [rd_o (by decide), updW_n (by omega)]; exact q1 i hi
  · rw [rd_o (by decide), updW_n (by omega)]; exact q2 i hi
  have e : ∀ j, 3 ≤ j → j ≤ 7 → hI h o_wall j = w (154 + j) → hI (wI h o_wall k v) o_wall j = updW w (154 + k) v (154 + j) := fun j h1 h2 e => by
    rw [rd_any]; unfold updW
    by_cases z : j = k
    · rw [if_pos ⟨rfl, z⟩, if_pos (by omega)]
    · rw [if_neg (fun y => z y.2), if_neg (by omega)]; exact e
  exact ⟨e 3 (by decide) (by decide) q3, e 4 (by decide) (by decide) q4, e 5 (by decide) (by decide) q5, e 6 (by decide) (by decide) q6, e 7 (by decide) (by decide) q7⟩
theorem wF_x {k : Nat} {v : Int32} (q : wFm w h) : wFm w (wI h o_x k v) := wF_c (fun o k ho => rd_o (by rcases ho with z | z | z <;> subst z <;> decide)) q
/-- stale, then a write to the wall, then accepted -/
theorem wallX_w {o k : Nat} {v r : Int32} (ho : o = 65 ∨ o = 68 ∨ o = 69) (q : wFm w' (wI (wI h o_x 12 1) o k v)) : wallX w' r h (some (.int r)) (wI (wI (wI h o_x 12 1) o k v) o_x 9 0) :=
  ⟨rfl, wF_x q, rd_same, by rw [rd_k (by decide), rd_o (by rcases ho with z | z | z <;> subst z <;> decide), rd_same], rfl, fun p i h1 h2 h3 => by rw [rd_any, if_neg (fun z => h2 ⟨z.1, Or.inl z.2⟩), rd_o (by omega), rd_any, if_neg (fun z => h2 ⟨z.1, Or.inr z.2⟩)]⟩
end T995
