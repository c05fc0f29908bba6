/-! the state behind a write of the model -/
def updW (w : Wd) (i : Nat) (v : Int32) : Wd := fun k => if k = i then v else w k
def up1 (A : Ab) (i : Nat) (w : Wd) : Ab := fun j => if j = i then w else A j
section T77
variable {cx : Cx} {d a c : Nat} {h g f : Hp} {w : Wd} {A : Ab}
theorem up2_s {α : Type} {F : Nat → Nat → α} {o k : Nat} {v : α} : up2 F o k v o k = v := by simp [up2]
theorem up2_n {α : Type} {F : Nat → Nat → α} {o k k' : Nat} {v : α} (n : k' ≠ k) : up2 F o k v o k' = F o k' := by simp [up2, n]
theorem up2_o {α : Type} {F : Nat → Nat → α} {o o' k : Nat} {v : α} (n : o' ≠ o) : up2 F o k v o' = F o' := by funext b; simp [up2, n]
theorem kW_w {k : Nat} {v : Int32} : kW (wI h o_m_kept k v) = updW (kW h) k v := funext fun i => by show hI (wI h o_m_kept k v) o_m_kept i = _; rw [rd_any]; unfold updW; simp
theorem updW_s {i : Nat} {v : Int32} : updW w i v i = v := if_pos rfl
theorem updW_n {i k : Nat} {v : Int32} (n : k ≠ i) : updW w i v k = w k := if_neg n
theorem updW_0 {k : Nat} {v : Int32} : up2 A 0 k v 0 = updW (A 0) k v := funext fun i => by unfold updW; simp [up2]
theorem RMd_m10 {v : Int32} (p : RMd A h) : RMd (up2 A 5 0 v) (wI h o_m 10 v) := by
  obtain ⟨p1, p2, p3, p4, p5, p6, p7, p8, p9, p10, p11, p12⟩ := p
  exact ⟨(funext fun k => rd_o (by decide)).trans p1, fun k i hk hi => ((rd_o (by decide)).trans (p2 k i hk hi)).trans (congrFun (up2_o (by omega)).symm i), fun k hk => (rd_o (by decide)).trans (p3 k hk), fun k hk => (rd_o (by decide)).trans (p4 k hk), rd_same, (rd_k (by decide)).trans (p6), (rd_k (by decide)).trans (p7), (rd_k (by decide)).trans (p8), fun k hk => (rd_o (by decide)).trans (p9 k hk), fun k hk => (rd_o (by decide)).trans (p10 k hk), (rd_k (by decide)).trans (p11), fun k hk => (rd_o (by decide)).trans (p12 k hk)⟩
theorem RMd_m11 {v : Int32} (p : RMd A h) : RMd (up2 A 5 1 v) (wI h o_m 11 v) := by
  obtain ⟨p1, p2, p3, p4, p5, p6, p7, p8, p9, p10, p11, p12⟩ := p
  exact ⟨(funext fun k => rd_o (by decide)).trans p1, fun k i hk hi => ((rd_o (by decide)).trans (p2 k i hk hi)).trans (congrFun (up2_o (by omega)).symm i), fun k hk => (rd_o (by decide)).trans (p3 k hk), fun k hk => (rd_o (by decide)).trans (p4 k hk), (rd_k (by decide)).trans (p5), rd_same, (rd_k (by decide)).trans (p7), (rd_k (by decide)).trans (p8), fun k hk => (rd_o (by decide)).trans (p9 k hk), fun k hk => (rd_o (by decide)).trans (p10 k hk), (rd_k (by decide)).trans (p11), fun k hk => (rd_o (by decide)).trans (p12 k hk)⟩
theorem RMd_m6 {v : Int32} (p : RMd A h) : RMd (up2 A 5 2 v) (wI h o_m 6 v) := by
  obtain ⟨p1, p2, p3, p4, p5, p6, p7, p8, p9, p10, p11, p12⟩ := p
  exact ⟨(funext fun k => rd_o (by decide)).trans p1, fun k i hk hi => ((rd_o (by decide)).trans (p2 k i hk hi)).trans (congrFun (up2_o (by omega)).symm i), fun k hk => (rd_o (by decide)).trans (p3 k hk), fun k hk => (rd_o (by decide)).trans (p4 k hk), (rd_k (by decide)).trans (p5), (rd_k (by decide)).trans (p6), rd_same, (rd_k (by decide)).trans (p8), fun k hk => (rd_o (by decide)).trans (p9 k hk), fun k hk => (rd_o (by decide)).trans (p10 k hk), (rd_k (by decide)).trans (p11), fun k hk => (rd_o (by decide)).trans (p12 k hk)⟩
theorem RMd_m0 {v : Int32} (p : RMd A h) : RMd (up2 A 5 3 v) (wI h o_m 0 v) := by
  obtain ⟨p1, p2, p3, p4, p5, p6, p7, p8, p9, p10, p11, p12⟩ := p
  exact ⟨(funext fun k => rd_o (by decide)).trans p1, fun k i hk hi => ((rd_o (by decide)).trans (p2 k i hk hi)).trans (congrFun (up2_o (by omega)).symm i), fun k hk => (rd_o (by decide)).trans (p3 k hk), fun k hk => (rd_o (by decide)).trans (p4 k hk), (rd_k (by decide)).trans (p5), (rd_k (by decide)).trans (p6), (rd_k (by decide)).trans (p7), rd_same, fun k hk => (rd_o (by decide)).trans (p9 k hk), fun k hk => (rd_o (by decide)).trans (p10 k hk), (rd_k (by decide)).trans (p11), fun k hk => (rd_o (by decide)).trans (p12 k hk)⟩
theorem RMd_m37 {v : Int32} (p : RMd A h) : RMd (up2 A 8 0 v) (wI h o_m 37 v) := by
  obtain ⟨p1, p2, p3, p4, p5, p6, p7, p8, p9, p10, p11, p12⟩ := p
  exact ⟨(funext fun k => rd_o (by decide)).trans p1, fun k i hk hi => ((rd_o (by decide)).trans (p2 k i hk hi)).trans (congrFun (up2_o (by omega)).symm i), fun k hk => (rd_o (by decide)).trans (p3 k hk), fun k hk => (rd_o (by decide)).trans (p4 k hk), (rd_k (by decide)).trans (p5), (rd_k (by decide)).trans (p6), (rd_k (by decide)).trans (p7), (rd_k (by decide)).trans (p8), fun k hk => (rd_o (by decide)).trans (p9 k hk), fun k hk => (rd_o (by decide)).trans (p10 k hk), rd_same, fun k hk => (rd_o (by decide)).trans (p12 k hk)⟩
theorem RMd_mf {n : Nat} {v : Int32} (hn : n ≠ 0 ∧ n ≠ 6 ∧ n ≠ 10 ∧ n ≠ 11 ∧ n ≠ 37) (p : RMd A h) : RMd A (wI h o_m n v) := by
  obtain ⟨p1, p2, p3, p4, p5, p6, p7, p8, p9, p10, p11, p12⟩ := p
  exact ⟨(funext fun k => rd_o (by decide)).trans p1, fun k i hk hi => ((rd_o (by decide)).trans (p2 k i hk hi)), fun k hk => (rd_o (by decide)).trans (p3 k hk), fun k hk => (rd_o (by decide)).trans (p4 k hk), (rd_k (by omega)).trans (p5), (rd_k (by omega)).trans (p6), (rd_k (by omega)).trans (p7), (rd_k (by omega)).trans (p8), fun k hk => (rd_o (by decide)).trans (p9 k hk), fun k hk => (rd_o (by decide)).trans (p10 k hk), (rd_k (by omega)).trans (p11), fun k hk => (rd_o (by decide)).trans (p12 k hk)⟩
theorem RMd_free {o n : Nat} {v : Int32} (ho : 111 ≤ o ∧ o ≤ 124) (p : RMd A h) : RMd A (wI h o n v) := by
  obtain ⟨p1, p2, p3, p4, p5, p6, p7, p8, p9, p10, p11, p12⟩ := p
  exact ⟨(funext fun k => rd_o (show (106 : Nat) ≠ o by omega)).trans p1, fun k i hk hi => (rd_o (show (107 : Nat) ≠ o by omega)).trans (p2 k i hk hi), fun k hk => (rd_o (show (108 : Nat) ≠ o by omega)).trans (p3 k hk), fun k hk => (rd_o (show (110 : Nat) ≠ o by omega)).trans (p4 k hk), (rd_o (show (104 : Nat) ≠ o by omega)).trans (p5), (rd_o (show (104 : Nat) ≠ o by omega)).trans (p6), (rd_o (show (104 : Nat) ≠ o by omega)).trans (p7), (rd_o (show (104 : Nat) ≠ o by omega)).trans (p8), fun k hk => (rd_o (show (105 : Nat) ≠ o by omega)).trans (p9 k hk), fun k hk => (rd_o (show (125 : Nat) ≠ o by omega)).trans (p10 k hk), (rd_o (show (104 : Nat) ≠ o by omega)).trans (p11), fun k hk => (rd_o (show (109 : Nat) ≠ o by omega)).trans (p12 k hk)⟩
theorem RMd_ref {n : Nat} {v : Int32} (p : RMd A h) : RMd (up2 A 6 n v) (wI h o_m_refused n v) := by
  obtain ⟨p1, p2, p3, p4, p5, p6, p7, p8, p9, p10, p11, p12⟩ := p
  exact ⟨(funext fun k => rd_o (by decide)).trans p1, fun k i hk hi => ((rd_o (by decide)).trans (p2 k i hk hi)).trans (congrFun (up2_o (by omega)).symm i), fun k hk => (rd_o (by decide)).trans (p3 k hk), fun k hk => (rd_o (by decide)).trans (p4 k hk), (rd_o (by decide)).trans (p5), (rd_o (by decide)).trans (p6), (rd_o (by decide)).trans (p7), (rd_o (by decide)).trans (p8), fun k hk => by
    rw [rd_any]
    by_cases e : k = n
    · subst e; rw [if_pos ⟨rfl, rfl⟩]; exact (up2_s).symm
    · rw [if_neg (fun z => e z.2)]; exact (p9 k hk).trans (up2_n e).symm, fun k hk => (rd_o (by decide)).trans (p10 k hk), (rd_o (by decide)).trans (p11), fun k hk => (rd_o (by decide)).trans (p12 k hk)⟩
theorem RMd_row {n : Nat} {v : Int32} (p : RMd A h) : RMd (up2 A 7 n v) (wI h o_m_winterRow n v) := by
  obtain ⟨p1, p2, p3, p4, p5, p6, p7, p8, p9, p10, p11, p12⟩ := p
  exact ⟨(funext fun k => rd_o (by decide)).trans p1, fun k i hk hi => ((rd_o (by decide)).trans (p2 k i hk hi)).trans (congrFun (up2_o (by omega)).symm i), fun k hk => (rd_o (by decide)).trans (p3 k hk), fun k hk => (rd_o (by decide)).trans (p4 k hk), (rd_o (by decide)).trans (p5), (rd_o (by decide)).trans (p6), (rd_o (by decide)).trans (p7), (rd_o (by decide)).trans (p8), fun k hk => (rd_o (by decide)).trans (p9 k hk), fun k hk => by
    rw [rd_any]
    by_cases e : k = n
    · subst e; rw [if_pos ⟨rfl, rfl⟩]; exact (up2_s).symm
    · rw [if_neg (fun z => e z.2)]; exact (p10 k hk).trans (up2_n e).symm, (rd_o (by decide)).trans (p11), fun k hk => (rd_o (by decide)).trans (p12 k hk)⟩
theorem RMd_has {n : Nat} {v : Int32} (p : RMd A h) : RMd (up2 A 3 n v) (wI h o_m_hasImage n v) := by
  obtain ⟨p1, p2, p3, p4, p5, p6, p7, p8, p9, p10, p11, p12⟩ := p
  exact ⟨(funext fun k => rd_o (by decide)).trans p1, fun k i hk hi => ((rd_o (by decide)).trans (p2 k i hk hi)).trans (congrFun (up2_o (by omega)).symm i), fun k hk => by
    rw [rd_any]
    by_cases e : k = n
    · subst e; rw [if_pos ⟨rfl, rfl⟩]; exact (up2_s).symm
    · rw [if_neg (fun z => e z.2)]; exact (p3 k hk).trans (up2_n e).symm, fun k hk => (rd_o (by decide)).trans (p4 k hk), (rd_o (by decide)).trans (p5), (rd_o (by decide)).trans (p6), (rd_o (by decide)).trans (p7), (rd_o (by decide)).trans (p8), fun k hk => (rd_o (by decide)).trans (p9 k hk), fun k hk => (rd_o (by decide)).trans (p10 k hk), (rd_o (by decide)).trans (p11), fun k hk => (rd_o (by decide)).trans (p12 k hk)⟩
theorem RMd_kept {n : Nat} {v : Int32} (p : RMd A h) : RMd (up2 A 0 n v) (wI h o_m_kept n v) := by
  obtain ⟨p1, p2, p3, p4, p5, p6, p7, p8, p9, p10, p11, p12⟩ := p
  exact ⟨by rw [updW_0, ← p1]; exact kW_w, fun k i hk hi => ((rd_o (by decide)).trans (p2 k i hk hi)).trans (congrFun (up2_o (by omega)).symm i), fun k hk => (rd_o (by decide)).trans (p3 k hk), fun k hk => (rd_o (by decide)).trans (p4 k hk), (rd_o (by decide)).trans p5, (rd_o (by decide)).trans p6, (rd_o (by decide)).trans p7, (rd_o (by decide)).trans p8, fun k hk => (rd_o (by decide)).trans (p9 k hk), fun k hk => (rd_o (by decide)).trans (p10 k hk), (rd_o (by decide)).trans p11, fun k hk => (rd_o (by decide)).trans (p12 k hk)⟩
theorem RMd_tape {n : Nat} {u v : Int32} (e : v = sg u) (p : RMd A h) : RMd (up2 A 4 n u) (wI h o_m_tape n v) := by
  obtain ⟨p1, p2, p3, p4, p5, p6, p7, p8, p9, p10, p11, p12⟩ := p
  refine ⟨(funext fun k => rd_o (by decide)).trans p1, fun k i hk hi => ((rd_o (by decide)).trans (p2 k i hk hi)).trans (congrFun (up2_o (by omega)).symm i), fun k hk => (rd_o (by decide)).trans (p3 k hk), fun k hk => ?_, (rd_o (by decide)).trans p5, (rd_o (by decide)).trans p6, (rd_o (by decide)).trans p7, (rd_o (by decide)).trans p8, fun k hk => (rd_o (by decide)).trans (p9 k hk), fun k hk => (rd_o (by decide)).trans (p10 k hk), (rd_o (by decide)).trans p11, fun k hk => (rd_o (by decide)).trans (p12 k hk)⟩
  rw [rd_any]
  by_cases en : k = n
  · subst en; rw [if_pos ⟨rfl, rfl⟩, up2_s]; exact e
  · rw [if_neg (fun z => en z.2), up2_n en]; exact p4 k hk
/-- only the wall of the state is another -/
theorem RMd_wall {w' : Wd} (p : RMd A h) (e : kW g = w') (q : ∀ o k, 104 ≤ o → o ≤ 125 → o ≠ 106 → hI g o k = hI h o k) : RMd (up1 A 0 w') g := by
  obtain ⟨p1, p2, p3, p4, p5, p6, p7, p8, p9, p10, p11, p12⟩ := p
  exact ⟨e, fun k i hk hi => ((q _ _ (by decide) (by decide) (by decide)).trans (p2 k i hk hi)).trans (by show _ = (if 1 + k = 0 then w' else A (1 + k)) i; rw [if_neg (by omega)]), fun k hk => (q _ _ (by decide) (by decide) (by decide)).trans (p3 k hk), fun k hk => (q _ _ (by decide) (by decide) (by decide)).trans (p4 k hk), (q _ _ (by decide) (by decide) (by decide)).trans p5, (q _ _ (by decide) (by decide) (by decide)).trans p6, (q _ _ (by decide) (by decide) (by decide)).trans p7, (q _ _ (by decide) (by decide) (by decide)).trans p8, fun k hk => (q _ _ (by decide) (by decide) (by decide)).trans (p9 k hk), fun k hk => (q _ _ (by decide) (by decide) (by decide)).trans (p10 k hk), (q _ _ (by decide) (by decide) (by decide)).trans p11, fun k hk => (q _ _ (by decide) (by decide) (by decide)).trans (p12 k hk)⟩
def refA (A : Ab) (k : Int32) (n : Nat) : Ab := up2 (up2 A 5 3 k) 6 n (A 6 n + 1)
def goodA (A : Ab) : Ab := up2 A 5 3 0
theorem mC_ref {k : Int32} {n : Nat} (q : mC c w h) : mC c w (nrefH h k n) := by
  have e : ∀ j, j ≠ 0 → hI (nrefH h k n) o_m j = hI h o_m j := fun j nj => by unfold nrefH; rw [rd_o (by decide), rd_k nj]
  unfold mC vLe at *
  rw [e 21 (by decide), e 1 (by decide), e 27 (by decide), e 32 (by decide)]
  exact ⟨q.1, q.2.1, fun z => lk_keep (q.2.2.1 z) fun o k h1 h2 => by unfold nrefH; rw [rd_o (by show o ≠ 105; omega), rd_o (by show o ≠ 104; omega)], fun z => st_keep (q.2.2.2 z) fun o k h1 h2 => by unfold nrefH; rw [rd_o (by show o ≠ 105; omega), rd_o (by show o ≠ 104; omega)]⟩
theorem RM_ref {k : Int32} {n : Nat} (hn : n < 7) (q : RM c A h) : RM (c + 1) (refA A k n) (nrefH h k n) := by
  refine ⟨?_, mC_le (mC_ref q.2) (by omega)⟩
  unfold refA nrefH
  rw [q.1.2.2.2.2.2.2.2.2.1 n hn]
  exact RMd_ref (RMd_m0 q.1)
theorem keepC_ref {k : Int32} {n : Nat} : keepC h (nrefH h k n) := keepC_t (keepC_w (by decide)) (keepC_w (by decide))
theorem keepC_good : keepC h (ngoodH h) := keepC_t (keepC_w (by decide)) (keepC_w (by decide))
/-- behind a change that was accepted no table counts -/
theorem mC_good {w' : Wd} (hc : c < 1000) (q : mC c w h) (e : ∀ k, (k = 1 ∨ k = 21 ∨ k = 27 ∨ k = 32) → hI g o_m k = hI h o_m k) : mC (c + 1) w' (ngoodH g) := by
  have e0 : ∀ j, j ≠ 0 → j ≠ 1 → hI (ngoodH g) o_m j = hI g o_m j := fun j n0 n1 => by unfold ngoodH; rw [rd_k n1, rd_k n0]
  have e1 : hI (ngoodH g) o_m 1 = hI g o_m 1 + 1 := by unfold ngoodH; rw [rd_same]
  obtain ⟨q1, ⟨v, v1, v2, v3, v4⟩, -, -⟩ := q
  have ev : hI (ngoodH g) o_m 1 = nI (v + 1) := by rw [e1, e 1 (by simp), v2, nI_succ]
  have ne : ∀ k, (k = 27 ∨ k = 32) → vLe h v k → ¬ hI (ngoodH g) o_m k = hI (ngoodH g) o_m 1 := fun k hk q z => by
    rw [ev, e0 k (by omega) (by omega), e k (by omega)] at z
    rcases q with q | ⟨l, hl, q⟩
    · rw [q] at z; exact nI_m1 (by omega) z.symm
    · rw [q] at z; have := (nI_eq (by omega) (by omega)).mp z; omega
  refine ⟨by rw [e0 21 (by decide) (by decide), e 21 (by simp)]; exact q1, ⟨v + 1, by omega, ev, ?_, ?_⟩, fun z => absurd z (ne 27 (Or.inl rfl) v3), fun z => absurd z (ne 32 (Or.inr rfl) v4)⟩
  · unfold vLe; rw [e0 27 (by decide) (by decide), e 27 (by simp)]; exact vLe_le v3 (by omega)
  · unfold vLe; rw [e0 32 (by decide) (by decide), e 32 (by simp)]; exact vLe_le v4 (by omega)
theorem RM_good {A' : Ab} (hc : c < 1000) (q : mC c w h) (e : ∀ k, (k = 1 ∨ k = 21 ∨ k = 27 ∨ k = 32) → hI g o_m k = hI h o_m k) (p : RMd A' g) : RM (c + 1) (goodA A') (ngoodH g) :=
  ⟨by unfold ngoodH goodA; exact RMd_mf (by decide) (RMd_m0 p), mC_good hc q e⟩
end T77
