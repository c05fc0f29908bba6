/-! the model reads a text: tokens, faults, sums -/
def pst (h : Hp) (t lv bd : Int32) : Hp := wI (wI (wI h o_m 16 t) o_m 17 lv) o_m 18 bd
def tokP (h : Hp) (N : Nat) (C V : Nat → Int32) (pl : Nat → Nat) : Prop := N ≤ 400 ∧ (∀ k, k ≤ N → hI h o_m_code k = C k ∧ hI h o_m_value k = V k ∧ hI h o_m_placed k = nI (pl k)) ∧ (∀ k, N ≤ k → C k = 0) ∧ ∀ k, pl k ≤ 400
def rQ {α : Type} (h : Hp) (pl : Nat → Nat) (r : PR α) : Option Value → Hp → Prop := fun v g => v = none ∧ ((r.1 = true ∧ g = pst h (nI r.2.1) (nI r.2.2.1) (-1)) ∨ (r.1 = false ∧ ∃ t2 lv2 : Int32, g = pst h t2 lv2 (nI (pl r.2.1))))
def rdP {α : Type} (cx : Cx) (j D : Nat) (h : Hp) (N : Nat) (pl : Nat → Nat) (dp : Nat) (P : Nat → Nat → PR α) : Prop := ∀ d t lv, D ≤ d → t ≤ N → lv ≤ 50 → M cx j d 0 [.ref o_m, .int (nI dp)] (pst h (nI t) (nI lv) (-1)) (rQ h pl (P t lv))
def rdS (cx : Cx) (j D : Nat) (h : Hp) (dp : Nat) : Prop := ∀ d (t lv bd : Int32), D ≤ d → ¬ bd = -1 → M cx j d 0 [.ref o_m, .int (nI dp)] (pst h t lv bd) (RV (pst h t lv bd))
/-- leaves are counted to 50 -/
def lvb {α : Type} (P : Nat → Nat → PR α) : Prop := ∀ t lv, lv ≤ 50 → (P t lv).2.2.1 ≤ 50
section T80
variable {cx : Cx} {d a : Nat} {h g : Hp} {N : Nat} {C V : Nat → Int32} {pl : Nat → Nat}
theorem ps_o {t lv bd : Int32} {o k : Nat} (n : o ≠ 104) : hI (pst h t lv bd) o k = hI h o k := by unfold pst; rw [rd_o n, rd_o n, rd_o n]
theorem ps_k {t lv bd : Int32} {o k : Nat} (n1 : k ≠ 16) (n2 : k ≠ 17) (n3 : k ≠ 18) : hI (pst h t lv bd) o k = hI h o k := by unfold pst; rw [rd_k n3, rd_k n2, rd_k n1]
theorem ps_16 {t lv bd : Int32} : hI (pst h t lv bd) o_m 16 = t := by unfold pst; rw [rd_k (by decide), rd_k (by decide), rd_same]
theorem ps_17 {t lv bd : Int32} : hI (pst h t lv bd) o_m 17 = lv := by unfold pst; rw [rd_k (by decide), rd_same]
theorem ps_18 {t lv bd : Int32} : hI (pst h t lv bd) o_m 18 = bd := by unfold pst; rw [rd_same]
theorem ps_w16 {t lv bd v : Int32} : wI (pst h t lv bd) o_m 16 v = pst h v lv bd := by unfold pst; rw [wI_comm (k := 18) (by decide), wI_comm (k := 17) (by decide), wI_wI]
theorem ps_w17 {t lv bd v : Int32} : wI (pst h t lv bd) o_m 17 v = pst h t v bd := by unfold pst; rw [wI_comm (k := 18) (by decide), wI_wI]
theorem ps_w18 {t lv bd v : Int32} : wI (pst h t lv bd) o_m 18 v = pst h t lv v := by unfold pst; rw [wI_wI]
theorem rQ_N {α : Type} {r : PR α} : ∀ v g, rQ h pl r v g → hN g = hN h := fun v g q => by
  obtain ⟨-, ⟨-, e⟩ | ⟨-, _, _, e⟩⟩ := q <;> rw [e] <;> rfl
theorem n_fineT {t lv : Int32} : M cx jX12_fine d a [.ref o_m] (pst h t lv (-1)) (RQ (.int 1) (pst h t lv (-1))) :=
  sX12_fine rfl (And.intro (fun q1 => absurd ps_18 q1) (fun q1 => (eX12_fine (And.intro (Or.inr rfl) ⟨rfl, rfl⟩))))
theorem n_fineF {t lv bd : Int32} (nb : ¬ bd = -1) : M cx jX12_fine d a [.ref o_m] (pst h t lv bd) (RQ (.int 0) (pst h t lv bd)) :=
  sX12_fine rfl (And.intro (fun q1 => (eX12_fine (eX12_fine (And.intro (Or.inl rfl) ⟨rfl, rfl⟩)))) (fun q1 => absurd (ps_18.symm.trans q1) nb))
theorem tp_v {t : Nat} (ht : t ≤ N) (q : tokP h N C V pl) {lv bd : Int32} : vp_in (hI (pst h (nI t) lv bd) o_m 16) 401 := by rw [ps_16]; exact vp_in_nI (by have := q.1; omega) (by decide)
theorem tp_c {t : Nat} (ht : t ≤ N) (q : tokP h N C V pl) {lv bd : Int32} : hI (pst h (nI t) lv bd) o_m_code (hI (pst h (nI t) lv bd) o_m 16).toNatClampNeg = C t := by
  have := q.1
  rw [ps_16, nI_clamp (by omega), ps_o (by decide)]; exact (q.2.1 t ht).1
theorem tp_val {t : Nat} (ht : t ≤ N) (q : tokP h N C V pl) {lv bd : Int32} : hI (pst h (nI t) lv bd) o_m_value (hI (pst h (nI t) lv bd) o_m 16).toNatClampNeg = V t := by
  have := q.1
  rw [ps_16, nI_clamp (by omega), ps_o (by decide)]; exact (q.2.1 t ht).2.1
theorem tp_pl {t : Nat} (ht : t ≤ N) (q : tokP h N C V pl) {lv bd : Int32} : hI (pst h (nI t) lv bd) o_m_placed (hI (pst h (nI t) lv bd) o_m 16).toNatClampNeg = nI (pl t) := by
  have := q.1
  rw [ps_16, nI_clamp (by omega), ps_o (by decide)]; exact (q.2.1 t ht).2.2
theorem tp_lt {t : Nat} (q : tokP h N C V pl) (n : ¬ C t = 0) : t < N := Nat.lt_of_not_le fun z => n (q.2.2.1 t z)
theorem pl_ne {t : Nat} (q : tokP h N C V pl) : ¬ nI (pl t) = -1 := nI_m1 (by have := q.2.2.2 t; omega)
theorem n_takesT (hd : 1 ≤ d) {t : Nat} {lv c : Int32} (q : tokP h N C V pl) (ht : t ≤ N) (e : C t = c) : M cx jX12_takes0 d a [.ref o_m, .int c] (pst h (nI t) lv (-1)) (RQ (.int 1) (pst h (nI (t + 1)) lv (-1))) := by
  refine sX12_takes0 rfl (wcV n_fineT (And.intro (fun q1 => absurd q1 (by decide)) (fun q1 => (And.intro (tp_v ht q) (And.intro (fun q2 => absurd ((tp_c ht q).trans e) q2) (fun q2 => (eX12_takes0 (And.intro (fun q3 => absurd q3 (by decide)) (fun q3 => (eX12_takes0 (And.intro (Or.inr rfl) ⟨rfl, ?_⟩)))))))))))
  rw [ps_16, ps_w16, nI_succ]
theorem n_takesF (hd : 1 ≤ d) {t : Nat} {lv c : Int32} (q : tokP h N C V pl) (ht : t ≤ N) (e : ¬ C t = c) : M cx jX12_takes0 d a [.ref o_m, .int c] (pst h (nI t) lv (-1)) (RQ (.int 0) (pst h (nI t) lv (-1))) :=
  sX12_takes0 rfl (wcV n_fineT (And.intro (fun q1 => absurd q1 (by decide)) (fun q1 => (And.intro (tp_v ht q) (And.intro (fun q2 => (eX12_takes0 (eX12_takes0 (And.intro (fun q3 => (eX12_takes0 (And.intro (Or.inl rfl) ⟨rfl, rfl⟩))) (fun q3 => absurd rfl q3))))) (fun q2 => absurd ((tp_c ht q).symm.trans q2) e))))))
theorem n_takesB (hd : 1 ≤ d) {t lv bd c : Int32} (nb : ¬ bd = -1) : M cx jX12_takes0 d a [.ref o_m, .int c] (pst h t lv bd) (RQ (.int 0) (pst h t lv bd)) :=
  sX12_takes0 rfl (wcV (n_fineF nb) (And.intro (fun q1 => (eX12_takes0 (eX12_takes0 (And.intro (fun q2 => (eX12_takes0 (And.intro (Or.inl rfl) ⟨rfl, rfl⟩))) (fun q2 => absurd rfl q2))))) (fun q1 => absurd rfl q1)))
theorem n_faultsT (hd : 1 ≤ d) {t : Nat} {lv : Int32} (q : tokP h N C V pl) (ht : t ≤ N) : M cx jX12_faults d a [.ref o_m] (pst h (nI t) lv (-1)) (RV (pst h (nI t) lv (nI (pl t)))) := by
  refine sX12_faults rfl (wcV n_fineT (And.intro (fun q1 => absurd q1 (by decide)) (fun q1 => (And.intro (tp_v ht q) (eX12_faults ⟨rfl, ?_⟩)))))
  rw [← tp_pl (lv := lv) (bd := -1) ht q]
  exact ps_w18
theorem n_faultsB (hd : 1 ≤ d) {t lv bd : Int32} (nb : ¬ bd = -1) : M cx jX12_faults d a [.ref o_m] (pst h t lv bd) (RV (pst h t lv bd)) :=
  sX12_faults rfl (wcV (n_fineF nb) (And.intro (fun q1 => (eX12_faults ⟨rfl, rfl⟩)) (fun q1 => absurd rfl q1)))
theorem n_mustT (hd : 2 ≤ d) {t : Nat} {lv c : Int32} (q : tokP h N C V pl) (ht : t ≤ N) (e : C t = c) : M cx jX12_must d a [.ref o_m, .int c] (pst h (nI t) lv (-1)) (RV (pst h (nI (t + 1)) lv (-1))) :=
  sX12_must rfl (wcV (n_takesT (by omega) q ht e) (And.intro (fun q1 => (eX12_must ⟨rfl, rfl⟩)) (fun q1 => absurd q1 (by decide))))
theorem n_mustF (hd : 2 ≤ d) {t : Nat} {lv c : Int32} (q : tokP h N C V pl) (ht : t ≤ N) (e : ¬ C t = c) : M cx jX12_must d a [.ref o_m, .int c] (pst h (nI t) lv (-1)) (RV (pst h (nI t) lv (nI (pl t)))) :=
  sX12_must rfl (wcV (n_takesF (by omega) q ht e) (And.intro (fun q1 => absurd rfl q1) (fun q1 => (wcV0 (n_faultsT (by omega) q ht) (eX12_must ⟨rfl, rfl⟩)))))
theorem n_mustB (hd : 2 ≤ d) {t lv bd c : Int32} (nb : ¬ bd = -1) : M cx jX12_must d a [.ref o_m, .int c] (pst h t lv bd) (RV (pst h t lv bd)) :=
  sX12_must rfl (wcV (n_takesB (by omega) nb) (And.intro (fun q1 => absurd rfl q1) (fun q1 => (wcV0 (n_faultsB (by omega) nb) (eX12_must ⟨rfl, rfl⟩)))))
theorem n_leafT (hd : 2 ≤ d) {t lv : Nat} (hl : lv < 50) : M cx jX12_leaf d a [.ref o_m] (pst h (nI t) (nI lv) (-1)) (RV (pst h (nI (t + 1)) (nI (lv + 1)) (-1))) := by
  have e17 : wI (pst h (nI t) (nI lv) (-1)) o_m 17 (hI (pst h (nI t) (nI lv) (-1)) o_m 17 + 1) = pst h (nI t) (nI (lv + 1)) (-1) := by rw [ps_17, ps_w17, nI_succ]
  refine sX12_leaf rfl (And.intro (fun q1 => (eX12_leaf (wp_hp (h := wI (pst h (nI t) (nI lv) (-1)) o_m 17 (hI (pst h (nI t) (nI lv) (-1)) o_m 17 + 1)) e17 (wcV n_fineT (And.intro (fun q2 => absurd q2 (by decide)) (fun q2 => (eX12_leaf ⟨rfl, ?_⟩))))))) (fun q1 => absurd (ps_17.symm.trans q1) (fun z => by have := (nI_eq (a := lv) (b := 50) (by omega) (by decide)).mp z; omega)))
  rw [ps_16, ps_w16, nI_succ t]
theorem n_leafF (hd : 2 ≤ d) {t : Nat} (q : tokP h N C V pl) (ht : t ≤ N) : M cx jX12_leaf d a [.ref o_m] (pst h (nI t) (nI 50) (-1)) (RV (pst h (nI t) (nI 51) (nI (pl t)))) := by
  have e17 : wI (pst h (nI t) (nI 50) (nI (pl t))) o_m 17 (hI (pst h (nI t) (nI 50) (nI (pl t))) o_m 17 + 1) = pst h (nI t) (nI 51) (nI (pl t)) := by rw [ps_17, ps_w17]; rfl
  exact sX12_leaf rfl (And.intro (fun q1 => absurd ps_17 q1) (fun q1 => (wcV0 (n_faultsT (by omega) q ht) (eX12_leaf (wp_hp (h := wI (pst h (nI t) (nI 50) (nI (pl t))) o_m 17 (hI (pst h (nI t) (nI 50) (nI (pl t))) o_m 17 + 1)) e17 (wcV (n_fineF (pl_ne q)) (And.intro (fun q2 => (eX12_leaf ⟨rfl, rfl⟩)) (fun q2 => absurd rfl q2))))))))
/-! parts -/
theorem brk_ok {α : Type} {S : Nat → Nat → PR α} {z : α} {t lv : Nat} {cl : Int32} (ok : (S (t + 1) lv).1 = true) (e : C (S (t + 1) lv).2.1 = cl) : pBrk C cl (some S) z t lv = (true, (S (t + 1) lv).2.1 + 1, (S (t + 1) lv).2.2.1, (S (t + 1) lv).2.2.2) := by
  show (if _ then _ else _) = _
  rw [if_pos ok, if_pos e]
theorem brk_cl {α : Type} {S : Nat → Nat → PR α} {z : α} {t lv : Nat} {cl : Int32} (ok : (S (t + 1) lv).1 = true) (e : ¬ C (S (t + 1) lv).2.1 = cl) : pBrk C cl (some S) z t lv = (false, (S (t + 1) lv).2.1, (S (t + 1) lv).2.2.1, z) := by
  show (if _ then _ else _) = _
  rw [if_pos ok, if_neg e]
theorem brk_no {α : Type} {S : Nat → Nat → PR α} {z : α} {t lv : Nat} {cl : Int32} (ok : (S (t + 1) lv).1 = false) : pBrk C cl (some S) z t lv = (false, (S (t + 1) lv).2.1, (S (t + 1) lv).2.2.1, z) := by
  show (if _ then _ else _) = _
  rw [if_neg (by rw [ok]; exact Bool.noConfusion)]
theorem rd_partS {dp : Nat} : rdS cx jX12_readPart 1 h dp := fun d t lv bd hd nb =>
  sX12_readPart rfl (wcV (n_fineF nb) (And.intro (fun q1 => absurd rfl q1) (fun q1 => ⟨rfl, rfl⟩)))
theorem rd_part (q : tokP h N C V pl) {D dp : Nat} {nx : Option (Nat → Nat → PR SN)} (hdp : dp ≤ 8) (hn : nx = none → dp = 8) (hs : ∀ S, nx = some S → dp < 8 ∧ rdP cx jX12_readSum D h N pl (dp + 1) S ∧ mono N S) : rdP cx jX12_readPart (D + 3) h N pl dp (pPart C V nx) := by
  intro d t lv hd ht hl
  have cc : ∀ bd, hI (pst h (nI t) (nI lv) bd) o_m_code (hI (pst h (nI t) (nI lv) bd) o_m 16).toNatClampNeg = C t := fun bd => tp_c ht q
  refine sX12_readPart rfl (wcV n_fineT (And.intro (fun q1 => (eX12_readPart (And.intro (tp_v ht q) (wcS (n_signC (r := 191)) (And.intro (fun q2 => (eX12_readPart ?_)) (fun q2 => ?_)))))) (fun q1 => absurd q1 (by decide))))
  · have n191 : ¬ C t = 191 := fun z => q2 ((cc (-1)).trans z)
    have ok : isLeaf (C t) (V t) → E cx jX12_readPart d 0 107 [some (.ref o_m), some (.int (nI dp)), some (.int (hI (pst h (nI t) (nI lv) (-1)) o_m_code (hI (pst h (nI t) (nI lv) (-1)) o_m 16).toNatClampNeg))] [] (pst h (nI t) (nI lv) (-1)) (rQ h pl (pPart C V nx t lv)) := fun il => by
      unfold pPart
      rw [if_neg n191]
      by_cases l50 : lv < 50
      · rw [if_pos ⟨il, l50⟩]
        exact eX12_readPart (wcV0 (n_leafT (by omega) l50) (eX12_readPart ⟨rfl, Or.inl ⟨rfl, rfl⟩⟩))
      · rw [if_neg (fun z => l50 z.2)]
        obtain rfl : lv = 50 := by omega
        exact eX12_readPart (wcV0 (n_leafF (by omega) q ht) (eX12_readPart ⟨rfl, Or.inr ⟨rfl, _, _, rfl⟩⟩))
    have no : ¬ isLeaf (C t) (V t) → E cx jX12_readPart d 0 114 [some (.ref o_m), some (.int (nI dp)), some (.int (hI (pst h (nI t) (nI lv) (-1)) o_m_code (hI (pst h (nI t) (nI lv) (-1)) o_m 16).toNatClampNeg))] [] (pst h (nI t) (nI lv) (-1)) (rQ h pl (pPart C V nx t lv)) := fun il => by
      unfold pPart
      rw [if_neg n191, if_neg (fun z => il z.1)]
      exact eX12_readPart (wcV0 (n_faultsT (by omega) q ht) (eX12_readPart ⟨rfl, Or.inr ⟨rfl, _, _, rfl⟩⟩))
    have e95 : ¬ (C t = 50 ∧ V t ≤ 1000) → E cx jX12_readPart d 0 95 [some (.ref o_m), some (.int (nI dp)), some (.int (hI (pst h (nI t) (nI lv) (-1)) o_m_code (hI (pst h (nI t) (nI lv) (-1)) o_m 16).toNatClampNeg))] [] (pst h (nI t) (nI lv) (-1)) (rQ h pl (pPart C V nx t lv)) := fun z =>
      eX12_readPart (And.intro (fun q4 => no fun y => y.elim z fun y => absurd (show C t < 7 by rw [← cc (-1)]; exact q4) (Int32.not_lt.mpr y.1)) (fun q4 => (And.intro (fun q5 => no fun y => y.elim z fun y => absurd (show 14 < C t by rw [← cc (-1)]; exact q5) (Int32.not_lt.mpr y.2)) (fun q5 => ok (Or.inr ⟨by rw [← cc (-1)]; exact Int32.not_lt.mp q4, by rw [← cc (-1)]; exact Int32.not_lt.mp q5⟩)))))
    exact And.intro (fun q3 => e95 fun z => q3 ((cc (-1)).trans z.1)) (fun q3 => (And.intro (tp_v ht q) (And.intro (fun q4 => ok (Or.inl ⟨(cc (-1)).symm.trans q3, by rw [← tp_val (lv := nI lv) (bd := -1) ht q]; exact q4⟩)) (fun q4 => e95 fun z => q4 (by show hI (pst h (nI t) (nI lv) (-1)) o_m_value (hI (pst h (nI t) (nI lv) (-1)) o_m 16).toNatClampNeg ≤ 1000; rw [tp_val ht q]; exact z.2)))))
  · have y191 : C t = 191 := (cc (-1)).symm.trans q2
    have tl : t < N := tp_lt q (by rw [y191]; decide)
    unfold pPart
    rw [if_pos y191]
    match nx, hn, hs with
    | none, hn, _ =>
      obtain rfl := hn rfl
      refine And.intro (fun q3 => absurd rfl q3) (fun q3 => (wcV0 (n_faultsT (by omega) q ht) (eX12_readPart (wcV (n_fineF (pl_ne q)) (And.intro (fun q4 => absurd rfl q4) (fun q4 => ⟨rfl, Or.inr ⟨rfl, _, _, rfl⟩⟩))))))
    | some S, _, hs =>
      obtain ⟨h8, hS, hm⟩ := hs S rfl
      have mo := hm (t + 1) lv (by omega)
      have hM := hS (d - 1) (t + 1) lv (by omega) (by omega) hl
      have e16 : wI (pst h (nI t) (nI lv) (-1)) o_m 16 (hI (pst h (nI t) (nI lv) (-1)) o_m 16 + 1) = pst h (nI (t + 1)) (nI lv) (-1) := by rw [ps_16, ps_w16, nI_succ]
      rw [← e16, nI_succ] at hM
      refine And.intro (fun q3 => (eX12_readPart (wcV n_fineT (And.intro (fun q4 => (eX12_readPart (wcQ hM (fun v G z => ?_) rQ_N))) (fun q4 => absurd q4 (by decide)))))) (fun q3 => absurd q3 (fun z => by have := (nI_eq (a := dp) (b := 8) (by omega) (by decide)).mp z; omega))
      obtain ⟨rfl, ⟨ok, rfl⟩ | ⟨ok, t2, lv2, rfl⟩⟩ := z
      · by_cases cl : C (S (t + 1) lv).2.1 = 193
        · rw [brk_ok ok cl]
          exact wcS (n_signC (r := 193)) (wcV0 (n_mustT (by omega) q mo.2.1 cl) (eX12_readPart ⟨rfl, Or.inl ⟨rfl, rfl⟩⟩))
        · rw [brk_cl ok cl]
          exact wcS (n_signC (r := 193)) (wcV0 (n_mustF (by omega) q mo.2.1 cl) (eX12_readPart ⟨rfl, Or.inr ⟨rfl, _, _, rfl⟩⟩))
      · rw [brk_no ok]
        exact wcS (n_signC (r := 193)) (wcV0 (n_mustB (by omega) (pl_ne q)) (eX12_readPart ⟨rfl, Or.inr ⟨rfl, _, _, rfl⟩⟩))
end T80
