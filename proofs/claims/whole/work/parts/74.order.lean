/-! the order in which the stones go; the model's way to it -/
def ldP (U : Int32 → Int32) (e now : Int32) (j : Nat) : Prop := bt now j = true ∧ bt e j = false ∧ leaA U e (dif now (one j))
noncomputable def ordN (U : Int32 → Int32) (e T : Int32) : Nat → Int32
  | 0 => T
  | k + 1 => dif (ordN U e T k) (one (fst (ldP U e (ordN U e T k)) 14 0).toNatClampNeg)
noncomputable def ordS (U : Int32 → Int32) (e T : Int32) (k : Nat) : Int32 := fst (ldP U e (ordN U e T k)) 14 0
def leaP (U : Int32 → Int32) (e s : Int32) (k : Nat) : Prop := s = e ∨ (lwf U s ∧ ∃ i, i < k ∧ bt s i = true ∧ bt e i = false ∧ leaA U e (dif s (one i)))
def keepZ (h g : Hp) : Prop := g.2 = h.2 ∧ ∀ o k, o ≠ 124 → hI g o k = hI h o k
section T74
variable {cx : Cx} {d a c : Nat} {h g f : Hp} {w : Wd} {U : Int32 → Int32}
theorem keepZ_r : keepZ h h := ⟨rfl, fun _ _ _ => rfl⟩
theorem keepZ_t (p : keepZ h g) (q : keepZ g f) : keepZ h f := ⟨q.1.trans p.1, fun o k n => (q.2 o k n).trans (p.2 o k n)⟩
theorem keepZ_w {k : Nat} {v : Int32} : keepZ h (wI h o_m_leads k v) := ⟨rfl, fun p q n => rd_o n⟩
theorem keepZ_W (p : keepZ h g) : kW g = kW h := funext fun k => p.2 _ k (by decide)
theorem keepZ_M (p : keepZ h g) : keepM h g := ⟨p.1, fun o k n1 n2 => p.2 o k (by omega)⟩
theorem keepZ_mC (p : keepZ h g) (q : mC c w h) : mC c w g := by
  have e : ∀ k, hI g o_m k = hI h o_m k := fun k => p.2 _ _ (by decide)
  unfold mC vLe at *
  rw [e, e, e, e]
  exact ⟨q.1, q.2.1, fun z => lk_keep (q.2.2.1 z) fun o k h1 h2 => p.2 o k (by omega), fun z => st_keep (q.2.2.2 z) fun o k h1 h2 => p.2 o k (by omega)⟩
theorem ord_next {e now : Int32} (ll : low 14 now) (l : leaA U e now) (se : sub e now) (ne : ¬ now = e) : ∃ j, j < 14 ∧ fst (ldP U e now) 14 0 = nI j ∧ ldP U e now j ∧ (∀ i, i < j → ¬ ldP U e now i) := by
  have ex : ¬ fst (ldP U e now) 14 0 = -1 := fun z => by
    rcases lea_eq.mp l with y | ⟨lw, k, hk, q, r, y⟩
    · exact ne y
    · exact fst_none 14 0 (by decide) z k (by omega) (by omega) ⟨q, r, y⟩
  obtain ⟨j, h1, h2, h3, h4, h5⟩ := fst_some 14 0 ex
  exact ⟨j, by omega, h3, h4, fun i hi => h5 i (by omega) hi⟩
theorem ord_inv {e T : Int32} (l14 : low 14 T) (l : leaA U e T) (se : sub e T) : ∀ k, k ≤ sz (dif T e) → leaA U e (ordN U e T k) ∧ sub e (ordN U e T k) ∧ sub (ordN U e T k) T ∧ sz (dif (ordN U e T k) e) + k = sz (dif T e) := by
  intro k
  induction k with
  | zero => intro _; exact ⟨l, se, sub_r, rfl⟩
  | succ k ih =>
    intro hk
    obtain ⟨i1, i2, i3, i4⟩ := ih (by omega)
    have ne : ¬ ordN U e T k = e := fun z => by rw [z, dif_self, sz_0] at i4; omega
    obtain ⟨j, hj, ej, ⟨p1, p2, p3⟩, -⟩ := ord_next (low_sub i3 l14) i1 i2 ne
    have e1 : ordN U e T (k + 1) = dif (ordN U e T k) (one j) := by rw [ordN, ej, nI_clamp (by omega)]
    rw [e1]
    refine ⟨p3, fun i hi z => ?_, sub_t sub_dif i3, ?_⟩
    · rw [bt_rm (by omega) hi, i2 i hi z]
      have : i ≠ j := fun y => by rw [y, p2] at z; cases z
      simp [this]
    · have := sz_lea hj p1 p2; omega
theorem ord_ex {e T : Int32} (l14 : low 14 T) (l : leaA U e T) (se : sub e T) {k : Nat} (hk : k < sz (dif T e)) : ∃ j, j < 14 ∧ ordS U e T k = nI j ∧ ldP U e (ordN U e T k) j ∧ (∀ i, i < j → ¬ ldP U e (ordN U e T k) i) := by
  obtain ⟨i1, i2, i3, i4⟩ := ord_inv l14 l se k (by omega)
  have ne : ¬ ordN U e T k = e := fun z => by rw [z, dif_self, sz_0] at i4; omega
  exact ord_next (low_sub i3 l14) i1 i2 ne
theorem leaP_0 {e s : Int32} : leaP U e s 0 ↔ s = e := ⟨fun z => z.elim id fun ⟨_, _, hi, _⟩ => absurd hi (Nat.not_lt_zero _), Or.inl⟩
theorem leaP_s {e s : Int32} {k : Nat} : leaP U e s (k + 1) ↔ leaP U e s k ∨ (lwf U s ∧ bt s k = true ∧ bt e k = false ∧ leaA U e (dif s (one k))) := by
  constructor
  · rintro (z | ⟨l, i, hi, z⟩)
    · exact Or.inl (Or.inl z)
    · by_cases e : i = k
      · subst e; exact Or.inr ⟨l, z⟩
      · exact Or.inl (Or.inr ⟨l, i, by omega, z⟩)
  · rintro ((z | ⟨l, i, hi, z⟩) | ⟨l, z⟩)
    · exact Or.inl z
    · exact Or.inr ⟨l, i, by omega, z⟩
    · exact Or.inr ⟨l, k, by omega, z⟩
theorem leaP_n {e s : Int32} {n : Nat} (hn : n ≤ 14) (l : low n s) : leaP U e s n ↔ leaA U e s := by
  rw [lea_eq]
  constructor
  · rintro (z | ⟨lw, i, hi, z⟩)
    · exact Or.inl z
    · exact Or.inr ⟨lw, i, by omega, z⟩
  · rintro (z | ⟨lw, i, hi, z⟩)
    · exact Or.inl z
    · exact Or.inr ⟨lw, i, l i (by omega) z.1, z⟩
theorem e_ordIn {Q : Option Value → Hp → Prop} {n m : Nat} {G : Hp} {e i0 : Int32} {l5 : Option Value} (hd : 2 ≤ d) (en : w 157 = nI n) (hn : n ≤ 14) (hm : m < 2 ^ n) (eG : kW G = w)
    (hl : hI G o_m_lawful m = b2i (lwf U (nI m))) (hc : ∀ j, j < m → hI G o_m_leads j = b2i (leaA U e (nI j)))
    (K : E cx jX12_order d a 157 [some (.ref o_m), some (.int i0), some (.int e), some (.int (nI m)), some (.int (nI n)), l5] [] (wI G o_m_leads m (b2i (leaP U e (nI m) n))) Q) :
    ∀ r k, r + k = n → E cx jX12_order d a 79 [some (.ref o_m), some (.int i0), some (.int e), some (.int (nI m)), some (.int (nI k)), l5] [] (wI G o_m_leads m (b2i (leaP U e (nI m) k))) Q := by
  have h14 := pow14 hn
  have vm : vp_in (nI m) 16384 := vp_in_nI (by omega) (by decide)
  have cm : (nI m).toNatClampNeg = m := nI_clamp (by omega)
  intro r
  induction r with
  | zero =>
    intro k hk
    obtain rfl : k = n := by omega
    exact eX12_order (wcV (st_of en (by rw [← eG]; exact funext fun i => rd_o (by decide))) (And.intro (fun _ => K) (fun q => absurd (Int32.le_refl _) q)))
  | succ r ih =>
    intro k hk
    have i := ih (k + 1) (by omega)
    have j150 : ∀ v, v = b2i (leaP U e (nI m) (k + 1)) → E cx jX12_order d a 150 [some (.ref o_m), some (.int i0), some (.int e), some (.int (nI m)), some (.int (nI k)), l5] [.int v, .int (nI m), .ref o_m_leads] (wI G o_m_leads m (b2i (leaP U e (nI m) k))) Q := fun v ev => by
      rw [nI_succ] at i
      subst ev
      refine eX12_order (And.intro vm (e_eq i rfl rfl ?_))
      rw [cm, nar_b2i, wI_wI]
    have j149 : ¬ leaP U e (nI m) (k + 1) → E cx jX12_order d a 149 [some (.ref o_m), some (.int i0), some (.int e), some (.int (nI m)), some (.int (nI k)), l5] [.int (nI m), .ref o_m_leads] (wI G o_m_leads m (b2i (leaP U e (nI m) k))) Q := fun z => eX12_order (j150 0 (b2i_f z).symm)
    have own : hI (wI G o_m_leads m (b2i (leaP U e (nI m) k))) o_m_leads (nI m).toNatClampNeg = b2i (leaP U e (nI m) k) := by rw [cm]; exact rd_same
    have law : hI (wI G o_m_leads m (b2i (leaP U e (nI m) k))) o_m_lawful (nI m).toNatClampNeg = b2i (lwf U (nI m)) := by rw [cm, rd_o (by decide)]; exact hl
    refine eX12_order (wcV (st_of en (by rw [← eG]; exact funext fun i => rd_o (by decide))) (And.intro (fun q => absurd q (nI_ge (by omega) (by omega))) (fun _ => (And.intro vm (And.intro (fun q2 => (eX12_order (j150 1 (b2i_t ?_).symm))) (fun q2 => (And.intro vm (And.intro (fun q3 => j149 ?_) (fun q3 => (wcS n_isIn (And.intro (fun q4 => j149 ?_) (fun q4 => (wcS n_isIn (And.intro (fun q5 => j149 ?_) (fun q5 => ?_)))))))))))))))
    · have q2 : ¬ hI (wI G o_m_leads m (b2i (leaP U e (nI m) k))) o_m_leads (nI m).toNatClampNeg = 0 := q2
      rw [own] at q2
      exact leaP_s.mpr (Or.inl (b2i_n q2))
    all_goals
      have q2 : hI (wI G o_m_leads m (b2i (leaP U e (nI m) k))) o_m_leads (nI m).toNatClampNeg = 0 := q2
      rw [own] at q2
    · have q3 : hI (wI G o_m_leads m (b2i (leaP U e (nI m) k))) o_m_lawful (nI m).toNatClampNeg = 0 := q3
      rw [law] at q3
      rw [leaP_s]
      rintro (z | z)
      · exact b2i_0.mp q2 z
      · exact b2i_0.mp q3 z.1
    · rw [leaP_s]
      rintro (z | z)
      · exact b2i_0.mp q2 z
      · exact b2i_0.mp q4 ((inB_bt (by omega)).mpr z.2.1)
    · have q5 := (inB_bt (s := e) (k := k) (by omega)).mp (b2i_n q5)
      rw [leaP_s]
      rintro (z | z)
      · exact b2i_0.mp q2 z
      · rw [q5] at z; cases z.2.2.1
    · have q3 : ¬ hI (wI G o_m_leads m (b2i (leaP U e (nI m) k))) o_m_lawful (nI m).toNatClampNeg = 0 := q3
      rw [law] at q3
      have q4 := (inB_bt (s := nI m) (k := k) (by omega)).mp (b2i_n q4)
      have q5 : bt e k = false := ts_nt fun z => b2i_0.mp q5 ((inB_bt (by omega)).mpr z)
      obtain ⟨j, hj, ej⟩ := rm_nI (m := m) (i := k) (by omega) (by omega) q4
      have vj : vp_in (dif (nI m) (one k)) 16384 := by rw [ej]; exact vp_in_nI (by omega) (by decide)
      have cj : (dif (nI m) (one k)).toNatClampNeg = j := by rw [ej, nI_clamp (by omega)]
      have hcj := hc j hj
      rw [← ej] at hcj
      have r1 : hI (wI G o_m_leads m (b2i (leaP U e (nI m) k))) o_m_leads (dif (nI m) (one k)).toNatClampNeg = b2i (leaA U e (dif (nI m) (one k))) := by rw [cj, rd_k (by omega)]; exact hcj
      refine (And.intro vj (And.intro (fun q6 => j149 ?_) (fun q6 => (eX12_order (j150 1 (b2i_t ?_).symm)))))
      · have q6 : hI (wI G o_m_leads m (b2i (leaP U e (nI m) k))) o_m_leads (dif (nI m) (one k)).toNatClampNeg = 0 := q6
        rw [r1] at q6
        rw [leaP_s]
        rintro (z | z)
        · exact b2i_0.mp q2 z
        · exact b2i_0.mp q6 z.2.2.2
      · have q6 : ¬ hI (wI G o_m_leads m (b2i (leaP U e (nI m) k))) o_m_leads (dif (nI m) (one k)).toNatClampNeg = 0 := q6
        rw [r1] at q6
        exact leaP_s.mpr (Or.inr ⟨b2i_n q3, q4, q5, b2i_n q6⟩)
theorem e_ordAll {Q : Option Value → Hp → Prop} {n : Nat} {G0 : Hp} {e i0 : Int32} {l5 : Option Value} (hd : 3 ≤ d) (en : w 157 = nI n) (hn : n ≤ 14) (eG0 : kW G0 = w) (hl : ∀ m, m < 2 ^ n → hI G0 o_m_lawful m = b2i (lwf U (nI m)))
    (K : ∀ g l4, keepZ G0 g → (∀ j, j < 2 ^ n → hI g o_m_leads j = b2i (leaA U e (nI j))) → E cx jX12_order d a 163 [some (.ref o_m), some (.int i0), some (.int e), some (.int (nI (2 ^ n))), l4, l5] [] g Q) :
    ∀ r m, r + m = 2 ^ n → ∀ g l4, keepZ G0 g → (∀ j, j < m → hI g o_m_leads j = b2i (leaA U e (nI j))) → E cx jX12_order d a 50 [some (.ref o_m), some (.int i0), some (.int e), some (.int (nI m)), l4, l5] [] g Q := by
  have h14 := pow14 hn
  have p2 : (1 : Int32) <<< (nI n &&& 31) = nI (2 ^ n) := one_nI (by omega)
  intro r
  induction r with
  | zero =>
    intro m hm g l4 ks s1
    obtain rfl : m = 2 ^ n := by omega
    exact eX12_order (wcV (st_of en ((keepZ_W ks).trans eG0)) (And.intro (fun _ => K g l4 ks s1) (fun q => absurd (by rw [p2]; exact Int32.le_refl _) q)))
  | succ r ih =>
    intro m hm g l4 ks s1
    have vm : vp_in (nI m) 16384 := vp_in_nI (by omega) (by decide)
    have cm : (nI m).toNatClampNeg = m := nI_clamp (by omega)
    have j75 : ∀ v, v = b2i (leaP U e (nI m) 0) → E cx jX12_order d a 75 [some (.ref o_m), some (.int i0), some (.int e), some (.int (nI m)), l4, l5] [.int v, .int (nI m), .ref o_m_leads] g Q := fun v ev => by
      subst ev
      refine eX12_order (And.intro vm ?_)
      rw [cm, nar_b2i]
      refine e_ordIn (U := U) (G := g) (by omega) en hn (by omega) ((keepZ_W ks).trans eG0) (by rw [ks.2 _ _ (by decide)]; exact hl m (by omega)) s1 ?_ n 0 rfl
      have i := ih (m + 1) (by omega) (wI g o_m_leads m (b2i (leaP U e (nI m) n))) (some (.int (nI n))) (keepZ_t ks keepZ_w) (fun j hj => ?_)
      · rw [nI_succ] at i
        exact eX12_order i
      · by_cases ej : j = m
        · subst ej; rw [rd_same, b2i_cg (leaP_n hn (nI_low (by omega)))]
        · rw [rd_k ej]; exact s1 j (by omega)
    refine eX12_order (wcV (st_of en ((keepZ_W ks).trans eG0)) (And.intro (fun q => absurd q (by rw [p2]; exact nI_ge (by omega) (by omega))) (fun _ => (And.intro (fun q2 => (eX12_order (j75 0 (b2i_f (by rw [leaP_0]; exact q2)).symm))) (fun q2 => (j75 1 (b2i_t (by rw [leaP_0]; exact q2)).symm))))))
end T74
