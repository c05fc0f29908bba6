/-! mending and felling: the class's answers are the model's -/
section T93
variable {cx : Cx} {d a c : Nat} {h g f : Hp} {w : Wd} {n s t : Nat}
theorem feX_of {P : Nat → Prop} {N o : Nat} (hN : N ≤ 16384) (q : fI (fun x => ∃ k, k < N ∧ P k ∧ x = nI k) (fun z => cnt (fun k => P k ∧ sz (nI k) = z) N) g o) : feX (fewF P N) o g := by
  unfold feX
  rcases fewF_few (P := P) N hN with ⟨e1, e2, no⟩ | ⟨b, e2⟩
  · rcases q with ⟨a1, a2, a3, -⟩ | ⟨b, -, bb, -⟩
    · rw [e1, e2, if_pos rfl]; exact ⟨a2, a1, a3⟩
    · obtain ⟨k, hk, p, -⟩ := bb.1; exact absurd p (no k hk)
  · rcases q with ⟨-, -, -, no⟩ | ⟨b', b1, bb, b3, b4⟩
    · exact absurd b.1 (no _)
    · have e := few_one bb b
      obtain ⟨k, hk, -, ek⟩ := b.1
      have ne : ¬ (fewF P N).1 = -1 := by rw [ek]; exact nI_m1 (by omega)
      rw [if_neg ne, e2, ← e, ones_sz]
      exact ⟨b3, b1, b4⟩
theorem cnt_zero {Q : Nat → Prop} : ∀ M, (∀ k, k < M → ¬ Q k) → cnt Q M = 0 := by
  intro M
  induction M with
  | zero => intro _; rfl
  | succ M im => intro z; rw [cnt_f (z M (by omega))]; exact im fun k hk => z k (by omega)
theorem ex_s {Q : Nat → Prop} {F : Nat → Int32} {k : Nat} (x : Int32) : (∃ i, i < k + 1 ∧ Q i ∧ x = F i) ↔ (∃ i, i < k ∧ Q i ∧ x = F i) ∨ (Q k ∧ x = F k) := by
  constructor
  · rintro ⟨i, hi, l, e⟩
    by_cases ei : i = k
    · subst ei; exact Or.inr ⟨l, e⟩
    · exact Or.inl ⟨i, by omega, l, e⟩
  · rintro (⟨i, hi, l, e⟩ | ⟨l, e⟩)
    · exact ⟨i, by omega, l, e⟩
    · exact ⟨k, by omega, l, e⟩
/-- a teller of the fewest goes on -/
theorem fI_no {Q : Nat → Prop} {F : Nat → Int32} {k o : Nat} (z : ¬ Q k) (q : fI (fun x => ∃ i, i < k ∧ Q i ∧ x = F i) (fun z => cnt (fun i => Q i ∧ sz (F i) = z) k) g o) : fI (fun x => ∃ i, i < k + 1 ∧ Q i ∧ x = F i) (fun z => cnt (fun i => Q i ∧ sz (F i) = z) (k + 1)) g o := by
  have e1 : (fun x => ∃ i, i < k + 1 ∧ Q i ∧ x = F i) = (fun x => ∃ i, i < k ∧ Q i ∧ x = F i) := funext fun x => propext (by rw [ex_s x]; exact ⟨fun y => y.elim id fun y => absurd y.1 z, Or.inl⟩)
  have e2 : (fun z => cnt (fun i => Q i ∧ sz (F i) = z) (k + 1)) = (fun z => cnt (fun i => Q i ∧ sz (F i) = z) k) := funext fun v => cnt_f (P := fun i => Q i ∧ sz (F i) = v) (fun y => z y.1)
  rw [e1, e2]; exact q
theorem fI_hyp {Q : Nat → Prop} {F : Nat → Int32} {k : Nat} (y : Q k) : (∀ x, (∃ i, i < k + 1 ∧ Q i ∧ x = F i) ↔ (∃ i, i < k ∧ Q i ∧ x = F i) ∨ x = F k) ∧ (∀ z, cnt (fun i => Q i ∧ sz (F i) = z) (k + 1) = cnt (fun i => Q i ∧ sz (F i) = z) k + (if sz (F k) = z then 1 else 0)) ∧ ((∀ x, ¬ ∃ i, i < k ∧ Q i ∧ x = F i) → ∀ z, cnt (fun i => Q i ∧ sz (F i) = z) k = 0) ∧ (∀ b, isFew (fun x => ∃ i, i < k ∧ Q i ∧ x = F i) b → ∀ z, z < sz b → cnt (fun i => Q i ∧ sz (F i) = z) k = 0) := by
  refine ⟨fun x => ?_, fun z => ?_, fun no z => cnt_zero k fun i hi q => no (F i) ⟨i, hi, q.1, rfl⟩, fun b bb z hz => cnt_zero k fun i hi q => ?_⟩
  · rw [ex_s x]; exact or_congr Iff.rfl ⟨fun z => z.2, fun z => ⟨y, z⟩⟩
  · by_cases e : sz (F k) = z
    · rw [if_pos e]; exact cnt_t (P := fun i => Q i ∧ sz (F i) = z) ⟨y, e⟩
    · rw [if_neg e]; exact cnt_f (P := fun i => Q i ∧ sz (F i) = z) (fun q => e q.2)
  · by_cases eb : F i = b
    · rw [eb] at q; omega
    · have := bb.2 (F i) ⟨i, hi, q.1, rfl⟩ eb
      unfold fwr at this; omega
theorem fI_0 {Q : Nat → Prop} {F : Nat → Int32} {o : Nat} (e0 : hI g o 0 = -1) (e1 : hI g o 1 = -1) (e2 : hI g o 2 = 0) : fI (fun x => ∃ i, i < 0 ∧ Q i ∧ x = F i) (fun z => cnt (fun i => Q i ∧ sz (F i) = z) 0) g o := Or.inl ⟨e1, e0, e2, fun s ⟨i, hi, _⟩ => absurd hi (Nat.not_lt_zero _)⟩
theorem x_mending (hd : 2 ≤ d) (q : wX w n s t h) (th : thOk w (aU w (lawOf w)) n s h) : M cx jX9_mending d a [.ref o_thieves] h (fun r g => r = some (.ref o_mendingFound) ∧ keepTh h g ∧ thOk w (aU w (lawOf w)) n s g ∧ feX (fewF (mdP w (aU w (lawOf w))) (2 ^ s)) o_mendingFound g) := by
  obtain ⟨eT, lT, hn⟩ := wX_T q
  have hs : s ≤ 8 := q.2.1.2.1
  have es : w 158 = nI s := q.2.1.2.2.2.2.1
  refine M_mono (m_mending hd) ?_
  rintro r g ⟨rfl, rfl⟩
  unfold meA
  by_cases z : hI h o_thieves 13 &&& 16 = 0
  · rw [if_pos z]
    have eN : (meN h).toNatClampNeg = 2 ^ s := by
      have h256 : 2 ^ s ≤ 256 := Nat.pow_le_pow_right (n := 2) (by decide) hs
      have : meN h = nI (2 ^ s) := by
        unfold meN
        rw [q.1.2.2.2.1, es]
        by_cases l : s < 8
        · rw [if_pos (show nI s < 8 from nI_lt (b := 8) l (by decide))]; exact one_nI (by omega)
        · have e8 : s = 8 := by omega
          rw [e8, if_neg (show ¬ nI 8 < 8 from nI_nlt (a := 8) (b := 8) (Nat.le_refl _) (by decide))]; exact one_nI (i := 8) (by decide)
      rw [this, nI_clamp (by omega)]
    unfold meD
    rw [eN, eT]
    generalize eg0 : clrF (knw h 16) o_mendingFound = g0
    have c0 : ∀ o k, o ≠ 99 → o ≠ 91 → hI g0 o k = hI h o k := fun o k n1 n2 => by rw [← eg0, clrF_I n1]; exact knw_o n2
    have inv : ∀ k, k ≤ 2 ^ s → fI (fun x => ∃ i, i < k ∧ mdP w (aU w (lawOf w)) i ∧ x = nI i) (fun z => cnt (fun i => mdP w (aU w (lawOf w)) i ∧ sz (nI i) = z) k) (meH (w 159) g0 k) o_mendingFound := by
      intro k
      induction k with
      | zero =>
        intro _
        refine fI_0 ?_ ?_ ?_
        · rw [← eg0]; show hI (clrF _ _) _ _ = _; unfold clrF; rw [rd_k (by decide), rd_k (by decide), rd_same]
        · rw [← eg0]; show hI (clrF _ _) _ _ = _; unfold clrF; rw [rd_k (by decide), rd_same]
        · rw [← eg0]; show hI (clrF _ _) _ _ = _; unfold clrF; rw [rd_same]
      | succ k ih =>
        intro hk
        rw [meH_s]
        unfold meB
        have h256 : 2 ^ s ≤ 256 := Nat.pow_le_pow_right (n := 2) (by decide) hs
        have wk : wX w n s t (meH (w 159) g0 k) := wX_c q fun o j no => by rw [meH_I (by omega), c0 _ _ (by omega) (by omega)]
        have li := lawS_it wk (items_md q.2.1.2.2.2.1 hn es hs lT (by omega : k < 2 ^ s))
        by_cases y : mdP w (aU w (lawOf w)) k
        · rw [if_pos (li.mpr y)]
          obtain ⟨h1, h2, h3, h4⟩ := fI_hyp (F := nI) y
          exact fI_mendingFound (ih (by omega)) (nI_low (n := 22) (by omega)) h1 h2 h3 h4
        · rw [if_neg (fun x => y (li.mp x))]
          exact fI_no y (ih (by omega))
    have mx := feX_of (g := meH (w 159) g0 (2 ^ s)) (by have : 2 ^ s ≤ 256 := Nat.pow_le_pow_right (n := 2) (by decide) hs; omega) (inv _ (Nat.le_refl _))
    have cI : ∀ o k, o ≠ 99 → hI (meH (w 159) g0 (2 ^ s)) o k = hI (knw h 16) o k := fun o k no => by rw [meH_I no, ← eg0, clrF_I no]
    have cJ : (meH (w 159) g0 (2 ^ s)).2 = h.2 := by rw [meH_2, ← eg0]; rfl
    generalize meH (w 159) g0 (2 ^ s) = g at *
    have j0 : ∀ o k, hJ g o k = hJ h o k := fun o k => congrFun (congrFun (congrArg (fun z => z.1) cJ) o) k
    refine ⟨rfl, ⟨fun o k no => (cI o k (by omega)).trans (knw_o (by omega)), by rw [cJ], fun o k _ _ => j0 o k⟩, th_of (K := 16) th ((cI _ _ (by decide)).trans knw_13) (fun y => lwX_c (th.1 (((kb_or ((cI _ _ (by decide)).trans knw_13)).mp y).resolve_right fun x => x (by decide))) ((cI _ _ (by decide)).trans (knw_k (by decide))) (fun k => j0 _ k)) (Or.inl ⟨by decide, fun k => (cI _ _ (by decide)).trans (knw_o (by decide))⟩) (Or.inl ⟨by decide, fun k => (cI _ _ (by decide)).trans (knw_o (by decide)), (cI _ _ (by decide)).trans (knw_k (by decide)), fun k => (cI _ _ (by decide)).trans (knw_o (by decide))⟩) (Or.inl ⟨by decide, fun k => (cI _ _ (by decide)).trans (knw_o (by decide))⟩) (Or.inr mx) (Or.inl ⟨by decide, (cI _ _ (by decide)).trans (knw_k (by decide)), (cI _ _ (by decide)).trans (knw_k (by decide))⟩), mx⟩
  · rw [if_neg z]
    have mx := feX_c (g := knw h 16) (th.2.2.2.2.1 z) (fun k => knw_o (by decide))
    refine ⟨rfl, ⟨fun o k no => knw_o (by omega), rfl, fun _ _ _ _ => rfl⟩, th_of (K := 16) th knw_13 (lw_knw (by decide) th.1) (Or.inl ⟨by decide, fun k => knw_o (by decide)⟩) (Or.inl ⟨by decide, fun k => knw_o (by decide), knw_k (by decide), fun k => knw_o (by decide)⟩) (Or.inl ⟨by decide, fun k => knw_o (by decide)⟩) (Or.inr mx) (Or.inl ⟨by decide, knw_k (by decide), knw_k (by decide)⟩), mx⟩
/-! felling -/
/-- without one stone: an earlier one -/
theorem rm_pd {m k j : Nat} (hm : m < 2 ^ 14) (hk : k < 2 ^ pcn 32 m) (hj : j < 32) (b : bt (nI (pd 32 m k)) j = true) : ∃ i, i < k ∧ dif (nI (pd 32 m k)) (one j) = nI (pd 32 m i) ∧ sub (nI (pd 32 m i)) (nI m) := by
  obtain ⟨p1, p2⟩ := pd_sub (i := k) hm
  obtain ⟨x, hx, ex⟩ := rm_nI p1 hj b
  have sx : sub (nI x) (nI m) := by rw [← ex]; exact sub_t sub_dif p2
  obtain ⟨g1, g2⟩ := pd_of (by omega) hm sx
  refine ⟨pe 32 m x, ?_, by rw [g2]; exact ex, by rw [g2]; exact sx⟩
  have := pe_mono (w := 32) (c := m) (s := x) (t := pd 32 m k) (by omega) (by omega) ((sub_nat (by omega) hm).mp sx) (pd_and _ _ _) hx
  rw [pe_pd (Nat.lt_of_lt_of_le hm (by decide)) hk] at this
  exact this
theorem hwo_iff {x : Int32} {Mk : Int32 → Prop} (hM : ∀ j, j < 14 → bt x j = true → (inSI g o_marked_words (dif x (one j)) ↔ Mk (dif x (one j)))) : hwo_marked g x x 14 ↔ ∃ j, j < 14 ∧ bt x j = true ∧ Mk (dif x (one j)) := by
  have e : ∀ j, j < 14 → bt x j = true → one j &&& x &&& x = one j := fun j hj b => by rw [rm_one (by omega) b, rm_one (by omega) b]
  have e0 : ∀ j, j < 14 → (¬ (one j &&& x &&& x) = 0 ↔ bt x j = true) := fun j hj => by
    cases b : bt x j
    · rw [rm_no (by omega) b]
      constructor
      · intro z; exact absurd (by apply b_ext; intro i hi; rw [b_and, b_0]; rfl) z
      · intro z; cases z
    · rw [e j hj b]; exact ⟨fun _ => rfl, fun _ => one_ne (by omega)⟩
  unfold hwo_marked
  constructor
  · rintro ⟨j, hj, h1, h2⟩
    have b := (e0 j hj).mp h1
    have h2 : inSI g o_marked_words (x &&& ((one j &&& x &&& x) ^^^ -1)) := h2
    rw [e j hj b] at h2
    exact ⟨j, hj, b, (hM j hj b).mp h2⟩
  · rintro ⟨j, hj, b, h2⟩
    refine ⟨j, hj, (e0 j hj).mpr b, ?_⟩
    show inSI g o_marked_words (x &&& ((one j &&& x &&& x) ^^^ -1))
    rw [e j hj b]; exact (hM j hj b).mpr h2
/-- a set does not come down whole if it is lawful, or one of a stone less does not -/
theorem fall_rec {U : Int32 → Int32} (hU : Uok U) (hm : Umo U) {x : Int32} (l : low 14 x) : ¬ fallA U x = 0 ↔ lwf U x ∨ ∃ j, j < 14 ∧ bt x j = true ∧ ¬ fallA U (dif x (one j)) = 0 := by
  constructor
  · intro z
    by_cases e : fallA U x = x
    · exact Or.inl (by have := fall_lwf hU z; rw [e] at this; exact this)
    · right
      obtain ⟨j, hj, h1, h2⟩ : ∃ j, j < 32 ∧ bt x j = true ∧ bt (fallA U x) j = false := Classical.byContradiction fun y => e (sub_anti (it_sub 22 x) fun k hk b => ts_nf fun v => y ⟨k, hk, b, v⟩)
      refine ⟨j, l j hj h1, h1, fun y => (fall_0 hU hm).mp y (fallA U x) (fun k hk b => ?_) (fall_lwf hU z)⟩
      rw [bt_rm hj hk, it_sub 22 x k hk b]
      have : k ≠ j := fun v => by rw [v] at b; rw [b] at h2; cases h2
      simp [this]
  · rintro (z | ⟨j, hj, b, z⟩) y
    · exact (fall_0 hU hm).mp y x sub_r z
    · exact (fall_0 hU hm).mp y _ (sub_t (it_sub 22 _) sub_dif) (fall_lwf hU z)
theorem fe_inv {U : Int32 → Int32} {m : Nat} (hU : Uok U) (hmo : Umo U) (hm : m < 2 ^ 14) (lw : ∀ j, j < 16384 → (inS g o_lawful_words j ↔ lwf U (nI j) ∧ sub (nI j) (nI m))) (mk : ∀ j, j < 16384 → ¬ inS g o_marked_words j) (e0 : hI g o_fellingFound 0 = -1) (e1 : hI g o_fellingFound 1 = -1) (e2 : hI g o_fellingFound 2 = 0) :
    ∀ k, k ≤ 2 ^ pcn 32 m → (∀ j, j < 16384 → (inS (feH (nI m) g k) o_lawful_words j ↔ inS g o_lawful_words j)) ∧ (∀ j, j < 16384 → (inS (feH (nI m) g k) o_marked_words j ↔ ∃ i, i < k ∧ j = pd 32 m i ∧ ¬ fallA U (nI j) = 0)) ∧ fI (fun x => ∃ i, i < k ∧ fallA U (nI (pd 32 m i)) = 0 ∧ x = dif (nI m) (nI (pd 32 m i))) (fun z => cnt (fun i => fallA U (nI (pd 32 m i)) = 0 ∧ sz (dif (nI m) (nI (pd 32 m i))) = z) k) (feH (nI m) g k) o_fellingFound := by
  intro k
  induction k with
  | zero =>
    intro _
    exact ⟨fun _ _ => Iff.rfl, fun j hj => ⟨fun z => absurd z (mk j hj), fun ⟨i, hi, _⟩ => absurd hi (Nat.not_lt_zero _)⟩, fI_0 e0 e1 e2⟩
  | succ k ih =>
    intro hk
    obtain ⟨i1, i2, i3⟩ := ih (by omega)
    have es : lpS (nxU (nI m)) 0 k = nI (pd 32 m k) := lpU_pd (Nat.lt_of_lt_of_le hm (by decide)) k
    obtain ⟨p1, p2⟩ := pd_sub (i := k) hm
    rw [feH_s, es]
    unfold feB
    have l14 : low 14 (nI (pd 32 m k)) := nI_low p1
    have li : inSI (feH (nI m) g k) o_lawful_words (nI (pd 32 m k)) ↔ lwf U (nI (pd 32 m k)) := by
      rw [inSI_nI p1, i1 _ p1, lw _ p1]; exact ⟨fun z => z.1, fun z => ⟨z, p2⟩⟩
    have hw := hwo_iff (g := feH (nI m) g k) (x := nI (pd 32 m k)) (Mk := fun y => ¬ fallA U y = 0) (fun j hj b => by
      obtain ⟨i, hi, ei, si⟩ := rm_pd hm (by omega) (by omega) b
      have q1 := (pd_sub (i := i) hm).1
      rw [ei, inSI_nI q1, i2 _ q1]
      exact ⟨fun ⟨_, _, _, z⟩ => z, fun z => ⟨i, hi, rfl, z⟩⟩)
    have key : (inSI (feH (nI m) g k) o_lawful_words (nI (pd 32 m k)) ∨ hwo_marked (feH (nI m) g k) (nI (pd 32 m k)) (nI (pd 32 m k)) 14) ↔ ¬ fallA U (nI (pd 32 m k)) = 0 := by
      rw [li, hw, ← fall_rec hU hmo l14]
    have hc : ∀ j, (∃ i, i < k + 1 ∧ j = pd 32 m i ∧ ¬ fallA U (nI j) = 0) ↔ (∃ i, i < k ∧ j = pd 32 m i ∧ ¬ fallA U (nI j) = 0) ∨ (j = pd 32 m k ∧ ¬ fallA U (nI j) = 0) := fun j => by
      constructor
      · rintro ⟨i, hi, e, z⟩
        by_cases ei : i = k
        · subst ei; exact Or.inr ⟨e, z⟩
        · exact Or.inl ⟨i, by omega, e, z⟩
      · rintro (⟨i, hi, e, z⟩ | ⟨e, z⟩)
        · exact ⟨i, by omega, e, z⟩
        · exact ⟨k, by omega, e, z⟩
    by_cases y : fallA U (nI (pd 32 m k)) = 0
    · rw [if_neg (fun z => key.mp z y)]
      have eJ : (offF_fellingFound (feH (nI m) g k) (dif (nI m) (nI (pd 32 m k)))).2 = (feH (nI m) g k).2 := offF_fell_2
      have eJ2 : ∀ o j, inS (offF_fellingFound (feH (nI m) g k) (dif (nI m) (nI (pd 32 m k)))) o j ↔ inS (feH (nI m) g k) o j := fun o j => inS_J fun x => congrFun (congrFun (congrArg (fun z => z.1) eJ) o) x
      obtain ⟨h1, h2, h3, h4⟩ := fI_hyp (Q := fun i => fallA U (nI (pd 32 m i)) = 0) (F := fun i => dif (nI m) (nI (pd 32 m i))) (k := k) y
      refine ⟨fun j hj => (eJ2 _ j).trans (i1 j hj), fun j hj => ?_, fI_fellingFound i3 (low_sub sub_dif (nI_low (n := 22) (by omega))) h1 h2 h3 h4⟩
      rw [eJ2, i2 j hj, hc j]
      exact ⟨Or.inl, fun z => z.elim id fun x => absurd (by rw [x.1]; exact y) x.2⟩
    · rw [if_pos (key.mpr y)]
      refine ⟨fun j hj => ?_, fun j hj => ?_, fI_no y ?_⟩
      · rw [inS_add, i1 j hj]; exact ⟨fun z => z.elim (fun x => absurd x.1 (by decide)) id, Or.inr⟩
      · rw [inS_add, nI_clamp (by omega), i2 j hj, hc j]
        constructor
        · rintro (⟨-, z⟩ | z)
          · exact Or.inr ⟨z, by rw [z]; exact y⟩
          · exact Or.inl z
        · rintro (z | z)
          · exact Or.inr z
          · exact Or.inl ⟨rfl, z.1⟩
      · exact i3
end T93
