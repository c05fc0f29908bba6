/-! one by one, and the order: the class's answers are the model's -/
section T96
variable {cx : Cx} {d a c : Nat} {h g f : Hp} {w : Wd} {n s t : Nat}
theorem st_most {m : Nat} (q : wX w n s t h) (em : w 159 = nI m) (hm : m < 2 ^ n) (q1 : mI (fun x => nwt w x n) (fun x => ∃ i, i < 2 ^ pcn 32 m ∧ comA (aU w (lawOf w)) (nI m) (nI (dn m i)) ∧ x = dif (nI m) (nI (dn m i))) g o_stepsFound) (q2 : hI g o_stepsFound 3 = nI (cnt (fun i => comA (aU w (lawOf w)) (nI m) (nI (dn m i))) (2 ^ pcn 32 m))) : moX w n (tmF w n (tkPr w (aU w (lawOf w)) true) (2 ^ n)) o_stepsFound g := by
  obtain ⟨-, lT, hn⟩ := wX_T q
  have h14 := pow14 hn
  have m14 : m < 2 ^ 14 := by omega
  generalize aU w (lawOf w) = U at *
  have tk : ∀ k, k < 2 ^ n → (tkPr w U true k ↔ sub (nI k) (nI m) ∧ comA U (nI m) (dif (nI m) (nI k))) := fun k hk => by
    unfold tkPr comQ
    rw [part_iff hn lT (by omega), em]
    exact ⟨fun z => ⟨z.1, z.2.1 rfl⟩, fun z => ⟨z.1, fun _ => z.2, (fun y => by cases y)⟩⟩
  have up : ∀ x, x < 2 ^ 14 → sub (nI x) (nI m) → 2 ^ pcn 32 m - 1 - pe 32 m x < 2 ^ pcn 32 m ∧ dn m (2 ^ pcn 32 m - 1 - pe 32 m x) = x := fun x hx sx => by
    obtain ⟨g1, g2⟩ := pd_of hx m14 sx
    refine ⟨by omega, ?_⟩
    unfold dn
    rw [show 2 ^ pcn 32 m - 1 - (2 ^ pcn 32 m - 1 - pe 32 m x) = pe 32 m x by omega, g2]
  have same : ∀ x, (∃ i, i < 2 ^ pcn 32 m ∧ comA U (nI m) (nI (dn m i)) ∧ x = dif (nI m) (nI (dn m i))) ↔ ∃ k, k < 2 ^ n ∧ tkPr w U true k ∧ x = nI k := fun x => by
    constructor
    · rintro ⟨i, hi, l, e⟩
      obtain ⟨k, hk, ek⟩ := low_nI (by omega) (low_sub (sub_dif (t := nI (dn m i))) (nI_low hm))
      refine ⟨k, hk, (tk k hk).mpr ?_, e.trans ek⟩
      rw [← ek]
      refine ⟨sub_dif, ?_⟩
      rw [dif_dif (dn_sub m14).2]; exact l
    · rintro ⟨k, hk, p, rfl⟩
      obtain ⟨p1, p2⟩ := (tk k hk).mp p
      obtain ⟨j, hj, ej⟩ := low_nI (by omega) (low_sub (sub_dif (t := nI k)) (nI_low hm))
      obtain ⟨g1, g2⟩ := up j (by omega) (by rw [← ej]; exact sub_dif)
      refine ⟨_, g1, by rw [g2, ← ej]; exact p2, ?_⟩
      rw [g2, ← ej, dif_dif p1]
  have cn : cnt (fun i => comA U (nI m) (nI (dn m i))) (2 ^ pcn 32 m) = cnt (tkPr w U true) (2 ^ n) := by
    refine cnt_bij (fun i => (dif (nI m) (nI (dn m i))).toNatClampNeg) (fun k => 2 ^ pcn 32 m - 1 - pe 32 m (dif (nI m) (nI k)).toNatClampNeg) (fun i hi l => ?_) (fun k hk p => ?_)
    · obtain ⟨k, hk, ek⟩ := low_nI (by omega) (low_sub (sub_dif (t := nI (dn m i))) (nI_low hm))
      have dd := dif_dif (dn_sub (i := i) m14).2
      rw [ek] at dd
      rw [ek, nI_clamp (by omega)]
      refine ⟨hk, (tk k hk).mpr ⟨by rw [← ek]; exact sub_dif, by rw [dd]; exact l⟩, ?_⟩
      rw [dd, nI_clamp (by have := (dn_sub (i := i) m14).1; omega), show pe 32 m (dn m i) = 2 ^ pcn 32 m - 1 - i from pe_pd (Nat.lt_of_lt_of_le m14 (by decide)) (by omega)]
      omega
    · obtain ⟨p1, p2⟩ := (tk k hk).mp p
      obtain ⟨j, hj, ej⟩ := low_nI (by omega) (low_sub (sub_dif (t := nI k)) (nI_low hm))
      obtain ⟨g1, g2⟩ := up j (by omega) (by rw [← ej]; exact sub_dif)
      rw [ej, nI_clamp (by omega)]
      refine ⟨g1, by rw [g2, ← ej]; exact p2, ?_⟩
      rw [g2, ← ej, dif_dif p1, nI_clamp (by omega)]
  have be := tmF_best (w := w) (n := n) (P := tkPr w U true) (2 ^ n) h14
  unfold moX
  rw [tmF_cnt, ← cn]
  rcases q1 with ⟨a1, a2, a3, no⟩ | ⟨b, b1, b2, b3, b4⟩
  · have e : (tmF w n (tkPr w U true) (2 ^ n)).1 = -1 := by
      rcases be with ⟨e, -⟩ | bb
      · exact e
      · exact absurd ((same _).mpr bb.1) (no _)
    rw [e, if_pos rfl, if_pos rfl]
    exact ⟨a2, a3, a1, q2⟩
  · rcases be with ⟨-, no⟩ | bb
    · obtain ⟨k, hk, p, -⟩ := (same b).mp b2.1
      exact absurd p (no k hk)
    · have e := best_one b2 (best_cg bb fun x => (same x).symm)
      obtain ⟨k, hk, -, ek⟩ := bb.1
      have ne : ¬ (tmF w n (tkPr w U true) (2 ^ n)).1 = -1 := by rw [ek]; exact nI_m1 (by omega)
      rw [if_neg ne, if_neg ne, ← e, ones_sz]
      exact ⟨b3, b4, b1, q2⟩
/-! the order -/
theorem hwo2_iff {l x : Int32} {Mk : Int32 → Prop} (dj : ∀ j, j < 32 → bt x j = true → bt l j = false) (hM : ∀ j, j < 14 → bt x j = true → (inSI g o_marked_words (l ||| dif x (one j)) ↔ Mk (dif (l ||| x) (one j)))) : hwo_marked g (l ||| x) x 14 ↔ ∃ j, j < 14 ∧ bt x j = true ∧ Mk (dif (l ||| x) (one j)) := by
  have e : ∀ j, j < 14 → bt x j = true → one j &&& x &&& (l ||| x) = one j := fun j hj b => by
    rw [rm_one (by omega) b]; exact rm_one (by omega) (by rw [b_or, b, Bool.or_true])
  have e0 : ∀ j, j < 14 → ¬ (one j &&& x &&& (l ||| x)) = 0 → bt x j = true := fun j hj z => by
    cases b : bt x j
    · rw [rm_no (by omega) b] at z
      exact absurd (by apply b_ext; intro i hi; rw [b_and, b_0]; rfl) z
    · rfl
  have ed : ∀ j, j < 14 → bt x j = true → dif (l ||| x) (one j) = l ||| dif x (one j) := fun j hj b => b_ext fun i hi => by
    rw [bt_rm (by omega) hi, b_or, b_or, bt_rm (by omega) hi]
    by_cases ei : i = j
    · subst ei; rw [dj i hi b]; simp
    · simp [ei]
  unfold hwo_marked
  constructor
  · rintro ⟨j, hj, h1, h2⟩
    have b := e0 j hj h1
    have h2 : inSI g o_marked_words ((l ||| x) &&& ((one j &&& x &&& (l ||| x)) ^^^ -1)) := h2
    rw [e j hj b] at h2
    have h2 : inSI g o_marked_words (dif (l ||| x) (one j)) := h2
    exact ⟨j, hj, b, (hM j hj b).mp (by rw [← ed j hj b]; exact h2)⟩
  · rintro ⟨j, hj, b, h2⟩
    have ee := e j hj b
    refine ⟨j, hj, ?_, ?_⟩
    · show ¬ (one j &&& x &&& (l ||| x)) = 0
      rw [ee]; exact one_ne (by omega)
    · show inSI g o_marked_words ((l ||| x) &&& ((one j &&& x &&& (l ||| x)) ^^^ -1))
      rw [ee]
      show inSI g o_marked_words (dif (l ||| x) (one j))
      rw [ed j hj b]; exact (hM j hj b).mpr h2
/-- the ways that lead to e, over the stones b -/
theorem fo_inv {U : Int32 → Int32} {e : Int32} {b : Nat} (hb : b < 2 ^ 14) (l14 : low 14 e) (dj : ∀ j, j < 32 → bt (nI b) j = true → bt e j = false) (lw : ∀ x, low 14 x → sub x (e ||| nI b) → (inSI g o_lawful_words x ↔ lwf U x)) (mk : ∀ j, j < 16384 → ¬ inS g o_marked_words j) :
    ∀ k, k ≤ 2 ^ pcn 32 b → (∀ j, inS (foH e (nI b) g k) o_lawful_words j ↔ inS g o_lawful_words j) ∧ (∀ j, j < 16384 → (inS (foH e (nI b) g k) o_marked_words j ↔ ∃ i, i < k ∧ nI j = e ||| nI (pd 32 b i) ∧ leaA U e (nI j))) := by
  intro k
  induction k with
  | zero => intro _; exact ⟨fun _ => Iff.rfl, fun j hj => ⟨fun z => absurd z (mk j hj), fun ⟨i, hi, _⟩ => absurd hi (Nat.not_lt_zero _)⟩⟩
  | succ k ih =>
    intro hk
    obtain ⟨i1, i2⟩ := ih (by omega)
    have es : lpS (nxU (nI b)) 0 k = nI (pd 32 b k) := lpU_pd (Nat.lt_of_lt_of_le hb (by decide)) k
    obtain ⟨p1, p2⟩ := pd_sub (i := k) hb
    rw [foH_s, es]
    unfold foB
    have djk : ∀ j, j < 32 → bt (nI (pd 32 b k)) j = true → bt e j = false := fun j hj z => dj j hj (p2 j hj z)
    have lx : low 14 (e ||| nI (pd 32 b k)) := low_or l14 (nI_low p1)
    have sx : sub (e ||| nI (pd 32 b k)) (e ||| nI b) := fun i hi z => by
      rw [b_or] at z ⊢; simp at z; rcases z with z | z
      · rw [z]; rfl
      · rw [p2 i hi z, Bool.or_true]
    obtain ⟨x, hx, ex⟩ := low_nI (n := 14) (by decide) lx
    have li : inSI (foH e (nI b) g k) o_lawful_words (e ||| nI (pd 32 b k)) ↔ lwf U (e ||| nI (pd 32 b k)) := by
      rw [← lw _ lx sx, ex, inSI_nI (by omega), inSI_nI (by omega), i1]
    have hw := hwo2_iff (g := foH e (nI b) g k) (l := e) (x := nI (pd 32 b k)) (Mk := leaA U e) djk (fun j hj bj => by
      obtain ⟨i, hi, ei, si⟩ := rm_pd hb (by omega) (by omega) bj
      have ed : dif (e ||| nI (pd 32 b k)) (one j) = e ||| nI (pd 32 b i) := by
        rw [← ei]
        exact b_ext fun i hi => by
          rw [bt_rm (by omega) hi, b_or, b_or, bt_rm (by omega) hi]
          by_cases ej : i = j
          · subst ej; rw [djk i hi bj]; simp
          · simp [ej]
      obtain ⟨y, hy, ey⟩ := low_nI (n := 14) (by decide) (low_or l14 (nI_low (pd_sub (i := i) hb).1))
      rw [ei, ed, ey, inSI_nI (by omega), i2 _ (by omega)]
      exact ⟨fun ⟨_, _, _, z⟩ => z, fun z => ⟨i, hi, ey.symm, z⟩⟩)
    have key : foP e (foH e (nI b) g k) (nI (pd 32 b k)) ↔ leaA U e (e ||| nI (pd 32 b k)) := by
      unfold foP
      rw [li, hw, lea_eq]
      constructor
      · rintro (z | ⟨z, j, hj, bj, y⟩)
        · left; rw [z]; exact or_0
        · exact Or.inr ⟨z, j, hj, by rw [b_or, bj, Bool.or_true], djk j (by omega) bj, y⟩
      · rintro (z | ⟨z, j, hj, bj, nb, y⟩)
        · left
          apply zero_bt.mpr; intro i hi
          refine ts_nt fun v => ?_
          have := djk i hi v
          have e2 : bt (e ||| nI (pd 32 b k)) i = bt e i := by rw [z]
          rw [b_or, v, this] at e2; cases e2
        · refine Or.inr ⟨z, j, hj, ?_, y⟩
          rw [b_or, nb] at bj; simpa using bj
    have hc : ∀ j, (∃ i, i < k + 1 ∧ nI j = e ||| nI (pd 32 b i) ∧ leaA U e (nI j)) ↔ (∃ i, i < k ∧ nI j = e ||| nI (pd 32 b i) ∧ leaA U e (nI j)) ∨ (nI j = e ||| nI (pd 32 b k) ∧ leaA U e (nI j)) := fun j => by
      constructor
      · rintro ⟨i, hi, e', z⟩
        by_cases ei : i = k
        · subst ei; exact Or.inr ⟨e', z⟩
        · exact Or.inl ⟨i, by omega, e', z⟩
      · rintro (⟨i, hi, e', z⟩ | ⟨e', z⟩)
        · exact ⟨i, by omega, e', z⟩
        · exact ⟨k, by omega, e', z⟩
    by_cases y : leaA U e (e ||| nI (pd 32 b k))
    · rw [if_pos (key.mpr y)]
      refine ⟨fun j => ?_, fun j hj => ?_⟩
      · rw [inS_add, i1 j]; exact ⟨fun z => z.elim (fun x => absurd x.1 (by decide)) id, Or.inr⟩
      · rw [inS_add, ex, nI_clamp (by omega), i2 j hj, hc j, ex]
        constructor
        · rintro (⟨-, z⟩ | z)
          · exact Or.inr ⟨by rw [z], by rw [z, ← ex]; exact y⟩
          · exact Or.inl z
        · rintro (z | z)
          · exact Or.inr z
          · exact Or.inl ⟨rfl, (nI_eq (by omega) (by omega)).mp z.1⟩
    · rw [if_neg (fun z => y (key.mp z))]
      refine ⟨i1, fun j hj => ?_⟩
      rw [i2 j hj, hc j]
      exact ⟨Or.inl, fun z => z.elim id fun v => absurd (by rw [← v.1]; exact v.2) y⟩
/-- the steps that findOrder writes -/
theorem fo_steps {U : Int32 → Int32} {e T : Int32} {b : Nat} (l14 : low 14 T) (hb : nI b = dif T e) (se : sub e T) (ld : leaA U e T) (mk : ∀ x, sub x T → sub e x → (inSI g o_marked_words x ↔ leaA U e x)) (e9 : hI g o_thieves 9 = 0) :
    ∀ k, (k ≤ sz (nI b) → (foR g (nI b) T k).1 = ordN U e T k ∧ hI (foR g (nI b) T k).2 o_thieves 9 = nI k ∧ ∀ j, j < k → hI (foR g (nI b) T k).2 o_th_steps j = ordS U e T j) ∧ (sz (nI b) ≤ k → (foR g (nI b) T k).1 = e ∧ hI (foR g (nI b) T k).2 o_thieves 9 = nI (sz (nI b)) ∧ ∀ j, j < sz (nI b) → hI (foR g (nI b) T k).2 o_th_steps j = ordS U e T j) := by
  have fin : ordN U e T (sz (nI b)) = e := by
    obtain ⟨i1, i2, i3, i4⟩ := ord_inv (U := U) l14 ld se (sz (nI b)) (by rw [hb]; exact Nat.le_refl _)
    rw [hb] at i4
    have z : sz (dif (ordN U e T (sz (nI b))) e) = 0 := by rw [hb]; omega
    have l22 : low 22 (dif (ordN U e T (sz (nI b))) e) := low_le (by decide) (low_sub (sub_t sub_dif i3) l14)
    have := (sz_eq0 l22).mp z
    exact sub_anti (sub_iff.mpr this) i2
  -- the lowest marked is the next
  have lm : ∀ now, sub now T → sub e now → ∀ k, k < 14 → (lmP g now (nI b) k ↔ ldP U e now k) := fun now sn en k hk => by
    have eq1 : ∀ j, j < 14 → ((bt now j = true ∧ bt e j = false) ↔ (bt now j = true ∧ bt (nI b) j = true)) := fun j hj => by
      rw [hb, bt_dif (by omega)]
      constructor
      · rintro ⟨h1, h2⟩; rw [sn j (by omega) h1, h2]; exact ⟨h1, rfl⟩
      · rintro ⟨h1, h2⟩; simp at h2; exact ⟨h1, h2.2⟩
    have ee : ∀ j, j < 14 → bt now j = true → bt (nI b) j = true → one j &&& now &&& nI b = one j := fun j hj h1 h2 => by
      rw [rm_one (by omega) h1, rm_one (by omega) h2]
    have e0 : ¬ (one k &&& now &&& nI b) = 0 → bt now k = true ∧ bt (nI b) k = true := fun z => by
      cases h1 : bt now k
      · rw [rm_no (by omega) h1] at z; exact absurd (by apply b_ext; intro i hi; rw [b_and, b_0]; rfl) z
      · rw [rm_one (by omega) h1] at z
        cases h2 : bt (nI b) k
        · exact absurd (rm_no (by omega) h2) z
        · exact ⟨rfl, rfl⟩
    have mk2 : bt now k = true → bt e k = false → (inSI g o_marked_words (dif now (one k)) ↔ leaA U e (dif now (one k))) := fun h1 h2 => mk _ (sub_t sub_dif sn) fun i hi z => by
      rw [bt_rm (by omega) hi, en i hi z]
      have : i ≠ k := fun v => by rw [v, h2] at z; cases z
      simp [this]
    unfold lmP ldP
    constructor
    · rintro ⟨h1, h2⟩
      obtain ⟨b1, b2⟩ := e0 h1
      have h2 : inSI g o_marked_words (now &&& ((one k &&& now &&& nI b) ^^^ -1)) := h2
      rw [ee k hk b1 b2] at h2
      have b3 := ((eq1 k hk).mpr ⟨b1, b2⟩).2
      exact ⟨b1, b3, (mk2 b1 b3).mp h2⟩
    · rintro ⟨b1, b3, h2⟩
      have b2 := ((eq1 k hk).mp ⟨b1, b3⟩).2
      have e1 := ee k hk b1 b2
      refine ⟨?_, ?_⟩
      · show ¬ (one k &&& now &&& nI b) = 0
        rw [e1]; exact one_ne (by omega)
      · show inSI g o_marked_words (now &&& ((one k &&& now &&& nI b) ^^^ -1))
        rw [e1]; exact (mk2 b1 b3).mpr h2
  have fs : ∀ now, sub now T → sub e now → fst (lmP g now (nI b)) 14 0 = fst (ldP U e now) 14 0 := fun now sn en => by
    by_cases y : fst (ldP U e now) 14 0 = -1
    · rw [y]; exact fst_no 14 0 fun i _ hi x => fst_none 14 0 (by decide) y i (by omega) (by omega) ((lm now sn en i (by omega)).mp x)
    · obtain ⟨j, k1, k2, k3, k4, k5⟩ := fst_some 14 0 y
      rw [k3]; exact fst_is 14 0 k1 k2 ((lm now sn en j (by omega)).mpr k4) fun i h1 h2 x => k5 i h1 h2 ((lm now sn en i (by omega)).mp x)
  have hz := sz_le (nI b)
  intro k
  induction k with
  | zero =>
    have base : (foR g (nI b) T 0).1 = ordN U e T 0 ∧ hI (foR g (nI b) T 0).2 o_thieves 9 = nI 0 ∧ ∀ j, j < 0 → hI (foR g (nI b) T 0).2 o_th_steps j = ordS U e T j := ⟨rfl, e9, fun j hj => absurd hj (Nat.not_lt_zero _)⟩
    refine ⟨fun _ => base, fun z => ?_⟩
    have z0 : sz (nI b) = 0 := by omega
    rw [z0] at fin ⊢
    exact ⟨base.1.trans fin, base.2⟩
  | succ k ih =>
    have lowp : k + 1 ≤ sz (nI b) → (foR g (nI b) T (k + 1)).1 = ordN U e T (k + 1) ∧ hI (foR g (nI b) T (k + 1)).2 o_thieves 9 = nI (k + 1) ∧ ∀ j, j < k + 1 → hI (foR g (nI b) T (k + 1)).2 o_th_steps j = ordS U e T j := fun hk => by
      obtain ⟨i1, i2, i3⟩ := ih.1 (by omega)
      obtain ⟨o1, o2, o3, o4⟩ := ord_inv (U := U) l14 ld se k (by rw [← hb]; omega)
      obtain ⟨j, hj, ej, pj, -⟩ := ord_ex (U := U) l14 ld se (k := k) (by rw [← hb]; omega)
      have ef : fst (lmP g (foR g (nI b) T k).1 (nI b)) 14 0 = ordS U e T k := by rw [i1, fs _ o3 o2]; rfl
      have ne : ¬ fst (lmP g (foR g (nI b) T k).1 (nI b)) 14 0 = -1 := by rw [ef, ej]; exact nI_m1 (by omega)
      rw [foR, if_neg ne, ef]
      refine ⟨?_, rd_same, fun i hi => ?_⟩
      · show (foR g (nI b) T k).1 &&& (((1 : Int32) <<< (ordS U e T k &&& 31)) ^^^ -1) = dif (ordN U e T k) (one (ordS U e T k).toNatClampNeg)
        rw [i1, ej, nI_clamp (by omega)]
      · show hI (wI (wI _ o_th_steps k (ordS U e T k)) o_thieves 9 (nI (k + 1))) o_th_steps i = _
        rw [rd_o (by decide)]
        by_cases ei : i = k
        · subst ei; exact rd_same
        · rw [rd_k ei]; exact i3 i (by omega)
    refine ⟨lowp, fun z => ?_⟩
    by_cases eq : k + 1 = sz (nI b)
    · have := lowp (by omega)
      rw [eq] at this
      rw [← eq] at fin this ⊢
      rw [eq] at this ⊢
      rw [eq] at fin
      exact ⟨this.1.trans fin, this.2.1, this.2.2⟩
    · obtain ⟨i1, i2, i3⟩ := ih.2 (by omega)
      have ef : fst (lmP g (foR g (nI b) T k).1 (nI b)) 14 0 = -1 := by
        rw [i1, fs e se sub_r]
        exact fst_no 14 0 fun i _ _ x => by have h1 := x.1; rw [x.2.1] at h1; cases h1
      rw [foR, if_pos ef]
      exact ⟨i1, i2, i3⟩
end T96
