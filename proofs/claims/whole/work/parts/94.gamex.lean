/-! felling and the game: the class's answers are the model's -/
section T94
variable {cx : Cx} {d a c : Nat} {h g f : Hp} {w : Wd} {n s t : Nat}
theorem dif_and {T x : Int32} : dif T (x &&& T) = dif T x := b_ext fun i hi => by
  rw [bt_dif hi, bt_dif hi, b_and]
  cases bt T i <;> cases bt x i <;> rfl
/-- taken of the whole or of the core: it comes down alike -/
theorem fall_core {U : Int32 → Int32} (hU : Uok U) (hm : Umo U) {T x : Int32} : fallA U (dif T x) = 0 ↔ fallA U (dif (fallA U T) x) = 0 := by
  rw [fall_0 hU hm, fall_0 hU hm]
  have cT : sub (fallA U T) T := it_sub 22 T
  constructor
  · intro q y sy
    exact q y fun k hk b => by
      have := sy k hk b
      rw [bt_dif hk] at this ⊢
      simp at this
      rw [cT k hk this.1, this.2]; rfl
  · intro q y sy l
    have s1 : sub y T := sub_t sy sub_dif
    have s2 := fall_sub_core hm s1 l
    refine q y (fun k hk b => ?_) l
    have := sy k hk b
    rw [bt_dif hk] at this ⊢
    simp at this
    rw [s2 k hk b, this.2]; rfl
theorem fe_fewest {m : Nat} (q : wX w n s t h) (em : fallA (aU w (lawOf w)) (w 159) = nI m) (hm : m < 2 ^ n) (fi : fI (fun x => ∃ i, i < 2 ^ pcn 32 m ∧ fallA (aU w (lawOf w)) (nI (pd 32 m i)) = 0 ∧ x = dif (nI m) (nI (pd 32 m i))) (fun z => cnt (fun i => fallA (aU w (lawOf w)) (nI (pd 32 m i)) = 0 ∧ sz (dif (nI m) (nI (pd 32 m i))) = z) (2 ^ pcn 32 m)) g o_fellingFound) : feX (fewF (flP w (aU w (lawOf w))) (2 ^ n)) o_fellingFound g := by
  obtain ⟨-, lT, hn⟩ := wX_T q
  have h14 := pow14 hn
  have m14 : m < 2 ^ 14 := by omega
  have hU : Uok (aU w (lawOf w)) := Uok_aU
  have mo := Umo_aU (L := lawOf w) q.2.2.1
  generalize aU w (lawOf w) = U at *
  have cT : sub (nI m) (w 159) := by rw [← em]; exact it_sub 22 _
  have l22 : low 22 (nI m) := nI_low (n := 22) (by omega)
  -- sets of the core
  have pc : ∀ x, (∃ i, i < 2 ^ pcn 32 m ∧ fallA U (nI (pd 32 m i)) = 0 ∧ x = dif (nI m) (nI (pd 32 m i))) ↔ sub x (nI m) ∧ fallA U (dif (nI m) x) = 0 := fun x => by
    constructor
    · rintro ⟨i, hi, z, rfl⟩
      refine ⟨sub_dif, ?_⟩
      rw [dif_dif (pd_sub m14).2]; exact z
    · rintro ⟨sx, z⟩
      obtain ⟨j, hj, ej⟩ := low_nI (by omega) (low_sub (sub_dif (t := x)) (nI_low hm))
      have sj : sub (nI j) (nI m) := by rw [← ej]; exact sub_dif
      obtain ⟨g1, g2⟩ := pd_of (by omega) m14 sj
      exact ⟨pe 32 m j, g1, by rw [g2, ← ej]; exact z, by rw [g2, ← ej, dif_dif sx]⟩
  have pm : ∀ k, k < 2 ^ n → (flP w U k ↔ sub (nI k) (w 159) ∧ fallA U (dif (nI m) (nI k)) = 0) := fun k hk => by
    unfold flP
    rw [part_iff hn lT (by omega), fall_core hU mo, em]
  have pm2 : ∀ x, (∃ k, k < 2 ^ n ∧ flP w U k ∧ x = nI k) ↔ sub x (w 159) ∧ fallA U (dif (nI m) x) = 0 := fun x => by
    constructor
    · rintro ⟨k, hk, p, rfl⟩; exact (pm k hk).mp p
    · rintro ⟨sx, z⟩
      obtain ⟨k, hk, ek⟩ := low_nI (by omega) (low_sub sx lT)
      exact ⟨k, hk, (pm k hk).mpr (by rw [← ek]; exact ⟨sx, z⟩), ek⟩
  rcases fi with ⟨-, -, -, no⟩ | ⟨b, b1, bb, b3, b4⟩
  · exact absurd ((pc (nI m)).mpr ⟨sub_r, by rw [dif_self]; exact sub_anti (it_sub 22 0) sub_0⟩) (no _)
  · have bc := few_cg bb pc
    -- the fewest of the core are the fewest of all
    have small : ∀ x, sub x (w 159) → fallA U (dif (nI m) x) = 0 → (sub x (nI m) ∨ sz b < sz x) := fun x sx z => by
      by_cases y : sub x (nI m)
      · exact Or.inl y
      · right
        have sx' : sub (x &&& nI m) (nI m) := sub_and2
        have z' : fallA U (dif (nI m) (x &&& nI m)) = 0 := by rw [dif_and]; exact z
        have lt : sz (x &&& nI m) < sz x := by
          refine Nat.lt_of_le_of_ne (sz_sub sub_and1) fun e => y ?_
          have := sz_sub_eq (low_le (by omega) (low_sub sx lT)) (sub_and1 (s := x) (t := nI m)) e
          rw [← this]; exact sub_and2
        by_cases eb : x &&& nI m = b
        · rw [← eb]; exact lt
        · have := bc.2 _ ⟨sx', z'⟩ eb
          unfold fwr at this; omega
    have bm : isFew (fun x => ∃ k, k < 2 ^ n ∧ flP w U k ∧ x = nI k) b := by
      refine ⟨(pm2 b).mpr ⟨sub_t bc.1.1 cT, bc.1.2⟩, fun x px ne => ?_⟩
      obtain ⟨sx, z⟩ := (pm2 x).mp px
      rcases small x sx z with y | y
      · exact bc.2 x ⟨y, z⟩ ne
      · exact Or.inl y
    refine feX_of h14 (Or.inr ⟨b, b1, bm, b3, ?_⟩)
    rw [b4]
    congr 1
    refine cnt_bij (fun i => (dif (nI m) (nI (pd 32 m i))).toNatClampNeg) (fun k => pe 32 m (dif (nI m) (nI k)).toNatClampNeg) (fun i hi l => ?_) (fun k hk p => ?_)
    · obtain ⟨k, hk, ek⟩ := low_nI (by omega) (low_sub (sub_dif (t := nI (pd 32 m i))) (nI_low hm))
      have dd := dif_dif (pd_sub (i := i) m14).2
      rw [ek] at dd l ⊢
      rw [nI_clamp (by omega)]
      refine ⟨hk, ⟨(pm k hk).mpr ⟨by rw [← ek]; exact sub_t sub_dif cT, by rw [dd]; exact l.1⟩, l.2⟩, ?_⟩
      rw [dd, nI_clamp (by have := (pd_sub (i := i) m14).1; omega), pe_pd (Nat.lt_of_lt_of_le m14 (by decide)) hi]
    · obtain ⟨p1, p2⟩ := p
      obtain ⟨p3, p4⟩ := (pm k hk).mp p1
      have sk : sub (nI k) (nI m) := (small _ p3 p4).resolve_right (by omega)
      obtain ⟨j, hj, ej⟩ := low_nI (by omega) (low_sub (sub_dif (t := nI k)) (nI_low hm))
      have sj : sub (nI j) (nI m) := by rw [← ej]; exact sub_dif
      obtain ⟨g1, g2⟩ := pd_of (by omega) m14 sj
      rw [ej, nI_clamp (by omega)]
      have dd := dif_dif sk
      rw [ej] at dd
      rw [ej] at p4
      exact ⟨g1, ⟨by rw [g2]; exact p4, by rw [g2, dd]; exact p2⟩, by rw [g2, dd, nI_clamp (by omega)]⟩
theorem x_felling (hd : 5 ≤ d) {sp : Nat} (q : wX w n s t h) (th : thOk w (aU w (lawOf w)) n sp h) : M cx jX9_felling d a [.ref o_thieves] h (fun r g => r = some (.ref o_fellingFound) ∧ keepTh h g ∧ thOk w (aU w (lawOf w)) n sp g ∧ feX (fewF (flP w (aU w (lawOf w))) (2 ^ n)) o_fellingFound g) := by
  obtain ⟨m, hm, e1, e2, hm2⟩ := wX_core q
  obtain ⟨eT, lT, hn⟩ := wX_T q
  have co : coreOk h := ⟨⟨m, hm, e1⟩, fun z => by rw [(th.1 z).1, e1, e2]⟩
  refine M_mono (m_felling hd co) ?_
  rintro r g ⟨rfl, rfl⟩
  unfold feA
  by_cases z : hI h o_thieves 13 &&& 8 = 0
  · rw [if_pos z]
    obtain ⟨fw, f1, f2, f3, f4, f5⟩ := fl_knw (K := 8) (by decide) q th.1
    unfold feD
    rw [f1.1, e2, (bcS_pow hm).2]
    generalize eg : flA (knw h 8) = f at *
    generalize eg0 : clrJ (clrF f o_fellingFound) o_marked_words 256 = g0
    have c0 : ∀ o k, hI g0 o k = hI (clrF f o_fellingFound) o k := fun o k => by rw [← eg0]; rfl
    have lw : ∀ j, j < 16384 → (inS g0 o_lawful_words j ↔ lwf (aU w (lawOf w)) (nI j) ∧ sub (nI j) (nI m)) := fun j hj => by
      rw [← eg0, inS_clr, ← e2]
      exact ⟨fun y => (f1.2 j hj).mp y.2, fun y => ⟨fun x => absurd x.1 (by decide), (f1.2 j hj).mpr y⟩⟩
    have mk : ∀ j, j < 16384 → ¬ inS g0 o_marked_words j := fun j hj => by rw [← eg0, inS_clr]; exact fun y => y.1 ⟨rfl, hj⟩
    obtain ⟨i1, i2, i3⟩ := fe_inv (U := aU w (lawOf w)) Uok_aU (Umo_aU q.2.2.1) hm lw mk (by rw [c0]; unfold clrF; rw [rd_k (by decide), rd_k (by decide), rd_same]) (by rw [c0]; unfold clrF; rw [rd_k (by decide), rd_same]) (by rw [c0]; unfold clrF; rw [rd_same]) _ (Nat.le_refl _)
    have mx := fe_fewest q e2 hm2 i3
    have cI : ∀ o k, o ≠ 98 → hI (feH (nI m) g0 (2 ^ pcn 32 m)) o k = hI f o k := fun o k no => by rw [feH_I no, c0, clrF_I no]
    have cJ : (feH (nI m) g0 (2 ^ pcn 32 m)).2.2 = f.2.2 := by rw [feH_2, ← eg0]; rfl
    have lX : lwX (aU w (lawOf w)) (w 159) (feH (nI m) g0 (2 ^ pcn 32 m)) := ⟨by rw [cI _ _ (by decide)]; exact f1.1, fun j hj => by rw [i1 j hj, lw j hj, e2]⟩
    have jj : ∀ o k, o ≠ 95 → hJ (feH (nI m) g0 (2 ^ pcn 32 m)) o k = hJ f o k := fun o k no => by
      have st : ∀ i, hJ (feH (nI m) g0 i) o k = hJ g0 o k := by
        intro i
        induction i with
        | zero => rfl
        | succ i ih =>
          rw [feH_s]; unfold feB; split
          · unfold addS; rw [hJ_w, if_neg (fun y => no y.1)]; exact ih
          · rw [show hJ (offF_fellingFound _ _) o k = hJ (feH (nI m) g0 i) o k from congrFun (congrFun (congrArg (fun z => z.1) offF_fell_2) o) k]; exact ih
      rw [st, ← eg0]
      show (if o = o_marked_words ∧ k < 256 then 0 else hJ f o k) = _
      rw [if_neg (fun y => no y.1)]
    generalize feH (nI m) g0 (2 ^ pcn 32 m) = g at *
    refine ⟨rfl, keepTh_t f4 ⟨fun o k no => cI o k (by omega), cJ, fun o k _ n2 => jj o k n2⟩, th_of (K := 8 ||| 1) th (by rw [cI _ _ (by decide), f3]) (fun _ => lX) (Or.inl ⟨by decide, fun k => by rw [cI _ _ (by decide), f5 _ _ (by decide)]⟩) (Or.inl ⟨by decide, fun k => by rw [cI _ _ (by decide), f5 _ _ (by decide)], by rw [cI _ _ (by decide), f2 9 (by decide) (by decide)], fun k => by rw [cI _ _ (by decide), f5 _ _ (by decide)]⟩) (Or.inr mx) (Or.inl ⟨by decide, fun k => by rw [cI _ _ (by decide), f5 _ _ (by decide)]⟩) (Or.inl ⟨by decide, by rw [cI _ _ (by decide), f2 10 (by decide) (by decide)], by rw [cI _ _ (by decide), f2 11 (by decide) (by decide)]⟩), mx⟩
  · rw [if_neg z]
    have mx := feX_c (g := knw h 8) (th.2.2.2.1 z) (fun k => knw_o (by decide))
    refine ⟨rfl, ⟨fun o k no => knw_o (by omega), rfl, fun _ _ _ _ => rfl⟩, th_of (K := 8) th knw_13 (lw_knw (by decide) th.1) (Or.inl ⟨by decide, fun k => knw_o (by decide)⟩) (Or.inl ⟨by decide, fun k => knw_o (by decide), knw_k (by decide), fun k => knw_o (by decide)⟩) (Or.inr mx) (Or.inl ⟨by decide, fun k => knw_o (by decide)⟩) (Or.inl ⟨by decide, knw_k (by decide), knw_k (by decide)⟩), mx⟩
/-! the game -/
theorem wnP_iff {U : Int32 → Int32} {x : Int32} {k : Nat} (hk : k < 14) (h1 : bt x k = true → (inSI g o_lawful_words (dif x (one k)) ↔ lwf U (dif x (one k)))) (h2 : bt x k = true → lwf U (dif x (one k)) → (inSI g o_marked_words (dif x (one k)) ↔ winA U (dif x (one k)))) : wnP g x k ↔ mayW U x k := by
  unfold wnP mayW mayT
  rw [show (¬ ((1 : Int32) <<< (nI k &&& 31)) &&& x = 0) ↔ bt x k = true from one_and (by omega)]
  constructor
  · rintro ⟨b, z1, z2⟩
    have e : one k &&& x = one k := rm_one (by omega) b
    have z1 : inSI g o_lawful_words (x &&& ((one k &&& x) ^^^ -1)) := z1
    have z2 : ¬ inSI g o_marked_words (x &&& ((one k &&& x) ^^^ -1)) := z2
    rw [e] at z1 z2
    have l := (h1 b).mp z1
    exact ⟨⟨b, l⟩, fun y => z2 ((h2 b l).mpr y)⟩
  · rintro ⟨⟨b, l⟩, z⟩
    have e : one k &&& x = one k := rm_one (by omega) b
    refine ⟨b, ?_, ?_⟩
    · show inSI g o_lawful_words (x &&& ((one k &&& x) ^^^ -1))
      rw [e]; exact (h1 b).mpr l
    · show ¬ inSI g o_marked_words (x &&& ((one k &&& x) ^^^ -1))
      rw [e]; exact fun y => z ((h2 b l).mp y)
theorem ga_inv {U : Int32 → Int32} {m : Nat} (hm : m < 2 ^ 14) (lw : ∀ j, j < 16384 → (inS g o_lawful_words j ↔ lwf U (nI j) ∧ sub (nI j) (nI m))) (mk : ∀ j, j < 16384 → ¬ inS g o_marked_words j) :
    ∀ k, k ≤ 2 ^ pcn 32 m → (∀ j, j < 16384 → (inS (gaH (nI m) g k) o_lawful_words j ↔ inS g o_lawful_words j)) ∧ (∀ j, j < 16384 → (inS (gaH (nI m) g k) o_marked_words j ↔ ∃ i, i < k ∧ j = pd 32 m i ∧ winA U (nI j))) := by
  intro k
  induction k with
  | zero => intro _; exact ⟨fun _ _ => Iff.rfl, fun j hj => ⟨fun z => absurd z (mk j hj), fun ⟨i, hi, _⟩ => absurd hi (Nat.not_lt_zero _)⟩⟩
  | succ k ih =>
    intro hk
    obtain ⟨i1, i2⟩ := ih (by omega)
    have es : lpS (nxU (nI m)) 0 k = nI (pd 32 m k) := lpU_pd (Nat.lt_of_lt_of_le hm (by decide)) k
    obtain ⟨p1, p2⟩ := pd_sub (i := k) hm
    rw [gaH_s, es]
    unfold gaB
    have wn : ∀ j, j < 14 → (wnP (gaH (nI m) g k) (nI (pd 32 m k)) j ↔ mayW U (nI (pd 32 m k)) j) := fun j hj => by
      refine wnP_iff hj (fun b => ?_) (fun b _ => ?_)
      · obtain ⟨i, hi, ei, si⟩ := rm_pd hm (by omega) (by omega) b
        have q1 := (pd_sub (i := i) hm).1
        rw [ei, inSI_nI q1, i1 _ q1, lw _ q1]; exact ⟨fun z => z.1, fun z => ⟨z, si⟩⟩
      · obtain ⟨i, hi, ei, si⟩ := rm_pd hm (by omega) (by omega) b
        have q1 := (pd_sub (i := i) hm).1
        rw [ei, inSI_nI q1, i2 _ q1]
        exact ⟨fun ⟨_, _, _, z⟩ => z, fun z => ⟨i, hi, rfl, z⟩⟩
    have key : fst (wnP (gaH (nI m) g k) (nI (pd 32 m k))) 14 0 = -1 ↔ ¬ winA U (nI (pd 32 m k)) := by
      rw [win_eq]
      constructor
      · rintro z ⟨j, hj, b, l, y⟩
        exact fst_none 14 0 (by decide) z j (by omega) (by omega) ((wn j hj).mpr ⟨⟨b, l⟩, y⟩)
      · intro z
        refine fst_no 14 0 fun j _ hj y => z ?_
        obtain ⟨⟨b, l⟩, y⟩ := (wn j (by omega)).mp y
        exact ⟨j, by omega, b, l, y⟩
    have hc : ∀ j, (∃ i, i < k + 1 ∧ j = pd 32 m i ∧ winA U (nI j)) ↔ (∃ i, i < k ∧ j = pd 32 m i ∧ winA U (nI j)) ∨ (j = pd 32 m k ∧ winA U (nI j)) := fun j => by
      constructor
      · rintro ⟨i, hi, e, z⟩
        by_cases ei : i = k
        · subst ei; exact Or.inr ⟨e, z⟩
        · exact Or.inl ⟨i, by omega, e, z⟩
      · rintro (⟨i, hi, e, z⟩ | ⟨e, z⟩)
        · exact ⟨i, by omega, e, z⟩
        · exact ⟨k, by omega, e, z⟩
    by_cases y : winA U (nI (pd 32 m k))
    · rw [if_neg (fun z => key.mp z y)]
      refine ⟨fun j hj => ?_, fun j hj => ?_⟩
      · rw [inS_add, i1 j hj]; exact ⟨fun z => z.elim (fun x => absurd x.1 (by decide)) id, Or.inr⟩
      · rw [inS_add, nI_clamp (by omega), i2 j hj, hc j]
        constructor
        · rintro (⟨-, z⟩ | z)
          · exact Or.inr ⟨z, by rw [z]; exact y⟩
          · exact Or.inl z
        · rintro (z | z)
          · exact Or.inr z
          · exact Or.inl ⟨rfl, z.1⟩
    · rw [if_pos (key.mpr y)]
      refine ⟨i1, fun j hj => ?_⟩
      rw [i2 j hj, hc j]
      exact ⟨Or.inl, fun z => z.elim id fun x => absurd (by rw [← x.1]; exact x.2) y⟩
end T94
