/-! the game's end; one by one: the sets that can be come to -/
section T95
variable {cx : Cx} {d a c : Nat} {h g f : Hp} {w : Wd} {n s t : Nat}
theorem x_play (hd : 5 ≤ d) {sp : Nat} (q : wX w n s t h) (th : thOk w (aU w (lawOf w)) n sp h) : M cx jX9_play d a [.ref o_thieves] h (fun r g => r = none ∧ keepTh h g ∧ thOk w (aU w (lawOf w)) n sp g ∧ gaX (aU w (lawOf w)) (w 159) n g) := by
  obtain ⟨m, hm, e1, e2, hm2⟩ := wX_core q
  obtain ⟨eT, lT, hn⟩ := wX_T q
  have h14 := pow14 hn
  have co : coreOk h := ⟨⟨m, hm, e1⟩, fun z => by rw [(th.1 z).1, e1, e2]⟩
  refine M_mono (m_play hd co) ?_
  rintro r g ⟨rfl, rfl⟩
  unfold gaA
  by_cases z : hI h o_thieves 13 &&& 32 = 0
  · rw [if_pos z]
    obtain ⟨fw, f1, f2, f3, f4, f5⟩ := fl_knw (K := 32) (by decide) q th.1
    have mo := Umo_aU (L := lawOf w) q.2.2.1
    unfold gaD
    have eG : gaG h = gaH (nI m) (clrJ (flA (knw h 32)) o_marked_words 256) (2 ^ pcn 32 m) := by unfold gaG; rw [f1.1, e2, (bcS_pow hm).2]
    generalize eg : flA (knw h 32) = f at *
    generalize eg0 : clrJ f o_marked_words 256 = g0 at *
    have lw : ∀ j, j < 16384 → (inS g0 o_lawful_words j ↔ lwf (aU w (lawOf w)) (nI j) ∧ sub (nI j) (nI m)) := fun j hj => by
      rw [← eg0, inS_clr, ← e2]
      exact ⟨fun y => (f1.2 j hj).mp y.2, fun y => ⟨fun x => absurd x.1 (by decide), (f1.2 j hj).mpr y⟩⟩
    have mk : ∀ j, j < 16384 → ¬ inS g0 o_marked_words j := fun j hj => by rw [← eg0, inS_clr]; exact fun y => y.1 ⟨rfl, hj⟩
    obtain ⟨i1, i2⟩ := ga_inv (U := aU w (lawOf w)) hm lw mk _ (Nat.le_refl _)
    rw [← eG] at i1 i2
    have cI : ∀ o k, hI (gaG h) o k = hI f o k := fun o k => by rw [eG, gaH_I, ← eg0]; rfl
    have cJ : (gaG h).2.2 = f.2.2 := by rw [eG, gaH_2, ← eg0]; rfl
    have jj : ∀ o k, o ≠ 95 → hJ (gaG h) o k = hJ f o k := fun o k no => by
      have st : ∀ i, hJ (gaH (nI m) g0 i) o k = hJ g0 o k := by
        intro i
        induction i with
        | zero => rfl
        | succ i ih =>
          rw [gaH_s]; unfold gaB; split
          · exact ih
          · unfold addS; rw [hJ_w, if_neg (fun y => no y.1)]; exact ih
      rw [eG, st, ← eg0]
      show (if o = o_marked_words ∧ k < 256 then 0 else hJ f o k) = _
      rw [if_neg (fun y => no y.1)]
    have gT : hI (gaG h) o_wall 5 = w 159 := by rw [cI, f5 _ _ (by decide), eT]
    -- a stone less of the whole wall
    have less : ∀ k, k < 14 → lwf (aU w (lawOf w)) (dif (w 159) (one k)) → ∃ j, j < 16384 ∧ dif (w 159) (one k) = nI j ∧ sub (nI j) (nI m) := fun k hk l => by
      obtain ⟨j, hj, ej⟩ := low_nI (by omega) (low_sub (sub_dif (t := one k)) lT)
      refine ⟨j, by omega, ej, ?_⟩
      rw [← ej, ← e2]; exact fall_sub_core mo sub_dif l
    have law : ∀ k, k < 14 → (inSI (gaG h) o_lawful_words (dif (w 159) (one k)) ↔ lwf (aU w (lawOf w)) (dif (w 159) (one k))) := fun k hk => by
      obtain ⟨j, hj, ej⟩ := low_nI (by omega) (low_sub (sub_dif (t := one k)) lT)
      rw [ej, inSI_nI (by omega), i1 _ (by omega), lw _ (by omega)]
      refine ⟨fun y => y.1, fun y => ⟨y, ?_⟩⟩
      obtain ⟨j2, hj2, ej2, sj2⟩ := less k hk (by rw [ej]; exact y)
      rw [← ej, ej2]; exact sj2
    have wn : ∀ k, k < 14 → (wnP (gaG h) (w 159) k ↔ mayW (aU w (lawOf w)) (w 159) k) := fun k hk => by
      refine wnP_iff hk (fun _ => law k hk) (fun b l => ?_)
      obtain ⟨j, hj, ej, sj⟩ := less k hk l
      obtain ⟨g1, g2⟩ := pd_of hj hm sj
      rw [ej, inSI_nI hj, i2 _ hj]
      exact ⟨fun ⟨_, _, _, y⟩ => y, fun y => ⟨_, g1, g2.symm, y⟩⟩
    have w1 : fst (wnP (gaG h) (w 159)) 14 0 = fst (mayW (aU w (lawOf w)) (w 159)) n 0 := by
      have e : fst (wnP (gaG h) (w 159)) 14 0 = fst (mayW (aU w (lawOf w)) (w 159)) 14 0 := by
        by_cases y : fst (mayW (aU w (lawOf w)) (w 159)) 14 0 = -1
        · rw [y]; exact fst_no 14 0 fun i _ hi x => fst_none 14 0 (by decide) y i (by omega) (by omega) ((wn i (by omega)).mp x)
        · obtain ⟨j, k1, k2, k3, k4, k5⟩ := fst_some 14 0 y
          rw [k3]; exact fst_is 14 0 k1 k2 ((wn j (by omega)).mpr k4) fun i h1 h2 x => k5 i h1 h2 ((wn i (by omega)).mp x)
      rw [e]; exact fst_cut hn (by decide) fun k p hk => lT k (by omega) p.1.1
    have w2 : cnt (tkP (gaG h)) 14 = cnt (mayT (aU w (lawOf w)) (w 159)) n := by
      have e : cnt (tkP (gaG h)) 14 = cnt (mayT (aU w (lawOf w)) (w 159)) 14 := cnt_cg 14 fun k hk => by
        unfold tkP mayT
        rw [gT, show (¬ ((1 : Int32) <<< (nI k &&& 31)) &&& w 159 = 0) ↔ bt (w 159) k = true from one_and (by omega)]
        refine and_congr_right fun b => ?_
        show inSI (gaG h) o_lawful_words (w 159 &&& ((one k &&& w 159) ^^^ -1)) ↔ _
        rw [rm_one (by omega) b]; exact law k hk
      rw [e]
      have := cnt_cut (P := mayT (aU w (lawOf w)) (w 159)) (n := n) (14 - n) fun k p hk => lT k (by omega) p.1
      rw [show n + (14 - n) = 14 by omega] at this
      exact this
    rw [eT, w1, w2]
    generalize gaG h = G at *
    have lX : lwX (aU w (lawOf w)) (w 159) G := ⟨by rw [cI]; exact f1.1, fun j hj => by rw [i1 j hj, lw j hj, e2]⟩
    have cI2 : ∀ o k, ¬ (o = 91 ∧ (k = 10 ∨ k = 11)) → hI (wI (wI G o_thieves 10 (fst (mayW (aU w (lawOf w)) (w 159)) n 0)) o_thieves 11 (nI (cnt (mayT (aU w (lawOf w)) (w 159)) n))) o k = hI f o k := fun o k no => by
      rw [rd_any, if_neg (fun y => no ⟨y.1, Or.inr y.2⟩), rd_any, if_neg (fun y => no ⟨y.1, Or.inl y.2⟩), cI]
    have mx : gaX (aU w (lawOf w)) (w 159) n (wI (wI G o_thieves 10 (fst (mayW (aU w (lawOf w)) (w 159)) n 0)) o_thieves 11 (nI (cnt (mayT (aU w (lawOf w)) (w 159)) n))) := ⟨by rw [rd_k (by decide), rd_same], rd_same⟩
    refine ⟨rfl, keepTh_t f4 ⟨fun o k no => cI2 o k (by omega), cJ, fun o k _ n2 => jj o k n2⟩, th_of (K := 32 ||| 1) th (by rw [cI2 _ _ (by decide), f3]) (fun _ => lwX_c lX (by rw [rd_k (by decide), rd_k (by decide)]) (fun _ => rfl)) (Or.inl ⟨by decide, fun k => by rw [cI2 _ _ (fun y => absurd y.1 (by decide)), f5 _ _ (by decide)]⟩) (Or.inl ⟨by decide, fun k => by rw [cI2 _ _ (fun y => absurd y.1 (by decide)), f5 _ _ (by decide)], by rw [cI2 _ _ (by decide), f2 9 (by decide) (by decide)], fun k => by rw [cI2 _ _ (fun y => absurd y.1 (by decide)), f5 _ _ (by decide)]⟩) (Or.inl ⟨by decide, fun k => by rw [cI2 _ _ (fun y => absurd y.1 (by decide)), f5 _ _ (by decide)]⟩) (Or.inl ⟨by decide, fun k => by rw [cI2 _ _ (fun y => absurd y.1 (by decide)), f5 _ _ (by decide)]⟩) (Or.inr mx), mx⟩
  · rw [if_neg z]
    have mx := gaX_c (g := knw h 32) (th.2.2.2.2.2 z) (knw_k (by decide)) (knw_k (by decide))
    refine ⟨rfl, ⟨fun o k no => knw_o (by omega), rfl, fun _ _ _ _ => rfl⟩, th_of (K := 32) th knw_13 (lw_knw (by decide) th.1) (Or.inl ⟨by decide, fun k => knw_o (by decide)⟩) (Or.inl ⟨by decide, fun k => knw_o (by decide), knw_k (by decide), fun k => knw_o (by decide)⟩) (Or.inl ⟨by decide, fun k => knw_o (by decide)⟩) (Or.inl ⟨by decide, fun k => knw_o (by decide)⟩) (Or.inr mx), mx⟩
/-! one by one -/
/-- from the whole down -/
def dn (m i : Nat) : Nat := pd 32 m (2 ^ pcn 32 m - 1 - i)
theorem dn_sub {m i : Nat} (hm : m < 2 ^ 14) : dn m i < 2 ^ 14 ∧ sub (nI (dn m i)) (nI m) := pd_sub hm
theorem ad_dn {m k j : Nat} (hm : m < 2 ^ 14) (hk : k < 2 ^ pcn 32 m) (hj : j < 14) (b : bt (nI m) j = true) (nb : bt (nI (dn m k)) j = false) : ∃ i, i < k ∧ nI (dn m k) ||| one j = nI (dn m i) := by
  obtain ⟨p1, p2⟩ := dn_sub (i := k) hm
  obtain ⟨x, hx, hx2, ex⟩ := ad_nI (n := 14) (Nat.le_refl _) p1 hj nb
  have sx : sub (nI x) (nI m) := by
    rw [← ex]
    intro i hi z
    rw [bt_ad (by omega) hi] at z
    simp at z
    rcases z with z | z
    · exact p2 i hi z
    · rw [z]; exact b
  obtain ⟨g1, g2⟩ := pd_of hx2 hm sx
  have lt := pe_mono (w := 32) (c := m) (s := dn m k) (t := x) (by omega) (by omega) ((sub_nat p1 hm).mp p2) ((sub_nat hx2 hm).mp sx) hx
  have e2 : pe 32 m (dn m k) = 2 ^ pcn 32 m - 1 - k := pe_pd (Nat.lt_of_lt_of_le hm (by decide)) (by omega)
  refine ⟨2 ^ pcn 32 m - 1 - pe 32 m x, by omega, ?_⟩
  rw [ex]; congr 1
  unfold dn
  rw [show 2 ^ pcn 32 m - 1 - (2 ^ pcn 32 m - 1 - pe 32 m x) = pe 32 m x by omega, g2]
theorem hw1_iff {x T : Int32} {Mk : Int32 → Prop} (hM : ∀ j, j < 14 → bt T j = true → bt x j = false → (inSI g o_marked_words (x ||| one j) ↔ Mk (x ||| one j))) : hw1_marked g x T 14 ↔ ∃ j, j < 14 ∧ bt T j = true ∧ bt x j = false ∧ Mk (x ||| one j) := by
  have e : ∀ j, j < 14 → bt T j = true → bt x j = false → one j &&& T &&& (x ^^^ -1) = one j := fun j hj b nb => by
    rw [rm_one (by omega) b]
    exact rm_one (by omega) (by rw [b_not x (by omega), nb]; rfl)
  have e0 : ∀ j, j < 14 → ¬ (one j &&& T &&& (x ^^^ -1)) = 0 → bt T j = true ∧ bt x j = false := fun j hj z => by
    cases b : bt T j
    · rw [rm_no (by omega) b] at z
      exact absurd (by apply b_ext; intro i hi; rw [b_and, b_0]; rfl) z
    · rw [rm_one (by omega) b] at z
      cases nb : bt x j
      · exact ⟨rfl, rfl⟩
      · exact absurd (rm_no (by omega) (by rw [b_not x (by omega), nb]; rfl)) z
  unfold hw1_marked
  constructor
  · rintro ⟨j, hj, h1, h2⟩
    obtain ⟨b, nb⟩ := e0 j hj h1
    have h2 : inSI g o_marked_words (x ||| (one j &&& T &&& (x ^^^ -1))) := h2
    rw [e j hj b nb] at h2
    exact ⟨j, hj, b, nb, (hM j hj b nb).mp h2⟩
  · rintro ⟨j, hj, b, nb, h2⟩
    have ee := e j hj b nb
    refine ⟨j, hj, ?_, ?_⟩
    · show ¬ (one j &&& T &&& (x ^^^ -1)) = 0
      rw [ee]; exact one_ne (by omega)
    · show inSI g o_marked_words (x ||| (one j &&& T &&& (x ^^^ -1)))
      rw [ee]; exact (hM j hj b nb).mpr h2
theorem ss_inv {U : Int32 → Int32} {W : Int32 → Int32} {m : Nat} (hm : m < 2 ^ 14) (lT : lwf U (nI m)) (lw : ∀ j, j < 16384 → sub (nI j) (nI m) → (inS g o_lawful_words j ↔ lwf U (nI j))) (mk : ∀ j, j < 16384 → ¬ inS g o_marked_words j) (ws : ∀ x f', sub x (nI m) → (∀ k, hI f' o_wall_facts k = hI g o_wall_facts k) → wtR f' x 14 = W x) (m0 : mI W (fun _ => False) g o_stepsFound) :
    ∀ k, k ≤ 2 ^ pcn 32 m → (∀ j, j < 16384 → (inS (ssH (nI m) g k) o_lawful_words j ↔ inS g o_lawful_words j)) ∧ (∀ j, j < 16384 → (inS (ssH (nI m) g k) o_marked_words j ↔ ∃ i, i < k ∧ j = dn m i ∧ comA U (nI m) (nI j))) ∧ mI W (fun x => ∃ i, i < k ∧ comA U (nI m) (nI (dn m i)) ∧ x = dif (nI m) (nI (dn m i))) (ssH (nI m) g k) o_stepsFound ∧ hI (ssH (nI m) g k) o_stepsFound 3 = hI g o_stepsFound 3 + nI (cnt (fun i => comA U (nI m) (nI (dn m i))) k) := by
  intro k
  induction k with
  | zero =>
    intro _
    refine ⟨fun _ _ => Iff.rfl, fun j hj => ⟨fun z => absurd z (mk j hj), fun ⟨i, hi, _⟩ => absurd hi (Nat.not_lt_zero _)⟩, ?_, (Int32.add_zero _).symm⟩
    rcases m0 with ⟨a1, a2, a3, -⟩ | ⟨b, -, bb, -⟩
    · exact Or.inl ⟨a1, a2, a3, fun s ⟨i, hi, _⟩ => absurd hi (Nat.not_lt_zero _)⟩
    · exact bb.1.elim
  | succ k ih =>
    intro hk
    obtain ⟨i1, i2, i3, i4⟩ := ih (by omega)
    have es : lpS (nxD (nI m)) (nI m) k = nI (dn m k) := lpD_pd (Nat.lt_of_lt_of_le hm (by decide)) k (by omega)
    obtain ⟨p1, p2⟩ := dn_sub (i := k) hm
    rw [ssH_s, es]
    unfold ssB
    have li : inSI (ssH (nI m) g k) o_lawful_words (nI (dn m k)) ↔ lwf U (nI (dn m k)) := by rw [inSI_nI p1, i1 _ p1, lw _ p1 p2]
    have hw := hw1_iff (g := ssH (nI m) g k) (x := nI (dn m k)) (T := nI m) (Mk := comA U (nI m)) (fun j hj b nb => by
      obtain ⟨i, hi, ei⟩ := ad_dn hm (by omega) hj b nb
      have q1 := (dn_sub (i := i) hm).1
      rw [ei, inSI_nI q1, i2 _ q1]
      exact ⟨fun ⟨_, _, _, z⟩ => z, fun z => ⟨i, hi, rfl, z⟩⟩)
    have key : ssP (nI m) (ssH (nI m) g k) (nI (dn m k)) ↔ comA U (nI m) (nI (dn m k)) := by
      unfold ssP
      rw [li, hw, com_eq]
      constructor
      · rintro (z | ⟨z, y⟩)
        · exact Or.inl ⟨z, by rw [z]; exact lT⟩
        · exact Or.inr ⟨z, y⟩
      · rintro (⟨z, -⟩ | ⟨z, y⟩)
        · exact Or.inl z
        · exact Or.inr ⟨z, y⟩
    have hc : ∀ j, (∃ i, i < k + 1 ∧ j = dn m i ∧ comA U (nI m) (nI j)) ↔ (∃ i, i < k ∧ j = dn m i ∧ comA U (nI m) (nI j)) ∨ (j = dn m k ∧ comA U (nI m) (nI j)) := fun j => by
      constructor
      · rintro ⟨i, hi, e, z⟩
        by_cases ei : i = k
        · subst ei; exact Or.inr ⟨e, z⟩
        · exact Or.inl ⟨i, by omega, e, z⟩
      · rintro (⟨i, hi, e, z⟩ | ⟨e, z⟩)
        · exact ⟨i, by omega, e, z⟩
        · exact ⟨k, by omega, e, z⟩
    by_cases y : comA U (nI m) (nI (dn m k))
    · rw [if_pos (key.mpr y), nI_clamp (by omega)]
      have eJ : ∀ o j, inS (offM_stepsFound (addS (ssH (nI m) g k) o_marked_words (dn m k)) (dif (nI m) (nI (dn m k)))) o j ↔ inS (addS (ssH (nI m) g k) o_marked_words (dn m k)) o j := fun o j => inS_J fun x => congrFun (congrFun (congrArg (fun z => z.1) offM_steps_2) o) x
      have a3 : mI W (fun x => ∃ i, i < k ∧ comA U (nI m) (nI (dn m i)) ∧ x = dif (nI m) (nI (dn m i))) (addS (ssH (nI m) g k) o_marked_words (dn m k)) o_stepsFound := i3
      refine ⟨fun j hj => ?_, fun j hj => ?_, mI_stepsFound a3 (low_sub sub_dif (nI_low (n := 22) (by omega))) (ws _ _ sub_dif fun j => ssH_I (g := g) (t := nI m) (n := k) (o := o_wall_facts) (k := j) (by decide)) (fun x => by rw [ex_s x]; exact or_congr Iff.rfl ⟨fun z => z.2, fun z => ⟨y, z⟩⟩), ?_⟩
      · rw [eJ, inS_add, i1 j hj]; exact ⟨fun z => z.elim (fun x => absurd x.1 (by decide)) id, Or.inr⟩
      · rw [eJ, inS_add, i2 j hj, hc j]
        constructor
        · rintro (⟨-, z⟩ | z)
          · exact Or.inr ⟨z, by rw [z]; exact y⟩
          · exact Or.inl z
        · rintro (z | z)
          · exact Or.inr z
          · exact Or.inl ⟨rfl, z.1⟩
      · rw [mS_stepsFound, cnt_t (P := fun i => comA U (nI m) (nI (dn m i))) y, nI_succ, ← Int32.add_assoc, ← i4]; rfl
    · rw [if_neg (fun z => y (key.mp z))]
      refine ⟨i1, fun j hj => ?_, ?_, ?_⟩
      · rw [i2 j hj, hc j]
        exact ⟨Or.inl, fun z => z.elim id fun x => absurd (by rw [← x.1]; exact x.2) y⟩
      · have e : (fun x => ∃ i, i < k + 1 ∧ comA U (nI m) (nI (dn m i)) ∧ x = dif (nI m) (nI (dn m i))) = (fun x => ∃ i, i < k ∧ comA U (nI m) (nI (dn m i)) ∧ x = dif (nI m) (nI (dn m i))) := funext fun x => propext (by rw [ex_s x]; exact ⟨fun z => z.elim id fun v => absurd v.1 y, Or.inl⟩)
        rw [e]; exact i3
      · rw [cnt_f (P := fun i => comA U (nI m) (nI (dn m i))) y]; exact i4
end T95
