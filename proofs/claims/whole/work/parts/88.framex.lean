/-! what a law of the class means; the frame as the state tells it -/
def rnV (x : AS) (v : Option Int64) : Prop := match v with | some u => x.2 = 0 ∧ apopV x = u | none => ¬ x.2 = 0
def rbV (x : AS) (v : Option Bool) : Prop := match v with | some u => x.2 = 0 ∧ (¬ apopV x = 0 ↔ u = true) | none => ¬ x.2 = 0
def envR (F : Int32 → Int32) (p : Int32) (e : Env) : Prop := e 0 = p ∧ ∀ k, k < 7 → e (k + 1) = F (nI k)
noncomputable def avP (h : Hp) (o c : Nat) (F : Int32 → Int32) (p : Int32) : AS := aval F (fStep h o) p (fStart h o (nI (c + 1))) 401 (fStart h o (nI c)) ([], 0)
def clM (h : Hp) (o c : Nat) (cl : CS) : Prop := (cl.1 = true ↔ sEmp h o (nI (2 * c))) ∧ ∀ F p e, envR F p e → (cl.1 = false → rnV (avP h o (2 * c) F p) (cl.2.1 e)) ∧ ((sEmp h o (nI (2 * c + 1)) ∧ cl.2.2 e = some true) ∨ (¬ sEmp h o (nI (2 * c + 1)) ∧ rbV (avP h o (2 * c + 1) F p) (cl.2.2 e)))
def lawMean (h : Hp) (o : Nat) (cs : List CS) : Prop := lawC h o cs.length ∧ ∀ c (hc : c < cs.length), clM h o c cs[c]
/-- the laws of a wall of the class -/
def wL (w : Wd) (h : Hp) (ol : Nat) : Prop := (∀ k, k < 6 → ∀ o, hR h ol k = some o → lawp h o) ∧ ∀ t, w 160 = nI t → t ≤ 6 → ∀ f, f < t → ∃ o, hR h ol f = some o ∧ lawMean h o (csOf w f)
/-- the frame's tables are as the wall and the law tell -/
def fOk (w : Wd) (L : Option (List CS)) (g : Hp) : Prop := ∀ i, i < 22 → cItem w i → hI g o_fr_beside i = mNear w i ∧ hI g o_fr_needs i = mNeed w L i ∧ hI g o_fr_held i = mFirm w i ∧ hI g o_fr_lack i = (if mBnd w L i = true then 0 else mNeed w L i - mFirm w i) ∧ bt (hI g o_frame 5) i = mBnd w L i
section T88
variable {cx : Cx} {d a c : Nat} {h g f : Hp} {w : Wd}
theorem clamp_eq (v : Int64) : clampL v = clampN v := by
  unfold clampL clampN
  have e0 : (0 : Int64).toInt = 0 := rfl
  have e12 : (12 : Int64).toInt = 12 := rfl
  by_cases c1 : v < 0
  · have h1 := Int64.lt_iff_toInt_lt.mp c1
    have c2 : v < 12 := Int64.lt_iff_toInt_lt.mpr (by omega)
    rw [if_pos c2, if_pos c1, if_pos c1]; rfl
  · have h1 : ¬ v.toInt < 0 := fun z => c1 (Int64.lt_iff_toInt_lt.mpr (by omega))
    rw [if_neg c1]
    by_cases c2 : v < 12
    · have h2 := Int64.lt_iff_toInt_lt.mp c2
      rw [if_pos c2, if_neg c1, if_neg (fun z => by have := Int64.lt_iff_toInt_lt.mp z; omega)]
    · have h2 : ¬ v.toInt < 12 := fun z => c2 (Int64.lt_iff_toInt_lt.mpr (by omega))
      rw [if_neg c2, if_neg (by decide)]
      by_cases c3 : 12 < v
      · rw [if_pos c3]; rfl
      · have h3 : ¬ 12 < v.toInt := fun z => c3 (Int64.lt_iff_toInt_lt.mpr (by omega))
        rw [if_neg c3, show v = 12 from Int64.toInt_inj.mp (by omega)]
theorem pv_av {o c : Nat} {p : Int32} : pvS h o (nI c) p = avP h o c (fFact h p) p := by unfold pvS avP; rw [nI_succ]
theorem so_holds {o c : Nat} {p : Int32} {cl : CS} {e : Env} (q : clM h o c cl) (er : envR (fFact h p) p e) : pSo h o (nI (2 * c + 1)) p ↔ csHolds cl e = true := by
  unfold pSo pvV pvB csHolds
  rw [pv_av]
  rcases (q.2 _ _ _ er).2 with ⟨s, t⟩ | ⟨s, t⟩
  · rw [t]; simp [s]
  · generalize avP h o (2 * c + 1) (fFact h p) p = x at t
    unfold rbV at t
    match hv : cl.2.2 e, t with
    | some true, t => simp at t; simp [s, t.1, t.2]
    | some false, t => simp at t; simp [s, t.2]
    | none, t => simp [s, t]
theorem ns_nd1 {o c : Nat} {p nd : Int32} {cl : CS} {e : Env} (q : clM h o c cl) (er : envR (fFact h p) p e) : pNs h o p c nd = nd1 e cl nd := by
  unfold pNs nd1
  have so := so_holds q er
  have em := q.1
  by_cases hb : cl.1 = true
  · rw [if_neg (fun z => z.1 (em.mp hb)), hb]
    cases csHolds cl e <;> rfl
  · have hb2 : cl.1 = false := ts_nt hb
    have rn := (q.2 _ _ _ er).1 hb2
    rw [hb2]
    unfold pvB pvV
    rw [pv_av]
    generalize avP h o (2 * c) (fFact h p) p = x at rn
    unfold rnV at rn
    by_cases ch : csHolds cl e = true
    · rw [ch]
      match hv : cl.2.1 e, rn with
      | some v, rn => rw [if_pos ⟨fun z => hb (em.mpr z), so.mpr ch, rn.1⟩, rn.2]; exact clamp_eq v
      | none, rn => rw [if_neg (fun z => rn z.2.2)]
    · rw [if_neg (fun z => ch (so.mp z.2.1)), ts_nt ch]
theorem nd_mean {o : Nat} {cs : List CS} {p : Int32} {e : Env} (q : lawMean h o cs) (er : envR (fFact h p) p e) : ∀ n c nd, c + n = cs.length → pNd h o p n c nd = needS e (cs.drop c) nd := by
  intro n
  induction n with
  | zero => intro c nd hc; rw [List.drop_eq_nil_of_le (by omega)]; rfl
  | succ n ih =>
    intro c nd hc
    rw [pNd, ih (c + 1) _ (by omega), List.drop_eq_getElem_cons (show c < cs.length by omega), needS, ns_nd1 (q.2 c (by omega)) er]
    rfl
theorem bd_mean {o : Nat} {cs : List CS} {p : Int32} {e : Env} (q : lawMean h o cs) (er : envR (fFact h p) p e) : pBd h o cs.length p ↔ bndA e cs = true := by
  unfold pBd bndA
  rw [List.any_eq_true]
  constructor
  · rintro ⟨c, hc, h1, h2⟩
    refine ⟨cs[c], List.getElem_mem hc, ?_⟩
    rw [(q.2 c hc).1.mpr h1, (so_holds (q.2 c hc) er).mp h2]; rfl
  · rintro ⟨x, hx, z⟩
    obtain ⟨c, hc, rfl⟩ := List.getElem_of_mem hx
    simp at z
    exact ⟨c, hc, (q.2 c hc).1.mp z.1, (so_holds (q.2 c hc) er).mpr z.2⟩
theorem env_w {i : Nat} (qf : wFm w h) (hi : i < 22) : envR (fFact h (nI i)) (nI i) (envW w i) := by
  refine ⟨rfl, fun k hk => ?_⟩
  rw [fact_w qf hi hk]; rfl
/-- the law in force, as the class finds it -/
theorem force_law {n s t : Nat} (qf : wFm w h) (ql : wL w h o_wall_laws) (wf : wfS w n s t) : (w 161 = -1 ∧ inF h none ∧ lawOf w = none) ∨ ∃ o cs, inF h (some (o, cs.length)) ∧ lawOf w = some cs ∧ lawMean h o cs := by
  rcases wf.2.2.2.2.2.2.2 with z | ⟨k, hk, z⟩
  · exact Or.inl ⟨z, qf.2.2.2.2.2.2.trans z, if_pos z⟩
  · right
    obtain ⟨o, ho, lm⟩ := ql.2 t wf.2.2.2.2.2.2.1 wf.2.2.1 k hk
    have h6 := wf.2.2.1
    refine ⟨o, csOf w k, ⟨k, by omega, qf.2.2.2.2.2.2.trans z, ho, lm.1⟩, ?_, lm⟩
    unfold lawOf
    rw [z, if_neg (nI_m1 (by omega)), nI_clamp (by omega)]
theorem fr_fOk {n s t : Nat} {L : Option (Nat × Nat)} (qf : wFm w h) (wf : wfS w n s t) (wi : wfI w) (fr : frOk h L 22 g) (eN : ∀ i, i < 22 → cItem w i → dNeed h L (nI i) = mNeed w (lawOf w) i) (eB : ∀ i, i < 22 → cItem w i → (dBnd h L (nI i) ↔ mBnd w (lawOf w) i = true)) : fOk w (lawOf w) g := fun i hi ci => by
  have sp := (place_item qf wf hi).mpr ci
  obtain ⟨f1, f2, f3, f4⟩ := (fr.1 i hi).1 sp
  refine ⟨?_, f3.trans (eN i hi ci), f2.trans (held_firm qf hi), ?_, ?_⟩
  · rw [f1]; exact bitsR_cg 22 fun k hk => near_nb qf wf wi hi ci hk
  · rw [f4]
    unfold dLack
    by_cases b : dBnd h L (nI i)
    · rw [if_pos b, if_pos ((eB i hi ci).mp b)]
    · rw [if_neg b, if_neg (fun z => b ((eB i hi ci).mpr z)), eN i hi ci, held_firm qf hi]
  · rw [fr.2]
    have := bit_of_bitsR (P := fun k => sPlace h (nI k) ∧ dBnd h L (nI k)) 22 i (by decide) (by omega)
    cases hb : mBnd w (lawOf w) i
    · exact ts_nt fun z => by have := (eB i hi ci).mp (this.mp z).2.2; rw [hb] at this; cases this
    · exact this.mpr ⟨hi, sp, (eB i hi ci).mpr hb⟩
/-- renewing the frame -/
theorem m_renew (hd : 6 ≤ d) {n s t : Nat} (qf : wFm w h) (ql : wL w h o_wall_laws) (wf : wfS w n s t) (wi : wfI w) : M cx jX2_renew d a [.ref o_frame, .ref o_wall] h (fun r g => r = none ∧ sameF h g ∧ fOk w (lawOf w) g) := by
  rcases force_law qf ql wf with ⟨z, q1, q2⟩ | ⟨o, cs, q1, q2, lm⟩
  · refine M_mono (m_renewN hd q1) ?_
    rintro r g ⟨rfl, sf, fr⟩
    refine ⟨rfl, sf, fr_fOk qf wf wi fr (fun i hi _ => ?_) (fun i hi _ => ?_)⟩
    · rw [q2]; show fTerm h (nI 0) = w 154; exact term_w qf (by decide)
    · rw [q2]; exact ⟨fun z => z.elim, fun z => by cases z⟩
  · refine M_mono (m_renewS hd q1) ?_
    rintro r g ⟨rfl, sf, fr⟩
    refine ⟨rfl, sf, fr_fOk qf wf wi fr (fun i hi _ => ?_) (fun i hi _ => ?_)⟩
    · rw [q2]
      show pNd h o (nI i) cs.length 0 (fTerm h (nI 0)) = needS (envW w i) cs (w 154)
      rw [nd_mean lm (env_w qf hi) cs.length 0 _ (by omega), term_w qf (by decide)]; rfl
    · rw [q2]; exact bd_mean lm (env_w qf hi)
/-! what does not stand -/
theorem clampN_rng (v : Int64) : inR 0 12 (clampN v) := by
  unfold clampN
  by_cases c1 : v < 0
  · rw [if_pos c1]; exact ⟨0, by omega, by omega, rfl⟩
  · rw [if_neg c1]
    by_cases c2 : 12 < v
    · rw [if_pos c2]; exact ⟨12, by omega, by omega, rfl⟩
    · rw [if_neg c2]
      have e0 : (0 : Int64).toInt = 0 := rfl
      have e12 : (12 : Int64).toInt = 12 := rfl
      have h1 : 0 ≤ v.toInt := Int.not_lt.mp fun z => c1 (Int64.lt_iff_toInt_lt.mpr (by omega))
      have h2 : v.toInt ≤ 12 := Int.not_lt.mp fun z => c2 (Int64.lt_iff_toInt_lt.mpr (by omega))
      refine ⟨v.toInt.toNat, Nat.zero_le _, by omega, ?_⟩
      apply Int32.toInt_inj.mp
      rw [nI_toInt (by omega), Int64.toInt_toInt32]
      rw [show (v.toInt.toNat : Int) = v.toInt by omega]
      apply Int.bmod_eq_of_le <;> omega
theorem needS_rng {e : Env} : ∀ (cs : List CS) nd, inR 0 12 nd → inR 0 12 (needS e cs nd) := by
  intro cs
  induction cs with
  | nil => intro nd q; exact q
  | cons c r ih =>
    intro nd q
    rw [needS]
    refine ih _ ?_
    split
    · exact clampN_rng _
    · exact q
theorem need_rng {L : Option (List CS)} {i : Nat} (q : wfT w) : inR 0 12 (mNeed w L i) := by
  cases L with
  | none => exact q.1
  | some cs => exact needS_rng cs _ q.1
theorem firm_rng {i : Nat} (q : wfT w) : inR 0 27 (mFirm w i) := by
  obtain ⟨-, ⟨p, -, hp, ep⟩, ⟨r, -, hr, er⟩⟩ := q
  have k : ∀ (c : Prop) [Decidable c] (v : Nat), v ≤ 9 → ∃ u, u ≤ 9 ∧ (if c then nI v else 0) = nI u := fun c _ v hv => by
    by_cases z : c
    · rw [if_pos z]; exact ⟨v, hv, rfl⟩
    · rw [if_neg z]; exact ⟨0, by omega, rfl⟩
  unfold mFirm
  rw [ep, er]
  obtain ⟨u1, h1, e1⟩ := k (w (7 * i + 1) = 0) p hp
  obtain ⟨u2, h2, e2⟩ := k (w (7 * i + 0) = 0) r hr
  obtain ⟨u3, h3, e3⟩ := k (w (7 * i + 0) + w (7 * i + 2) = 12) r hr
  rw [e1, e2, e3, nI_add, nI_add]
  exact ⟨u1 + u2 + u3, by omega, by omega, rfl⟩
theorem near_low {i : Nat} : low 22 (mNear w i) := fun k hk q => ((bt_bits hk).mp q).1
theorem alo_nat {L : Option (List CS)} {s : Int32} {k : Nat} (q : wfT w) : ∃ a b : Nat, a ≤ 12 ∧ b ≤ 27 ∧ mNeed w L k = nI a ∧ mFirm w k = nI b ∧ (alo w L s k ↔ inB s k ∧ ¬ mBnd w L k = true ∧ sz (mNear w k &&& s) + b < a) := by
  obtain ⟨p, -, hp, ep⟩ := need_rng (L := L) (i := k) q
  obtain ⟨r, -, hr, er⟩ := firm_rng (i := k) q
  have hs := sz_le (mNear w k &&& s)
  refine ⟨p, r, hp, hr, ep, er, ?_⟩
  unfold alo
  rw [ep, er, ones_sz, nI_add]
  constructor
  · rintro ⟨h1, h2⟩
    refine ⟨h1, fun z => h2 (Or.inl z), Nat.lt_of_not_le fun z => h2 (Or.inr (nI_le z (by omega)))⟩
  · rintro ⟨h1, h2, h3⟩
    refine ⟨h1, fun z => z.elim h2 fun y => nI_ge h3 (by omega) y⟩
theorem Umo_aU {L : Option (List CS)} (q : wfT w) : Umo (aU w L) := fun s t k st hk hs ht => by
  obtain ⟨h1, h2⟩ := (bt_bits hk).mp ht
  refine (bt_bits hk).mpr ⟨h1, ?_⟩
  obtain ⟨p, r, hp, hr, e1, e2, e3⟩ := alo_nat (L := L) (s := t) (k := k) q
  obtain ⟨p', r', hp', hr', e1', e2', e3'⟩ := alo_nat (L := L) (s := s) (k := k) q
  have a1 := (nI_eq (by omega) (by omega)).mp (e1.symm.trans e1')
  have a2 := (nI_eq (by omega) (by omega)).mp (e2.symm.trans e2')
  rw [e3] at h2
  rw [e3']
  have : sz (mNear w k &&& s) ≤ sz (mNear w k &&& t) := sz_sub fun i hi z => by
    rw [b_and] at z ⊢; simp at z; rw [z.1, st i hi z.2]; rfl
  exact ⟨(inB_bt (by omega)).mpr hs, h2.2.1, by omega⟩
theorem uns_aU {L : Option (List CS)} {s : Int32} (q : wfT w) (fo : fOk w L g) (it : items w s) : uns g s = aU w L s := by
  rw [uns_bits]
  refine bitsR_cg 22 fun k hk => ?_
  unfold lo
  by_cases hb : inB s k
  · obtain ⟨f1, f2, f3, f4, f5⟩ := fo k hk (it k hk hb)
    obtain ⟨p, r, hp, hr, e1, e2, e3⟩ := alo_nat (L := L) (s := s) (k := k) q
    have hs := sz_le (mNear w k &&& s)
    rw [e3, f1, f4, bcw_sz (low_sub sub_and1 near_low), e1, e2]
    have nb : ¬ (s >>> (nI k &&& 31)) &&& 1 = 0 := fun z => (inB_n (by omega)).mpr z hb
    by_cases m : mBnd w L k = true
    · rw [if_pos m]
      exact ⟨fun z => absurd z.2 (nI_pos (by omega)), fun z => absurd m z.2.1⟩
    · rw [if_neg m, Int32.lt_iff_toInt_lt, nI_toInt (by omega), pk_sub_toInt (by omega) (by omega)]
      exact ⟨fun z => ⟨hb, m, by omega⟩, fun z => ⟨nb, by omega⟩⟩
  · exact ⟨fun z => absurd ((inB_bt (by omega)).mpr ((shr_bt (by omega)).mp z.1)) hb, fun z => absurd z.1 hb⟩
end T88
