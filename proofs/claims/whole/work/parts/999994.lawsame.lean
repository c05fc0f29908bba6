/-! a law more in the wall: all that the laws in force tell stays -/
section T999994
variable {cx : Cx} {d a c : Nat} {h g f : Hp} {w w' : Wd} {n s t : Nat}
theorem rn_det {x : AS} {u v : Option Int64} (p : rnV x u) (q : rnV x v) : u = v := by
  cases u with
  | none => cases v with
    | none => rfl
    | some b => exact absurd q.1 p
  | some a => cases v with
    | none => exact absurd p.1 q
    | some b => rw [← p.2, ← q.2]
theorem rb_det {x : AS} {u v : Option Bool} (p : rbV x u) (q : rbV x v) : u = v := by
  cases u with
  | none => cases v with
    | none => rfl
    | some b => exact absurd q.1 p
  | some a => cases v with
    | none => exact absurd p.1 q
    | some b =>
      have := p.2.symm.trans q.2
      cases a <;> cases b <;> simp at this ⊢
theorem cl_det {o c : Nat} {cl : CS} {F : Int32 → Int32} {p : Int32} {e e' : Env} (q : clM h o c cl) (r : envR F p e) (r' : envR F p e') : csHolds cl e = csHolds cl e' ∧ (cl.1 = false → cl.2.1 e = cl.2.1 e') := by
  obtain ⟨a1, a2⟩ := q.2 F p e r
  obtain ⟨b1, b2⟩ := q.2 F p e' r'
  refine ⟨?_, fun z => rn_det (a1 z) (b1 z)⟩
  have : cl.2.2 e = cl.2.2 e' := by
    rcases a2 with ⟨y1, y2⟩ | ⟨y1, y2⟩
    · rcases b2 with ⟨z1, z2⟩ | ⟨z1, z2⟩
      · rw [y2, z2]
      · exact absurd y1 z1
    · rcases b2 with ⟨z1, z2⟩ | ⟨z1, z2⟩
      · exact absurd z1 y1
      · exact rb_det y2 z2
  unfold csHolds; rw [this]
theorem nd_det {o : Nat} {cs : List CS} {F : Int32 → Int32} {p : Int32} {e e' : Env} (q : lawMean h o cs) (r : envR F p e) (r' : envR F p e') : (∀ nd, needS e cs nd = needS e' cs nd) ∧ bndA e cs = bndA e' cs := by
  have all : ∀ c, c ∈ cs → csHolds c e = csHolds c e' ∧ (c.1 = false → c.2.1 e = c.2.1 e') := fun c hc => by
    obtain ⟨i, hi, rfl⟩ := List.getElem_of_mem hc
    exact cl_det (q.2 i hi) r r'
  clear q
  induction cs with
  | nil => exact ⟨fun _ => rfl, rfl⟩
  | cons c cs ih =>
    obtain ⟨i1, i2⟩ := ih fun c hc => all c (List.mem_cons_of_mem _ hc)
    obtain ⟨h1, h2⟩ := all c List.mem_cons_self
    refine ⟨fun nd => ?_, ?_⟩
    · rw [needS, needS, ← i1, h1]
      cases hb : c.1 with
      | false => rw [h2 hb]
      | true => cases csHolds c e' <;> rfl
    · unfold bndA at *
      rw [List.any_cons, List.any_cons, h1, i2]
theorem it_e (e : ∀ k, k < 160 → w' k = w k) {k : Nat} : cItem w' k ↔ cItem w k := item_same (e 157 (by decide)) (e 158 (by decide))
theorem near_e (e : ∀ k, k < 160 → w' k = w k) {i : Nat} (hi : i < 22) : mNear w' i = mNear w i := by
  unfold mNear
  refine bitsR_cg 22 fun k hk => ?_
  unfold nearP
  rw [it_e e]
  refine and_congr_right fun _ => and_congr_right fun _ => ?_
  unfold tch sizeOk tchK cCov
  simp only [e (7 * i + 0) (by omega), e (7 * i + 1) (by omega), e (7 * i + 2) (by omega), e (7 * i + 3) (by omega), e (7 * k + 0) (by omega), e (7 * k + 1) (by omega), e (7 * k + 2) (by omega), e (7 * k + 3) (by omega)]
theorem firm_e (e : ∀ k, k < 160 → w' k = w k) {i : Nat} (hi : i < 22) : mFirm w' i = mFirm w i := by
  unfold mFirm
  rw [e 155 (by decide), e 156 (by decide), e (7 * i + 0) (by omega), e (7 * i + 1) (by omega), e (7 * i + 2) (by omega)]
theorem need_e (e : ∀ k, k < 160 → w' k = w k) {L : Option (List CS)} {i : Nat} (hi : i < 22) (hL : ∀ cs, L = some cs → ∃ o, lawMean h o cs) : mNeed w' L i = mNeed w L i ∧ mBnd w' L i = mBnd w L i := by
  cases L with
  | none => exact ⟨e 154 (by decide), rfl⟩
  | some cs =>
    obtain ⟨o, lm⟩ := hL cs rfl
    have r : envR (fun k => w (7 * i + k.toNatClampNeg)) (nI i) (envW w i) := ⟨rfl, fun k hk => by
      show (if k + 1 = 0 then _ else w (7 * i + (k + 1 - 1))) = w (7 * i + (nI k).toNatClampNeg)
      rw [if_neg (by omega), nI_clamp (by omega), Nat.add_sub_cancel]⟩
    have r' : envR (fun k => w (7 * i + k.toNatClampNeg)) (nI i) (envW w' i) := ⟨rfl, fun k hk => by
      show (if k + 1 = 0 then _ else w' (7 * i + (k + 1 - 1))) = w (7 * i + (nI k).toNatClampNeg)
      rw [if_neg (by omega), nI_clamp (by omega), Nat.add_sub_cancel, e _ (by omega)]⟩
    obtain ⟨d1, d2⟩ := nd_det lm r' r
    refine ⟨?_, d2⟩
    show needS (envW w' i) cs (w' 154) = needS (envW w i) cs (w 154)
    rw [e 154 (by decide)]; exact d1 _
theorem aU_e (e : ∀ k, k < 160 → w' k = w k) {L : Option (List CS)} (hL : ∀ cs, L = some cs → ∃ o, lawMean h o cs) : aU w' L = aU w L := by
  funext s
  unfold aU
  refine bitsR_cg 22 fun k hk => ?_
  unfold alo
  rw [near_e e hk, firm_e e hk, (need_e e hk hL).1, (need_e e hk hL).2]
theorem fOk_e (e : ∀ k, k < 160 → w' k = w k) {L : Option (List CS)} (hL : ∀ cs, L = some cs → ∃ o, lawMean h o cs) (q : fOk w L g) : fOk w' L g := fun i hi ci => by
  have := q i hi ((it_e e).mp ci)
  rw [near_e e hi, firm_e e hi, (need_e e hi hL).1, (need_e e hi hL).2]
  exact this
theorem nwt_e (e : ∀ k, k < 160 → w' k = w k) {s : Int32} : ∀ n, n ≤ 14 → nwt w' s n = nwt w s n := by
  intro n
  induction n with
  | zero => intro _; rfl
  | succ n ih => intro hn; rw [nwt, nwt, ih (by omega), e (7 * n + 4) (by omega)]
theorem tmF_e (e : ∀ k, k < 160 → w' k = w k) {P : Nat → Prop} (hn : n ≤ 14) : ∀ k, tmF w' n P k = tmF w n P k := by
  intro k
  induction k with
  | zero => rfl
  | succ k ih =>
    rw [tmF, tmF, ih]
    have : mBt w' n = mBt w n := by funext x y; unfold mBt; rw [nwt_e e n hn, nwt_e e n hn]
    rw [this]
theorem thOk_e (e : ∀ k, k < 160 → w' k = w k) {U : Int32 → Int32} (hn : n ≤ 14) (q : thOk w U n s g) : thOk w' U n s g := by
  have e9 := e 159 (by decide)
  have cp : cPart w' = cPart w := by funext s; unfold cPart; rw [e9]
  have tk : ∀ ob, tkPr w' U ob = tkPr w U ob := fun ob => by funext k; unfold tkPr; rw [cp, e9]
  have fl : flP w' U = flP w U := by funext k; unfold flP; rw [cp, e9]
  have md : mdP w' U = mdP w U := by funext k; unfold mdP; rw [e9]
  have mo : ∀ r o, moX w' n r o g ↔ moX w n r o g := fun r o => by unfold moX; rw [nwt_e e n hn]
  unfold thOk at *
  rw [e9, tk, tk, tmF_e e hn, tmF_e e hn, fl, md, mo, mo]
  exact q
end T999994
