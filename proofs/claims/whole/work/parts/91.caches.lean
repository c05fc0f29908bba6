/-! what the thieves keep, as the state tells it; all lawful sets; at once -/
def lwX (U : Int32 → Int32) (T : Int32) (h : Hp) : Prop := hI h o_thieves 12 = fallA U T ∧ ∀ j, j < 16384 → (inS h o_lawful_words j ↔ lwf U (nI j) ∧ sub (nI j) (fallA U T))
def moX (w : Wd) (n : Nat) (r : Int32 × Int32) (o : Nat) (h : Hp) : Prop := hI h o 0 = (if r.1 = -1 then -1 else onesR r.1 22) ∧ hI h o 1 = (if r.1 = -1 then -1 else nwt w r.1 n) ∧ hI h o 2 = r.1 ∧ hI h o 3 = r.2
def feX (r : Int32 × Int32) (o : Nat) (h : Hp) : Prop := hI h o 0 = (if r.1 = -1 then -1 else onesR r.1 22) ∧ hI h o 1 = r.1 ∧ hI h o 2 = r.2
def orX (U : Int32 → Int32) (T b : Int32) (h : Hp) : Prop := (b = -1 → hI h o_thieves 9 = 0) ∧ (¬ b = -1 → hI h o_thieves 9 = nI (sz b) ∧ ∀ k, k < sz b → hI h o_th_steps k = ordS U (dif T b) T k)
def gaX (U : Int32 → Int32) (T : Int32) (n : Nat) (h : Hp) : Prop := hI h o_thieves 10 = fst (mayW U T) n 0 ∧ hI h o_thieves 11 = nI (cnt (mayT U T) n)
def kb (h : Hp) (k : Int32) : Prop := ¬ hI h o_thieves 13 &&& k = 0
def thOk (w : Wd) (U : Int32 → Int32) (n sp : Nat) (h : Hp) : Prop := (kb h 1 → lwX U (w 159) h) ∧ (kb h 2 → moX w n (tmF w n (tkPr w U false) (2 ^ n)) o_onceFound h) ∧ (kb h 4 → moX w n (tmF w n (tkPr w U true) (2 ^ n)) o_stepsFound h ∧ orX U (w 159) (tmF w n (tkPr w U true) (2 ^ n)).1 h) ∧ (kb h 8 → feX (fewF (flP w U) (2 ^ n)) o_fellingFound h) ∧ (kb h 16 → feX (fewF (mdP w U) (2 ^ sp)) o_mendingFound h) ∧ (kb h 32 → gaX U (w 159) n h)
/-- the class's frame and wall, as the state has them -/
def wX (w : Wd) (n s t : Nat) (h : Hp) : Prop := wFm w h ∧ wfS w n s t ∧ wfT w ∧ fOk w (lawOf w) h
section T91
variable {cx : Cx} {d a c : Nat} {h g f : Hp} {w : Wd} {n s t : Nat}
theorem or_eq0 {x y : Int32} : x ||| y = 0 ↔ x = 0 ∧ y = 0 := by
  constructor
  · intro e
    have : ∀ i, i < 32 → bt x i = false ∧ bt y i = false := fun i hi => by
      have : bt (x ||| y) i = bt 0 i := by rw [e]
      rw [b_or, b_0] at this; simpa using this
    exact ⟨zero_bt.mpr fun i hi => (this i hi).1, zero_bt.mpr fun i hi => (this i hi).2⟩
  · rintro ⟨rfl, rfl⟩; rfl
theorem kb_or {K k : Int32} (e : hI g o_thieves 13 = hI h o_thieves 13 ||| K) : kb g k ↔ kb h k ∨ ¬ K &&& k = 0 := by
  unfold kb
  rw [e, and_orD, or_eq0]
  constructor
  · intro z
    by_cases y : hI h o_thieves 13 &&& k = 0
    · exact Or.inr fun x => z ⟨y, x⟩
    · exact Or.inl y
  · rintro (z | z) y
    · exact z y.1
    · exact z y.2
theorem lwX_c {U : Int32 → Int32} {T : Int32} (q : lwX U T h) (e1 : hI g o_thieves 12 = hI h o_thieves 12) (e2 : ∀ k, hJ g o_lawful_words k = hJ h o_lawful_words k) : lwX U T g := ⟨e1.trans q.1, fun j hj => (inS_J e2).trans (q.2 j hj)⟩
theorem moX_c {r : Int32 × Int32} {o : Nat} (q : moX w n r o h) (e : ∀ k, hI g o k = hI h o k) : moX w n r o g := by unfold moX; rw [e, e, e, e]; exact q
theorem feX_c {r : Int32 × Int32} {o : Nat} (q : feX r o h) (e : ∀ k, hI g o k = hI h o k) : feX r o g := by unfold feX; rw [e, e, e]; exact q
theorem orX_c {U : Int32 → Int32} {T b : Int32} (q : orX U T b h) (e1 : hI g o_thieves 9 = hI h o_thieves 9) (e2 : ∀ k, hI g o_th_steps k = hI h o_th_steps k) : orX U T b g := by
  refine ⟨fun z => e1.trans (q.1 z), fun z => ⟨e1.trans (q.2 z).1, fun k hk => (e2 k).trans ((q.2 z).2 k hk)⟩⟩
theorem gaX_c {U : Int32 → Int32} {T : Int32} (q : gaX U T n h) (e1 : hI g o_thieves 10 = hI h o_thieves 10) (e2 : hI g o_thieves 11 = hI h o_thieves 11) : gaX U T n g := ⟨e1.trans q.1, e2.trans q.2⟩
theorem it_cg {U V : Int32 → Int32} (e : ∀ x, low n x → U x = V x) : ∀ m x, low n x → itR U m x = itR V m x := by
  intro m
  induction m with
  | zero => intro x _; rfl
  | succ m ih => intro x l; rw [itR, itR, e x l, ih _ (low_sub sub_dif l)]
theorem itN_cg {U V : Int32 → Int32} (e : ∀ x, low n x → U x = V x) : ∀ m x, low n x → itN U m x = itN V m x := by
  intro m
  induction m with
  | zero => intro x _; rfl
  | succ m ih => intro x l; rw [itN, itN, e x l, ih _ (low_sub sub_dif l)]
theorem uns_low (q : wX w n s t h) : ∀ x, low n x → uns h x = aU w (lawOf w) x := fun x l => uns_aU q.2.2.1 q.2.2.2 (items_low q.2.1.2.2.2.1 q.2.1.1 l)
theorem set_fall (q : wX w n s t h) {x : Int32} (l : low n x) : setR h 22 x = fallA (aU w (lawOf w)) x := by rw [setR_it]; exact it_cg (uns_low q) 22 x l
theorem rnd_fall (q : wX w n s t h) {x : Int32} (l : low n x) : rndR h 22 x = itN (aU w (lawOf w)) 22 x := by rw [rndR_it]; exact itN_cg (uns_low q) 22 x l
theorem lawS_it (q : wX w n s t h) {x : Int32} (it : items w x) : lawfulS h x ↔ lwf (aU w (lawOf w)) x := by
  unfold lawfulS lwf
  rw [← uns_aU q.2.2.1 q.2.2.2 it, uns_bits]
  refine and_congr_right fun _ => ?_
  constructor
  · intro z; exact zero_bt.mpr fun k hk => ts_nt fun y => z k ((bt_bits hk).mp y).1 ((bt_bits hk).mp y).2
  · intro z k hk y
    have := (bt_bits (P := lo h x) (i := k) (by omega)).mpr ⟨hk, y⟩
    rw [z, b_0] at this; cases this
theorem lawS_low (q : wX w n s t h) {x : Int32} (l : low n x) : lawfulS h x ↔ lwf (aU w (lawOf w)) x := lawS_it q (items_low q.2.1.2.2.2.1 q.2.1.1 l)
theorem wX_T (q : wX w n s t h) : hI h o_wall 5 = w 159 ∧ low n (w 159) ∧ n ≤ 14 := ⟨q.1.2.2.2.2.1, q.2.1.2.2.2.2.2.1, q.2.1.1⟩
/-- the core -/
theorem core_nI (q : wX w n s t h) : ∃ m, m < 2 ^ n ∧ fallA (aU w (lawOf w)) (w 159) = nI m := low_nI (by have := q.2.1.1; omega) (low_sub (it_sub 22 _) (wX_T q).2.1)
theorem wX_c (q : wX w n s t h) (e : ∀ o k, ¬ (91 ≤ o ∧ o ≤ 100) → hI g o k = hI h o k) : wX w n s t g := by
  obtain ⟨⟨q1, q2, q3, q4, q5, q6, q7⟩, w2, w3, w4⟩ := q
  refine ⟨⟨fun k hk => (e _ _ (by decide)).trans (q1 k hk), fun k hk => (e _ _ (by decide)).trans (q2 k hk), (e _ _ (by decide)).trans q3, (e _ _ (by decide)).trans q4, (e _ _ (by decide)).trans q5, (e _ _ (by decide)).trans q6, (e _ _ (by decide)).trans q7⟩, w2, w3, fun i hi ci => ?_⟩
  rw [e _ _ (by decide), e _ _ (by decide), e _ _ (by decide), e _ _ (by decide), e _ _ (by decide)]
  exact w4 i hi ci
theorem wX_core (q : wX w n s t h) : ∃ m, m < 16384 ∧ setR h 22 (hI h o_wall 5) = nI m ∧ fallA (aU w (lawOf w)) (w 159) = nI m ∧ m < 2 ^ n := by
  obtain ⟨m, hm, e⟩ := core_nI q
  have := pow14 q.2.1.1
  exact ⟨m, by omega, by rw [(wX_T q).1, set_fall q (wX_T q).2.1]; exact e, e, hm⟩
/-- findLawful leaves the lawful sets -/
theorem fl_ok (q : wX w n s t h) (k1 : kb h 1 → lwX (aU w (lawOf w)) (w 159) h) : lwX (aU w (lawOf w)) (w 159) (flA h) ∧ (∀ k, k ≠ 12 → k ≠ 13 → hI (flA h) o_thieves k = hI h o_thieves k) ∧ hI (flA h) o_thieves 13 = hI h o_thieves 13 ||| 1 ∧ (∀ o k, o ≠ 93 → hJ (flA h) o k = hJ h o k) := by
  unfold flA
  by_cases z : hI h o_thieves 13 &&& 1 = 0
  · rw [if_pos z]
    unfold flD
    obtain ⟨m, hm, e1, e2, hm2⟩ := wX_core q
    rw [e1, (bcS_pow hm).2]
    generalize eg : clrJ (wI (wI h o_thieves 13 (hI h o_thieves 13 ||| 1)) o_thieves 12 (nI m)) o_lawful_words 256 = g0
    have i0 : ∀ o k, hI g0 o k = hI (wI (wI h o_thieves 13 (hI h o_thieves 13 ||| 1)) o_thieves 12 (nI m)) o k := fun o k => by rw [← eg]; rfl
    refine ⟨⟨?_, fun j hj => ?_⟩, fun k n1 n2 => ?_, ?_, fun o k no => ?_⟩
    · rw [flH_I, i0, rd_same, e2]
    · rw [inS_fl hm _ j hj, ← eg, inS_clr, e2]
      constructor
      · rintro (y | ⟨i, hi, ej, l⟩)
        · exact absurd ⟨rfl, hj⟩ y.1
        · have sb : sub (nI j) (nI m) := by rw [ej]; exact (pd_sub hm).2
          exact ⟨(lawS_low q (low_sub sb (nI_low hm2))).mp l, sb⟩
      · rintro ⟨l, sb⟩
        obtain ⟨p1, p2⟩ := pd_of hj hm sb
        exact Or.inr ⟨pe 32 m j, p1, p2.symm, (lawS_low q (low_sub sb (nI_low hm2))).mpr l⟩
    · rw [flH_I, i0, rd_k n1, rd_k n2]
    · rw [flH_I, i0, rd_k (by decide), rd_same]
    · rw [fl_J no, ← eg]
      show (if o = o_lawful_words ∧ k < 256 then 0 else hJ h o k) = _
      rw [if_neg (fun y => no y.1)]
  · rw [if_neg z]
    exact ⟨lwX_c (k1 z) (rd_k (by decide)) (fun _ => rfl), fun k _ n2 => rd_k n2, rd_same, fun _ _ _ => rfl⟩
theorem wt_eq {x : Int32} (qf : wFm w h) (hn : n ≤ 14) (l : low n x) : wtR h x 14 = nwt w x n := by
  have up : ∀ m, m ≤ 14 → wtR h x m = nwt w x m := by
    intro m
    induction m with
    | zero => intro _; rfl
    | succ m ih =>
      intro hm
      rw [wtR, nwt, ih (by omega)]
      by_cases b : inB x m
      · rw [if_pos b, if_neg (fun z => (inB_n (by omega)).mpr z b)]
        rw [show (4 : Int32) = nI 4 from rfl, fact_w qf (by omega) (by decide)]
      · rw [if_neg b, if_pos ((inB_n (by omega)).mp b), Int32.add_zero]
  have cut : ∀ m, nwt w x (n + m) = nwt w x n ∨ 14 < n + m := by
    intro m
    induction m with
    | zero => exact Or.inl rfl
    | succ m ih =>
      rcases ih with ih | ih
      · by_cases h14 : 14 < n + (m + 1)
        · exact Or.inr h14
        · left
          have nb : ¬ inB x (n + m) := fun b => by have := l (n + m) (by omega) ((inB_bt (by omega)).mp b); omega
          rw [show n + (m + 1) = n + m + 1 from rfl, nwt, if_neg nb, Int32.add_zero, ih]
      · exact Or.inr (by omega)
  rw [up 14 (Nat.le_refl _)]
  have := (cut (14 - n)).resolve_right (by omega)
  rw [show n + (14 - n) = 14 by omega] at this
  exact this
/-- at once: the loop -/
theorem ao_inv {U : Int32 → Int32} {W : Int32 → Int32} {T : Int32} {m : Nat} (hm : m < 2 ^ 14) (lT : low 22 T) (lw : ∀ j, j < 16384 → (inS g o_lawful_words j ↔ lwf U (nI j) ∧ sub (nI j) (nI m))) (ws : ∀ x f', sub x T → (∀ k, hI f' o_wall_facts k = hI g o_wall_facts k) → wtR f' x 14 = W x) (m0 : mI W (fun _ => False) g o_onceFound) : ∀ k, mI W (fun x => ∃ i, i < k ∧ lwf U (nI (pd 32 m i)) ∧ x = dif T (nI (pd 32 m i))) (aoH T (nI m) g k) o_onceFound ∧ hI (aoH T (nI m) g k) o_onceFound 3 = hI g o_onceFound 3 + nI (cnt (fun i => lwf U (nI (pd 32 m i))) k) := by
  intro k
  induction k with
  | zero =>
    refine ⟨?_, ?_⟩
    · rcases m0 with ⟨a1, a2, a3, -⟩ | ⟨b, -, bb, -⟩
      · exact Or.inl ⟨a1, a2, a3, fun s ⟨i, hi, _⟩ => absurd hi (Nat.not_lt_zero _)⟩
      · exact bb.1.elim
    · exact (Int32.add_zero _).symm
  | succ k ih =>
    have es : lpS (nxU (nI m)) 0 k = nI (pd 32 m k) := lpU_pd (Nat.lt_of_lt_of_le hm (by decide)) k
    obtain ⟨p1, p2⟩ := pd_sub (i := k) hm
    show mI W _ (aoB T (aoH T (nI m) g k) (lpS (nxU (nI m)) 0 k)) o_onceFound ∧ hI (aoB T (aoH T (nI m) g k) (lpS (nxU (nI m)) 0 k)) o_onceFound 3 = _
    rw [es]
    unfold aoB
    have li : inSI (aoH T (nI m) g k) o_lawful_words (nI (pd 32 m k)) ↔ lwf U (nI (pd 32 m k)) := by
      have eJ := inS_J (h := g) (g := aoH T (nI m) g k) (o := o_lawful_words) (m := pd 32 m k) (fun j => congrFun (congrFun (congrArg (fun z => z.1) aoH_2) o_lawful_words) j)
      rw [inSI_nI p1, eJ, lw _ p1]
      exact ⟨fun z => z.1, fun z => ⟨z, p2⟩⟩
    have hR : ∀ x, (∃ i, i < k + 1 ∧ lwf U (nI (pd 32 m i)) ∧ x = dif T (nI (pd 32 m i))) ↔ (∃ i, i < k ∧ lwf U (nI (pd 32 m i)) ∧ x = dif T (nI (pd 32 m i))) ∨ (lwf U (nI (pd 32 m k)) ∧ x = dif T (nI (pd 32 m k))) := fun x => by
      constructor
      · rintro ⟨i, hi, l, e⟩
        by_cases ei : i = k
        · subst ei; exact Or.inr ⟨l, e⟩
        · exact Or.inl ⟨i, by omega, l, e⟩
      · rintro (⟨i, hi, l, e⟩ | ⟨l, e⟩)
        · exact ⟨i, by omega, l, e⟩
        · exact ⟨k, by omega, l, e⟩
    by_cases y : lwf U (nI (pd 32 m k))
    · rw [if_pos (li.mpr y)]
      refine ⟨mI_onceFound ih.1 (low_sub sub_dif lT) (ws _ _ sub_dif fun j => aoH_I (by decide)) (fun x => by rw [hR x]; exact or_congr Iff.rfl ⟨fun z => z.2, fun z => ⟨y, z⟩⟩), ?_⟩
      rw [mS_onceFound, ih.2, cnt_t (P := fun i => lwf U (nI (pd 32 m i))) y, nI_succ, Int32.add_assoc]
    · rw [if_neg (fun z => y (li.mp z))]
      refine ⟨?_, ?_⟩
      · have e : (fun x => ∃ i, i < k + 1 ∧ lwf U (nI (pd 32 m i)) ∧ x = dif T (nI (pd 32 m i))) = (fun x => ∃ i, i < k ∧ lwf U (nI (pd 32 m i)) ∧ x = dif T (nI (pd 32 m i))) := funext fun x => propext (by rw [hR x]; simp [y])
        rw [e]; exact ih.1
      · rw [cnt_f (P := fun i => lwf U (nI (pd 32 m i))) y]; exact ih.2
theorem part_iff {n m : Nat} (hn : n ≤ 14) (lT : low n (w 159)) (hm : m < 16384) : cPart w (nI m) ↔ sub (nI m) (w 159) := by
  unfold cPart
  rw [← sub_iff]
  exact ⟨fun z => z.2, fun z => ⟨⟨nI_pos' (by omega), nI_le (b := 16383) (by omega) (by decide)⟩, z⟩⟩
/-- the class's answer is the model's -/
theorem ao_most {m : Nat} {T : Int32} (q : wX w n s t h) (eT : T = w 159) (em : fallA (aU w (lawOf w)) (w 159) = nI m) (hm : m < 2 ^ n) (q1 : mI (fun x => nwt w x n) (fun x => ∃ i, i < 2 ^ pcn 32 m ∧ lwf (aU w (lawOf w)) (nI (pd 32 m i)) ∧ x = dif T (nI (pd 32 m i))) g o_onceFound) (q2 : hI g o_onceFound 3 = nI (cnt (fun i => lwf (aU w (lawOf w)) (nI (pd 32 m i))) (2 ^ pcn 32 m))) : moX w n (tmF w n (tkPr w (aU w (lawOf w)) false) (2 ^ n)) o_onceFound g := by
  subst eT
  obtain ⟨-, lT, hn⟩ := wX_T q
  have h14 := pow14 hn
  have m14 : m < 2 ^ 14 := by omega
  have mo := Umo_aU (L := lawOf w) q.2.2.1
  have cT : sub (nI m) (w 159) := by rw [← em]; exact it_sub 22 _
  have tk : ∀ k, k < 2 ^ n → (tkPr w (aU w (lawOf w)) false k ↔ sub (nI k) (w 159) ∧ lwf (aU w (lawOf w)) (dif (w 159) (nI k))) := fun k hk => by
    unfold tkPr comQ
    rw [part_iff hn lT (by omega)]
    exact ⟨fun z => ⟨z.1, z.2.2 rfl⟩, fun z => ⟨z.1, (fun y => by cases y), fun _ => z.2⟩⟩
  -- the same sets
  have same : ∀ x, (∃ i, i < 2 ^ pcn 32 m ∧ lwf (aU w (lawOf w)) (nI (pd 32 m i)) ∧ x = dif (w 159) (nI (pd 32 m i))) ↔ ∃ k, k < 2 ^ n ∧ tkPr w (aU w (lawOf w)) false k ∧ x = nI k := fun x => by
    constructor
    · rintro ⟨i, hi, l, e⟩
      obtain ⟨k, hk, ek⟩ := low_nI (by omega) (low_sub (sub_dif (t := nI (pd 32 m i))) lT)
      refine ⟨k, hk, (tk k hk).mpr ?_, e.trans ek⟩
      rw [← ek]
      refine ⟨sub_dif, ?_⟩
      rw [dif_dif (sub_t (pd_sub m14).2 cT)]; exact l
    · rintro ⟨k, hk, p, rfl⟩
      obtain ⟨p1, p2⟩ := (tk k hk).mp p
      obtain ⟨j, hj, ej⟩ := low_nI (by omega) (low_sub (sub_dif (t := nI k)) lT)
      have sc : sub (nI j) (nI m) := by rw [← ej, ← em]; exact fall_sub_core mo sub_dif p2
      obtain ⟨g1, g2⟩ := pd_of (by omega) m14 sc
      refine ⟨pe 32 m j, g1, by rw [g2, ← ej]; exact p2, ?_⟩
      rw [g2, ← ej, dif_dif p1]
  have cn : cnt (fun i => lwf (aU w (lawOf w)) (nI (pd 32 m i))) (2 ^ pcn 32 m) = cnt (tkPr w (aU w (lawOf w)) false) (2 ^ n) := by
    refine cnt_bij (fun i => (dif (w 159) (nI (pd 32 m i))).toNatClampNeg) (fun k => pe 32 m (dif (w 159) (nI k)).toNatClampNeg) (fun i hi l => ?_) (fun k hk p => ?_)
    · obtain ⟨k, hk, ek⟩ := low_nI (by omega) (low_sub (sub_dif (t := nI (pd 32 m i))) lT)
      have sT := sub_t (pd_sub (i := i) m14).2 cT
      have dd := dif_dif sT
      rw [ek] at dd
      rw [ek, nI_clamp (by omega)]
      refine ⟨hk, (tk k hk).mpr ⟨by rw [← ek]; exact sub_dif, by rw [dd]; exact l⟩, ?_⟩
      rw [dd, nI_clamp (by have := (pd_sub (i := i) m14).1; omega), pe_pd (Nat.lt_of_lt_of_le m14 (by decide)) hi]
    · obtain ⟨p1, p2⟩ := (tk k hk).mp p
      obtain ⟨j, hj, ej⟩ := low_nI (by omega) (low_sub (sub_dif (t := nI k)) lT)
      have sc : sub (nI j) (nI m) := by rw [← ej, ← em]; exact fall_sub_core mo sub_dif p2
      obtain ⟨g1, g2⟩ := pd_of (by omega) m14 sc
      rw [ej, nI_clamp (by omega)]
      refine ⟨g1, by rw [g2, ← ej]; exact p2, ?_⟩
      rw [g2, ← ej, dif_dif p1, nI_clamp (by omega)]
  have be := tmF_best (w := w) (n := n) (P := tkPr w (aU w (lawOf w)) false) (2 ^ n) h14
  unfold moX
  rw [tmF_cnt, ← cn]
  rcases q1 with ⟨a1, a2, a3, no⟩ | ⟨b, b1, b2, b3, b4⟩
  · have e : (tmF w n (tkPr w (aU w (lawOf w)) false) (2 ^ n)).1 = -1 := by
      rcases be with ⟨e, -⟩ | bb
      · exact e
      · exact absurd ((same _).mpr bb.1) (no _)
    rw [e, if_pos rfl, if_pos rfl]
    exact ⟨a2, a3, a1, q2⟩
  · rcases be with ⟨-, no⟩ | bb
    · obtain ⟨k, hk, p, -⟩ := (same b).mp b2.1
      exact absurd p (no k hk)
    · have e := best_one b2 (best_cg bb fun x => (same x).symm)
      obtain ⟨k, hk, -, ek⟩ := bb.1
      have ne : ¬ (tmF w n (tkPr w (aU w (lawOf w)) false) (2 ^ n)).1 = -1 := by rw [ek]; exact nI_m1 (by omega)
      rw [if_neg ne, if_neg ne, ← e, ones_sz]
      exact ⟨b3, b4, b1, q2⟩
end T91
