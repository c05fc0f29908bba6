/-! winters -/
section T25
variable {cx : Cx} {d a : Nat} {h g : Hp}
theorem wI_self {o k : Nat} : wI h o k (hI h o k) = h := by
  unfold wI
  have : up2 h.1 o k (hI h o k) = h.1 := by
    funext p q
    unfold up2
    by_cases h1 : p = o <;> by_cases h2 : q = k <;> simp [h1, h2]
  rw [this]
theorem lo_cong (e1 : ∀ k, hI g o_fr_beside k = hI h o_fr_beside k) (e2 : ∀ k, hI g o_fr_lack k = hI h o_fr_lack k) {s : Int32} {k : Nat} : lo g s k ↔ lo h s k := by unfold lo; rw [e1, e2]
theorem uns_cong (e1 : ∀ k, hI g o_fr_beside k = hI h o_fr_beside k) (e2 : ∀ k, hI g o_fr_lack k = hI h o_fr_lack k) {s : Int32} : uns g s = uns h s := by
  have key : ∀ n, unsR g s n = unsR h s n := by
    intro n
    induction n with
    | zero => rfl
    | succ n ih =>
      rcases Classical.em (lo h s n) with c | c
      · rw [unsR_t c, unsR_t ((lo_cong e1 e2).mpr c), ih]
      · rw [unsR_f c, unsR_f (fun z => c ((lo_cong e1 e2).mp z)), ih]
  exact key 22
theorem setR_cong (e1 : ∀ k, hI g o_fr_beside k = hI h o_fr_beside k) (e2 : ∀ k, hI g o_fr_lack k = hI h o_fr_lack k) : ∀ (n : Nat) (s : Int32), setR g n s = setR h n s := by
  intro n
  induction n with
  | zero => intro s; rfl
  | succ n ih =>
    intro s
    have e := uns_cong (g := g) (h := h) e1 e2 (s := s)
    by_cases c : uns h s = 0
    · rw [setR_0 c, setR_0 (by rw [e]; exact c)]
    · rw [setR_s c, setR_s (by rw [e]; exact c), e, ih]
theorem lawfulS_cong (e1 : ∀ k, hI g o_fr_beside k = hI h o_fr_beside k) (e2 : ∀ k, hI g o_fr_lack k = hI h o_fr_lack k) {s : Int32} : lawfulS g s ↔ lawfulS h s := by
  unfold lawfulS; simp only [lo_cong e1 e2]
def drawX (s : Int32) : Int32 := ((s.toInt64 * kl 1103 0 + kl 12345 0) - (s.toInt64 * kl 1103 0 + kl 12345 0) / kl 1000003 0 * kl 1000003 0).toInt32
/-- a draw's new seed; hidden, so that no check computes with it -/
theorem drawS_ex (s : Int32) : ∃ v, v = drawX s := ⟨_, rfl⟩
noncomputable def drawS (s : Int32) : Int32 := Classical.choose (drawS_ex s)
theorem drawS_eq (s : Int32) : drawS s = drawX s := Classical.choose_spec (drawS_ex s)
theorem kl_ne : ¬ kl 1000003 0 = 0 := by
  intro e
  have e1 : (lN 1000003).toInt = ((1000003 : Nat) : Int) := lN_toInt (n := 1000003) (by omega)
  have e2 : lN 1000003 = 0 := e
  rw [e2] at e1
  have e3 : (0 : Int64).toInt = 0 := Int64.toInt_zero
  omega
theorem h_ne : ¬ (100 : Int32) = 0 := by decide
theorem h_le : ¬ (100 : Int32) ≤ 0 := by decide
def remX (s : Int32) : Int32 := s - s / 100 * 100
theorem rem100_ex (s : Int32) : ∃ v, v = remX s := ⟨_, rfl⟩
noncomputable def rem100 (s : Int32) : Int32 := Classical.choose (rem100_ex s)
theorem rem100_eq (s : Int32) : rem100 s = remX s := Classical.choose_spec (rem100_ex s)
theorem m_draw : M cx jX6_draw d a [.ref o_seasons, .int 100] h (RQ (.int (rem100 (drawS (hI h o_seasons 2)))) (wI h o_seasons 2 (drawS (hI h o_seasons 2)))) := by
  have e : remX (hI (wI h o_seasons 2 (drawX (hI h o_seasons 2))) o_seasons 2) = remX (drawX (hI h o_seasons 2)) := by rw [rd_same]
  rw [rem100_eq, drawS_eq]
  exact sX6_draw rfl (And.intro kl_ne (And.intro (fun z => absurd z h_le) (fun _ => And.intro h_ne (eX6_draw (RQ_eq e)))))
/-- taken by frost among the first stones, and the seed then -/
noncomputable def frS (h : Hp) (s seed : Int32) : Nat → Int32 × Int32
  | 0 => (0, seed)
  | k + 1 => if (s >>> (nI k &&& 31)) &&& 1 = 0 then frS h s seed k else (if rem100 (drawS (frS h s seed k).2) < fFact h (nI k) 6 then (frS h s seed k).1 ||| ((1 : Int32) <<< (nI k &&& 31)) else (frS h s seed k).1, drawS (frS h s seed k).2)
theorem m_frozen (hd : 1 ≤ d) {s : Int32} : M cx jX6_frozen d a [.ref o_seasons, .ref o_wall, .int s] h (RQ (.int (frS h s (hI h o_seasons 2) 14).1) (wI h o_seasons 2 (frS h s (hI h o_seasons 2) 14).2)) := by
  have loop : ∀ n k, n + k = 14 → E cx jX6_frozen d a 5 [some (.ref o_seasons), some (.ref o_wall), some (.int s), some (.int (frS h s (hI h o_seasons 2) k).1), some (.int (nI k))] [] (wI h o_seasons 2 (frS h s (hI h o_seasons 2) k).2) (RQ (.int (frS h s (hI h o_seasons 2) 14).1) (wI h o_seasons 2 (frS h s (hI h o_seasons 2) 14).2)) := by
    intro n
    induction n with
    | zero =>
      intro k hk
      obtain rfl : k = 14 := by omega
      exact eX6_frozen (And.intro (fun _ => eX6_frozen (RQ_eq rfl)) (fun q => absurd (nI_le (a := 14) (b := 14) (Nat.le_refl _) (by decide)) q))
    | succ n ih =>
      intro k hk
      have go : ∀ u g, (frS h s (hI h o_seasons 2) (k + 1)).1 = u → wI h o_seasons 2 (frS h s (hI h o_seasons 2) (k + 1)).2 = g → E cx jX6_frozen d a 45 [some (.ref o_seasons), some (.ref o_wall), some (.int s), some (.int u), some (.int (nI k))] [] g (RQ (.int (frS h s (hI h o_seasons 2) 14).1) (wI h o_seasons 2 (frS h s (hI h o_seasons 2) 14).2)) := fun u g eu eg => by
        subst eu; subst eg
        refine eX6_frozen (e_eq (ih (k + 1) (by omega)) ?_ rfl rfl)
        rw [nI_succ]; rfl
      have ef : ∀ (u v w : Int32) (x : Int32), fFact (wI (wI h o_seasons 2 u) o_seasons 2 v) w x = fFact h w x := fun u v w x => fFact_cong (fun _ => by rw [rd_o (by decide), rd_o (by decide)]) w x
      refine eX6_frozen (And.intro (fun q => absurd q (nI_ge (a := k) (b := 14) (by omega) (by decide))) (fun _ => And.intro (fun q => go _ _ ?_ ?_) (fun q => wcV m_draw (wcV m_fact (And.intro (fun q2 => go _ _ ?_ ?_) (fun q2 => go _ _ ?_ ?_))))))
      · rw [frS, if_pos q]
      · rw [frS, if_pos q]
      · have q2 := Int32.not_lt.mpr q2; rw [ef, rd_same] at q2
        rw [frS, if_neg q, if_neg q2]
      · rw [frS, if_neg q, rd_same, wI_wI]
      · have q2 := Int32.not_le.mp q2; rw [ef, rd_same] at q2
        rw [frS, if_neg q, if_pos q2]
      · rw [frS, if_neg q, rd_same, wI_wI]
  have := loop 14 0 rfl
  have e0 : wI h o_seasons 2 (frS h s (hI h o_seasons 2) 0).2 = h := wI_self
  rw [e0] at this
  exact sX6_frozen rfl this
/-- which stone goes back, and how few do not stand then -/
noncomputable def tpR (h : Hp) (s w : Int32) : Nat → Int32 × Int32
  | 0 => (0, 23)
  | k + 1 => if ¬ (((1 : Int32) <<< (nI k &&& 31)) &&& w) = 0 ∧ bcw (uns h (s ||| (((1 : Int32) <<< (nI k &&& 31)) &&& w))) < (tpR h s w k).2 then (((1 : Int32) <<< (nI k &&& 31)) &&& w, bcw (uns h (s ||| (((1 : Int32) <<< (nI k &&& 31)) &&& w)))) else tpR h s w k
theorem m_toPutBack (hd : 2 ≤ d) {s w : Int32} : M cx jX6_toPutBack d a [.ref o_frame, .int s, .int w] h (RQ (.int (tpR h s w 14).1) h) := by
  have loop : ∀ n k, n + k = 14 → E cx jX6_toPutBack d a 9 [some (.ref o_frame), some (.int s), some (.int w), some (.int (tpR h s w k).1), some (.int (tpR h s w k).2), some (.int (nI k)), none, none] [] h (RQ (.int (tpR h s w 14).1) h) := by
    intro n
    induction n with
    | zero =>
      intro k hk
      obtain rfl : k = 14 := by omega
      exact eX6_toPutBack (And.intro (fun _ => eX6_toPutBack (RQ_eq rfl)) (fun q => absurd (nI_le (a := 14) (b := 14) (Nat.le_refl _) (by decide)) q))
    | succ n ih =>
      intro k hk
      have go : ∀ u v x y, tpR h s w (k + 1) = (u, v) → E cx jX6_toPutBack d a 56 [some (.ref o_frame), some (.int s), some (.int w), some (.int u), some (.int v), some (.int (nI k)), x, y] [] h (RQ (.int (tpR h s w 14).1) h) := fun u v x y e => by
        have i1 := ih (k + 1) (by omega)
        rw [e] at i1
        refine e_clr 6 (e_clr 7 (eX6_toPutBack (e_eq i1 ?_ rfl rfl)))
        rw [nI_succ]; rfl
      refine eX6_toPutBack (And.intro (fun q => absurd q (nI_ge (a := k) (b := 14) (by omega) (by decide))) (fun _ => wcV (m_unsteady (by omega)) (wcS m_bitCount (And.intro (fun q => go _ _ _ _ ?_) (fun q => And.intro (fun q2 => go _ _ _ _ ?_) (fun q2 => go _ _ _ _ ?_))))))
      · rw [tpR, if_neg (fun z => z.1 q)]
      · rw [tpR, if_neg (fun z => absurd z.2 (Int32.not_lt.mpr q2))]
      · rw [tpR, if_pos ⟨q, Int32.not_le.mp q2⟩]
  exact sX6_toPutBack rfl (loop 14 0 rfl)
/-- the stones that are there behind winter i, and the seed then -/
noncomputable def psR (h : Hp) (seed : Int32) : Nat → Int32 × Int32
  | 0 => (hI h o_wall 5, seed)
  | i + 1 =>
    let f := frS h (psR h seed i).1 (psR h seed i).2 14
    let t := setR h 22 ((psR h seed i).1 &&& (f.1 ^^^ -1))
    (t ||| (tpR h t (((1 <<< (hI h o_wall 3 &&& 31)) - 1) &&& (t ^^^ -1)) 14).1, f.2)
noncomputable def psH (h : Hp) (seed : Int32) (many : Nat) : Nat → Hp
  | 0 => wI (wI h o_seasons 2 seed) o_seasons 1 (nI many)
  | i + 1 => wI (wI (psH h seed many i) o_seasons 2 (psR h seed (i + 1)).2) o_se_left i (psR h seed (i + 1)).1
theorem psH_o {seed : Int32} {many i o k : Nat} (h1 : o ≠ 101) (h2 : o ≠ 102) : hI (psH h seed many i) o k = hI h o k := by
  induction i with
  | zero => unfold psH; rw [rd_o h1, rd_o h1]
  | succ i ih => unfold psH; rw [rd_o h2, rd_o h1, ih]
theorem psH_many {seed : Int32} {many i : Nat} : hI (psH h seed many i) o_seasons 1 = nI many := by
  induction i with
  | zero => unfold psH; rw [rd_same]
  | succ i ih => unfold psH; rw [rd_o (by decide), rd_k (by decide), ih]
theorem psH_seed {seed : Int32} {many i : Nat} : hI (psH h seed many i) o_seasons 2 = (psR h seed i).2 := by
  cases i with
  | zero => unfold psH psR; rw [rd_k (by decide), rd_same]
  | succ i => unfold psH; rw [rd_o (by decide), rd_same]
theorem psH_N {seed : Int32} {many i : Nat} : (psH h seed many i).2 = h.2 := by
  induction i with
  | zero => rfl
  | succ i ih => exact ih
theorem frS_cong (e : ∀ k, hI g o_wall_facts k = hI h o_wall_facts k) {s seed : Int32} : ∀ n, frS g s seed n = frS h s seed n := by
  intro n
  induction n with
  | zero => rfl
  | succ n ih => rw [frS, frS, ih, fFact_cong e]
theorem tpR_cong (e1 : ∀ k, hI g o_fr_beside k = hI h o_fr_beside k) (e2 : ∀ k, hI g o_fr_lack k = hI h o_fr_lack k) {s w : Int32} : ∀ n, tpR g s w n = tpR h s w n := by
  intro n
  induction n with
  | zero => rfl
  | succ n ih => rw [tpR, tpR, ih, uns_cong e1 e2]
theorem m_pass (hd : 4 ≤ d) {seed : Int32} {many : Nat} {m : Int32} (em : m = nI many) (hm : many ≤ 40) : M cx jX6_pass d a [.ref o_seasons, .ref o_wall, .ref o_frame, .int seed, .int m] h (RQ (.int (bcw (psR h seed many).1)) (psH h seed many many)) := by
  subst em
  have loop : ∀ n i, n + i = many → E cx jX6_pass d a 25 [some (.ref o_seasons), some (.ref o_wall), some (.ref o_frame), some (.int seed), some (.int (nI many)), some (.int (psR h seed i).1), some (.int (nI i))] [] (psH h seed many i) (RQ (.int (bcw (psR h seed many).1)) (psH h seed many many)) := by
    intro n
    induction n with
    | zero =>
      intro i hi
      obtain rfl : i = many := by omega
      refine eX6_pass (And.intro (fun _ => eX6_pass (wcS m_bitCount ⟨rfl, rfl⟩)) (fun q => absurd ?_ q))
      rw [psH_many]; exact nI_le (Nat.le_refl _) (by omega)
    | succ n ih =>
      intro i hi
      have f1 : ∀ k, hI (wI (psH h seed many i) o_seasons 2 (psR h seed (i + 1)).2) o_fr_beside k = hI h o_fr_beside k := fun k => by rw [rd_o (by decide), psH_o (by decide) (by decide)]
      have f2 : ∀ k, hI (wI (psH h seed many i) o_seasons 2 (psR h seed (i + 1)).2) o_fr_lack k = hI h o_fr_lack k := fun k => by rw [rd_o (by decide), psH_o (by decide) (by decide)]
      have f3 : ∀ k, hI (psH h seed many i) o_wall_facts k = hI h o_wall_facts k := fun k => psH_o (by decide) (by decide)
      have ef : frS (psH h seed many i) (psR h seed i).1 (hI (psH h seed many i) o_seasons 2) 14 = frS h (psR h seed i).1 (psR h seed i).2 14 := by rw [frS_cong f3, psH_seed]
      have es : (psR h seed (i + 1)).2 = (frS h (psR h seed i).1 (psR h seed i).2 14).2 := by rw [psR]
      have eh : wI (psH h seed many i) o_seasons 2 (frS (psH h seed many i) (psR h seed i).1 (hI (psH h seed many i) o_seasons 2) 14).2 = wI (psH h seed many i) o_seasons 2 (psR h seed (i + 1)).2 := by rw [ef, es]
      have c1 : (nI i).toNatClampNeg = i := nI_clamp (by omega)
      refine eX6_pass (And.intro (fun q => absurd q ?_) (fun _ => wcV (m_frozen (by omega)) (wp_hp eh (wcV (m_settled (by omega)) (wcV m_allStones (wcS (m_toPutBack (by omega)) (And.intro (vp_in_nI (N := 40) (by omega) (by decide)) (e_eq (ih (i + 1) (by omega)) ?_ rfl ?_))))))))
      · rw [psH_many]; exact nI_ge (by omega) (by omega)
      · have ea : hI (wI (psH h seed many i) o_seasons 2 (psR h seed (i + 1)).2) o_wall 3 = hI h o_wall 3 := by rw [rd_o (by decide), psH_o (by decide) (by decide)]
        rw [ef, setR_cong f1 f2, tpR_cong f1 f2, ea, nI_succ, psR]; rfl
      · have ea : hI (wI (psH h seed many i) o_seasons 2 (psR h seed (i + 1)).2) o_wall 3 = hI h o_wall 3 := by rw [rd_o (by decide), psH_o (by decide) (by decide)]
        rw [ef, setR_cong f1 f2, tpR_cong f1 f2, ea, psH]
        refine (wIc c1).trans ?_
        rw [psR]; rfl
  refine sX6_pass rfl (And.intro ⟨Nat.le_of_ble_eq_true rfl, by omega⟩ (e_eq (loop many 0 (by omega)) ?_ rfl ?_))
  · have e : hI (wI (wI h o_seasons 2 seed) o_seasons 1 (if nI many < 40 then nI many else 40)) o_wall 5 = hI h o_wall 5 := by rw [rd_o (by decide), rd_o (by decide)]
    show [_, _, _, _, _, some (Value.int (hI (wI (wI h o_seasons 2 seed) o_seasons 1 (if nI many < 40 then nI many else 40)) o_wall 5)), _] = _
    rw [e]; rfl
  · show wI (wI h o_seasons 2 seed) o_seasons 1 (if nI many < 40 then nI many else 40) = _
    have e : (if nI many < 40 then nI many else 40) = nI many := by
      by_cases c : many < 40
      · exact if_pos (nI_lt (b := 40) c (by decide))
      · have : many = 40 := by omega
        subst this; decide
    rw [e]; rfl
theorem m_leftBehind (hd : 1 ≤ d) {i : Int32} {many : Nat} (em : hI h o_seasons 1 = nI many) (hm : many ≤ 40) : M cx jX6_leftBehind d a [.ref o_seasons, .int i] h (RQ (.int (if 0 ≤ i ∧ i < nI many then hI h o_se_left i.toNatClampNeg else -1)) h) := by
  have ei : (0 ≤ i ∧ i ≤ hI h o_seasons 1 - 1) ↔ (0 ≤ i ∧ i < nI many) := by
    rw [em]
    have e1 : (nI many - 1).toInt = (many : Int) - 1 := by
      have := pk_sub_toInt (a := many) (b := 1) (by omega) (by decide)
      exact this
    rw [show (i ≤ nI many - 1) ↔ i.toInt ≤ (nI many - 1).toInt from Int32.le_iff_toInt_le, Int32.lt_iff_toInt_lt, e1, nI_toInt (by omega)]
    constructor
    · rintro ⟨x, y⟩; exact ⟨x, by omega⟩
    · rintro ⟨x, y⟩; exact ⟨x, by omega⟩
  refine sX6_leftBehind rfl (wcS m_isWithin (And.intro (fun z => eX6_leftBehind (eX6_leftBehind (RQ_eq ?_))) (fun z => And.intro (fun q => eX6_leftBehind (eX6_leftBehind (RQ_eq ?_))) (fun q => And.intro ?_ (eX6_leftBehind (RQ_eq ?_))))))
  · rw [if_neg (fun y => b2i_0.mp z (ei.mpr y))]
  · rw [if_neg (fun y => ?_)]
    have h1 := Int32.lt_iff_toInt_lt.mp y.2
    have h2 := Int32.le_iff_toInt_le.mp q
    rw [nI_toInt (by omega)] at h1
    have e : (40 : Int32).toInt = 40 := rfl
    omega
  · have y := b2i_n z
    show vp_in i 40
    rw [vp_in_iff]
    have h1 := Int32.le_iff_toInt_le.mp y.1
    have h2 := Int32.lt_iff_toInt_lt.mp (Int32.not_le.mp q)
    have e0 : (0 : Int32).toInt = 0 := rfl
    have e : (40 : Int32).toInt = 40 := rfl
    omega
  · rw [if_pos (ei.mp (b2i_n z))]; rfl
end T25
