/-! the model: night -/
section T73
variable {cx : Cx} {d a c : Nat} {h g f : Hp} {w : Wd}
theorem n_night_no (hd : 2 ≤ d) {s q : Int32} (no : ¬ (cPart (kW h) s ∧ 0 ≤ q ∧ q ≤ 3)) : M cx jX12_night d a [.ref o_m, .int s, .int q] h (RQ (.int (-1)) h) :=
  sX12_night rfl (wcV (n_areThere (by omega)) (And.intro (fun q1 => (eX12_night ⟨rfl, rfl⟩)) (fun q1 => (wcS n_lies (And.intro (fun q2 => absurd ⟨b2i_n q1, b2i_n q2⟩ no) (fun q2 => (eX12_night ⟨rfl, rfl⟩)))))))
theorem ite_m1 (x : Int32) : (if x = -1 then -1 else x) = x := by
  by_cases e : x = -1
  · rw [if_pos e, e]
  · rw [if_neg e]
theorem fst_skip {P : Nat → Prop} {m : Nat} (hm : m < 2 ^ 30) (z : ¬ P m) : fst P (m + 1) 0 = fst P m 0 := by
  rw [fst_app hm, if_neg z, ite_m1]
theorem prA_lt {U : Int32 → Int32} {T s : Int32} {i : Nat} : cnt (prA U T s i) (i + 1) = 0 := by
  have : ∀ m, m ≤ i + 1 → cnt (prA U T s i) m = 0 := by
    intro m
    induction m with
    | zero => intro _; rfl
    | succ m ih => intro hm; rw [cnt_f (fun z => by have := z.1; omega)]; exact ih (by omega)
  exact this _ (Nat.le_refl _)
theorem prA_no {U : Int32 → Int32} {T s : Int32} {i : Nat} (z : ¬ bt T i = true) (n : Nat) : cnt (prA U T s i) n = 0 := by
  induction n with
  | zero => rfl
  | succ n ih => rw [cnt_f (fun y => z y.2.1)]; exact ih
theorem fB2_i {U : Int32 → Int32} {T s : Int32} {i : Nat} : fB2 U T s i (i + 1) = -1 := by
  unfold fB2; rw [if_pos (fst_no (i + 1) 0 (fun j _ hj z => by have := z.1; omega))]
theorem fB2_no {U : Int32 → Int32} {T s : Int32} {i : Nat} (z : ¬ bt T i = true) (n : Nat) : fB2 U T s i n = -1 := by
  unfold fB2; rw [if_pos (fst_no n 0 (fun j _ _ y => z y.2.1))]
theorem prB_ne {i k : Nat} (hi : i < 14) (hk : k < 14) : ¬ prB i k = -1 := fun z => by
  have : bt (prB i k) 31 = bt (-1) 31 := by rw [z]
  rw [b_m1 31 (by decide)] at this
  unfold prB at this
  rw [b_or, bt_one (by omega) (by decide), bt_one (by omega) (by decide)] at this
  simp at this; omega
theorem fB2_s {U : Int32 → Int32} {T s : Int32} {i b : Nat} (hb : b < 2 ^ 30) (hi : i < 14) (hb14 : b ≤ 14) : fB2 U T s i (b + 1) = if fB2 U T s i b = -1 then @ite _ (prA U T s i b) (Classical.propDecidable _) (prB i b) (-1) else fB2 U T s i b := by
  unfold fB2
  by_cases e : fst (prA U T s i) b 0 = -1
  · rw [if_pos (show (if fst (prA U T s i) b 0 = -1 then (-1 : Int32) else prB i (fst (prA U T s i) b 0).toNatClampNeg) = -1 from if_pos e), fst_app hb, if_pos e]
    by_cases p : prA U T s i b
    · rw [if_pos p, if_neg (nI_m1 (by omega)), if_pos p, nI_clamp (by omega)]
    · rw [if_neg p, if_pos rfl, if_neg p]
  · obtain ⟨j, h1, h2, h3, h4, h5⟩ := fst_some b 0 e
    have e2 : ¬ (if fst (prA U T s i) b 0 = -1 then (-1 : Int32) else prB i (fst (prA U T s i) b 0).toNatClampNeg) = -1 := by
      rw [if_neg e, h3, nI_clamp (by omega)]; exact prB_ne hi (by omega)
    rw [if_neg e2, fst_app hb, if_neg e, if_neg e]
theorem n_night_ok (hd : 63 ≤ d) {n : Nat} {s q : Int32} (eW : kW h = w) (wf : wfW w) (cc : mC c w h) (en : w 157 = nI n) (hn : n ≤ 14) (lT : low n (w 159)) (hs : cPart w s) (hq : 0 ≤ q ∧ q ≤ 3) : M cx jX12_night d a [.ref o_m, .int s, .int q] h (qM c w h (nigA (aU w (lawOf w)) (w 159) s n q)) := by
  refine sX12_night rfl (wcV (n_areThere (by omega)) (And.intro (fun q1 => absurd (by rw [eW]; exact hs) (b2i_0.mp q1)) (fun q1 => (wcS n_lies (And.intro (fun q2 => (eX12_night (wcQ (n_sets (by omega) eW wf cc en hn lT) (fun v G z => ?_) (fun v G z => keepM_N z.2.1)))) (fun q2 => absurd hq (b2i_0.mp q2)))))))
  obtain ⟨rfl, kM, cG, lk, st⟩ := z
  have eG : kW G = w := (keepM_W kM).trans eW
  have eT : hI G (ly_rf o_m 3) (159 : Int32).toNatClampNeg = w 159 := by show kW G 159 = _; rw [eG]
  have h14 := pow14 hn
  generalize eU : aU w (lawOf w) = U at st
  generalize eT2 : w 159 = T at lT eT
  have st : ∀ m, m < 2 ^ n → hI G o_m_fallTo m = fallA U (nI m) := fun m hm => by
    obtain ⟨t1, t2, t3, t4⟩ := st n en hn m hm
    rw [eU] at t2
    exact t2
  have tab : ∀ x, vp_in (dif T x) 16384 ∧ hI G (ly_rf o_m 29) (dif T x).toNatClampNeg = fallA U (dif T x) := fun x => by
    obtain ⟨j, hj, ej⟩ := low_nI (by omega) (low_sub (sub_dif (t := x)) lT)
    rw [ej, nI_clamp (by omega)]; exact ⟨vp_in_nI (by omega) (by decide), st j hj⟩
  have fin : ∀ r, r = nigA U T s n q → qM c w h (nigA U T s n q) (some (.int r)) G := fun r e => ⟨by rw [e], kM, cG⟩
  -- the inner loop
  have inner : ∀ (Q : Option Value → Hp → Prop) (i : Nat) (x4 x5 : Int32), i < n → bt T i = true → (∀ l10, E cx jX12_night d a 180 [some (.ref o_m), some (.int s), some (.int q), some (.int T), some (.int x4), some (.int x5), some (.int (nI (cP2 U T s n (i + 1)))), some (.int (fP2 U T s n (i + 1))), some (.int (nI i)), some (.int (nI n)), l10] [] G Q) →
      ∀ m b, m + b = n → i < b → ∀ l10, E cx jX12_night d a 109 [some (.ref o_m), some (.int s), some (.int q), some (.int T), some (.int x4), some (.int x5), some (.int (nI (cP2 U T s n i + cnt (prA U T s i) b))), some (.int (if fP2 U T s n i = -1 then fB2 U T s i b else fP2 U T s n i)), some (.int (nI i)), some (.int (nI b)), l10] [] G Q := by
    intro Q i x4 x5 hi bi K m
    induction m with
    | zero =>
      intro b hb hib l10
      obtain rfl : b = n := by omega
      exact eX12_night (wcV (st_of en eG) (And.intro (fun _ => K l10) (fun z => absurd (Int32.le_refl _) z)))
    | succ m ih =>
      intro b hb hib l10
      have k := ih (b + 1) (by omega) (by omega)
      rw [nI_succ, fB2_s (by omega) (by omega) (by omega)] at k
      have next : ∀ l10, ¬ prA U T s i b → E cx jX12_night d a 174 [some (.ref o_m), some (.int s), some (.int q), some (.int T), some (.int x4), some (.int x5), some (.int (nI (cP2 U T s n i + cnt (prA U T s i) b))), some (.int (if fP2 U T s n i = -1 then fB2 U T s i b else fP2 U T s n i)), some (.int (nI i)), some (.int (nI b)), l10] [] G Q := fun l10 z => by
        have k := k l10
        rw [cnt_f z] at k
        refine eX12_night (e_eq k ?_ rfl rfl)
        by_cases e1 : fP2 U T s n i = -1
        · by_cases e2 : fB2 U T s i b = -1
          · rw [if_pos e1, if_pos e1, if_pos e2, if_neg z, e2]; rfl
          · rw [if_pos e1, if_pos e1, if_neg e2]; rfl
        · rw [if_neg e1, if_neg e1]; rfl
      have j172 : ∀ l10 v, prA U T s i b → v = (if fP2 U T s n i = -1 then (if fB2 U T s i b = -1 then prB i b else fB2 U T s i b) else fP2 U T s n i) → E cx jX12_night d a 172 [some (.ref o_m), some (.int s), some (.int q), some (.int T), some (.int x4), some (.int x5), some (.int (nI (cP2 U T s n i + cnt (prA U T s i) b) + 1)), some (.int (if fP2 U T s n i = -1 then fB2 U T s i b else fP2 U T s n i)), some (.int (nI i)), some (.int (nI b)), l10] [.int v] G Q := fun l10 v y ev => by
        have k := k l10
        rw [cnt_t y, if_pos y, ← Nat.add_assoc, nI_succ, ← ev] at k
        exact eX12_night (eX12_night k)
      refine eX12_night (wcV (st_of en eG) (And.intro (fun z => absurd z (nI_ge (by omega) (by omega))) (fun _ => (wcS n_isIn (And.intro (fun q2 => next _ fun z => b2i_0.mp q2 ((inB_bt (by omega)).mpr z.2.2.1)) (fun q2 => ?_))))))
      obtain ⟨t1, t2⟩ := tab (prB i b)
      refine (And.intro t1 (And.intro (fun q3 => (eX12_night (And.intro (fun q4 => (eX12_night (j172 _ _ ?_ ?_))) (fun q4 => (j172 _ _ ?_ ?_))))) (fun q3 => next _ fun z => q3 (t2.trans z.2.2.2))))
      · exact ⟨hib, bi, (inB_bt (by omega)).mp (b2i_n q2), t2.symm.trans q3⟩
      · by_cases e1 : fP2 U T s n i = -1
        · rw [if_pos e1] at q4 ⊢
          rw [if_pos e1, if_neg q4]
        · rw [if_neg e1, if_neg e1]
      · exact ⟨hib, bi, (inB_bt (by omega)).mp (b2i_n q2), t2.symm.trans q3⟩
      · by_cases e1 : fP2 U T s n i = -1
        · rw [if_pos e1] at q4
          rw [if_pos e1, if_pos q4]; rfl
        · rw [if_neg e1] at q4; exact absurd q4 e1
  have loop : ∀ m i, m + i = n → ∀ l9 l10, E cx jX12_night d a 47 [some (.ref o_m), some (.int s), some (.int q), some (.int T), some (.int (nI (cnt (sgA U T s) i))), some (.int (fst (sgA U T s) i 0)), some (.int (nI (cP2 U T s n i))), some (.int (fP2 U T s n i)), some (.int (nI i)), l9, l10] [] G (qM c w h (nigA U T s n q)) := by
    intro m
    induction m with
    | zero =>
      intro i hi l9 l10
      obtain rfl : i = n := by omega
      refine eX12_night (wcV (st_of en eG) (And.intro (fun _ => ?_) (fun z => absurd (Int32.le_refl _) z)))
      refine eX12_night (And.intro (fun q1 => (eX12_night (And.intro (fun q2 => (eX12_night (And.intro (fun q3 => (eX12_night (eX12_night (fin _ ?_)))) (fun q3 => (eX12_night (fin _ ?_)))))) (fun q2 => (eX12_night (fin _ ?_)))))) (fun q1 => (eX12_night (fin _ ?_))))
      · unfold nigA; rw [if_neg q1, if_neg q2, if_neg q3]
      · unfold nigA; rw [if_neg q1, if_neg q2, if_pos q3]
      · unfold nigA; rw [if_neg q1, if_pos q2]
      · unfold nigA; rw [if_pos q1]
    | succ m ih =>
      intro i hi l9 l10
      have k := ih (i + 1) (by omega)
      rw [nI_succ] at k
      have j103 : bt T i = true → ∀ l9 l10 x4 x5, x4 = nI (cnt (sgA U T s) (i + 1)) → x5 = fst (sgA U T s) (i + 1) 0 → E cx jX12_night d a 103 [some (.ref o_m), some (.int s), some (.int q), some (.int T), some (.int x4), some (.int x5), some (.int (nI (cP2 U T s n i))), some (.int (fP2 U T s n i)), some (.int (nI i)), l9, l10] [] G (qM c w h (nigA U T s n q)) := fun bi l9 l10 x4 x5 e4 e5 => by
        have r := inner (qM c w h (nigA U T s n q)) i x4 x5 (by omega) bi (fun l10 => by rw [e4, e5]; exact eX12_night (k _ l10)) (n - (i + 1)) (i + 1) (by omega) (by omega) l10
        rw [prA_lt, Nat.add_zero, fB2_i, nI_succ] at r
        refine eX12_night (e_eq r ?_ rfl rfl)
        by_cases e1 : fP2 U T s n i = -1
        · rw [if_pos e1, e1]; rfl
        · rw [if_neg e1]; rfl
      have j101 : sgA U T s i → ∀ l9 l10 v, v = fst (sgA U T s) (i + 1) 0 → E cx jX12_night d a 101 [some (.ref o_m), some (.int s), some (.int q), some (.int T), some (.int (nI (cnt (sgA U T s) i) + 1)), some (.int (fst (sgA U T s) i 0)), some (.int (nI (cP2 U T s n i))), some (.int (fP2 U T s n i)), some (.int (nI i)), l9, l10] [.int v] G (qM c w h (nigA U T s n q)) := fun y l9 l10 v ev => eX12_night (j103 y.1 l9 l10 _ v (by rw [cnt_t y, nI_succ]) ev)
      obtain ⟨t1, t2⟩ := tab (one i)
      refine eX12_night (wcV (st_of en eG) (And.intro (fun z => absurd z (nI_ge (by omega) (by omega))) (fun q1 => (wcS n_isIn (And.intro (fun q2 => (eX12_night (And.intro t1 (And.intro (fun q3 => j103 ((inB_bt (by omega)).mp (b2i_n q2)) _ _ _ _ ?_ ?_) (fun q3 => (And.intro (fun q4 => (eX12_night (j101 ?_ _ _ _ ?_))) (fun q4 => (j101 ?_ _ _ _ ?_)))))))) (fun q2 => ?_))))))
      · rw [cnt_f (P := sgA U T s) (fun z => q3 (t2.trans z.2))]
      · exact (fst_skip (by omega) (fun z => q3 (t2.trans z.2))).symm
      · exact ⟨(inB_bt (by omega)).mp (b2i_n q2), t2.symm.trans q3⟩
      · rw [fst_app (by omega), if_neg q4]
      · exact ⟨(inB_bt (by omega)).mp (b2i_n q2), t2.symm.trans q3⟩
      · rw [fst_app (by omega), if_pos q4, if_pos ⟨(inB_bt (by omega)).mp (b2i_n q2), t2.symm.trans q3⟩]
      · have nb : ¬ bt T i = true := fun z => b2i_0.mp q2 ((inB_bt (by omega)).mpr z)
        have k := k l9 l10
        rw [cnt_f (P := sgA U T s) (fun z => nb z.1), fst_skip (by omega) (fun z => nb z.1), cP2, prA_no nb, Nat.add_zero, fP2, fB2_no nb, ite_m1] at k
        exact eX12_night k
  refine And.intro v159 (e_eq (loop n 0 rfl none none) ?_ rfl rfl)
  rw [eT]; rfl
end T73
