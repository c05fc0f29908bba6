/-! winters: what frost takes, what goes back; the model's way -/
noncomputable def frA (F : Nat → Int32) (s seed : Int32) : Nat → Int32 × Int32
  | 0 => (0, seed)
  | k + 1 => if bt s k = true then (if rem100 (drawS (frA F s seed k).2) < F k then (frA F s seed k).1 ||| one k else (frA F s seed k).1, drawS (frA F s seed k).2) else frA F s seed k
noncomputable def bkA (U : Int32 → Int32) (s : Int32) : Nat → Int32
  | 0 => -1
  | k + 1 => if bt s k = false ∧ (bkA U s k = -1 ∨ onesR (U (s ||| one k)) 22 < onesR (U (s ||| ((1 : Int32) <<< (bkA U s k &&& 31)))) 22) then nI k else bkA U s k
noncomputable def bkO (b : Int32) : Int32 := if b = -1 then 0 else (1 : Int32) <<< (b &&& 31)
/-- the stones behind winter i, and the seed -/
noncomputable def wsA (F : Nat → Int32) (U : Int32 → Int32) (n : Nat) (T seed : Int32) : Nat → Int32 × Int32
  | 0 => (T, seed)
  | i + 1 => (fallA U (dif (wsA F U n T seed i).1 (frA F (wsA F U n T seed i).1 (wsA F U n T seed i).2 n).1) ||| bkO (bkA U (fallA U (dif (wsA F U n T seed i).1 (frA F (wsA F U n T seed i).1 (wsA F U n T seed i).2 n).1)) n), (frA F (wsA F U n T seed i).1 (wsA F U n T seed i).2 n).2)
def keepD (h g : Hp) : Prop := g.2 = h.2 ∧ ∀ o k, ¬ (o = 104 ∧ k = 38) → o ≠ 125 → hI g o k = hI h o k
section T76
variable {cx : Cx} {d a c : Nat} {h g f : Hp} {w : Wd}
theorem keepD_r : keepD h h := ⟨rfl, fun _ _ _ _ => rfl⟩
theorem keepD_t (p : keepD h g) (q : keepD g f) : keepD h f := ⟨q.1.trans p.1, fun o k n1 n2 => (q.2 o k n1 n2).trans (p.2 o k n1 n2)⟩
theorem keepD_W (p : keepD h g) : kW g = kW h := funext fun k => p.2 _ k (fun z => absurd z.1 (by decide)) (by decide)
theorem keepD_lk {L : Option (List CS)} (p : keepD h g) (q : lkOk w L h) : lkOk w L g := lk_keep q fun o k h1 h2 => p.2 o k (by omega) (by omega)
theorem keepD_8 {v : Int32} : keepD h (wI h o_m 38 v) := ⟨rfl, fun o k n1 _ => by rw [rd_any, if_neg n1]⟩
theorem keepD_row {k : Nat} {v : Int32} : keepD h (wI h o_m_winterRow k v) := ⟨rfl, fun o k _ n2 => rd_o n2⟩
theorem keepD_mC (p : keepD h g) (q : mC c w h) : mC c w g := by
  have e : ∀ k, k ≠ 38 → hI g o_m k = hI h o_m k := fun k nk => p.2 _ _ (fun z => nk z.2) (by decide)
  unfold mC vLe at *
  rw [e 21 (by decide), e 1 (by decide), e 27 (by decide), e 32 (by decide)]
  exact ⟨q.1, q.2.1, fun z => lk_keep (q.2.2.1 z) fun o k h1 h2 => p.2 o k (by omega) (by omega), fun z => st_keep (q.2.2.2 z) fun o k h1 h2 => p.2 o k (by omega) (by omega)⟩
theorem n_draws : M cx jX12_draws d a [.ref o_m, .int 100] h (RQ (.int (rem100 (drawS (hI h o_m 38)))) (wI h o_m 38 (drawS (hI h o_m 38)))) := by
  have e0 : ∀ s : Int32, ((kl 1103 0 * s.toInt64 + kl 12345 0) - (kl 1103 0 * s.toInt64 + kl 12345 0) / kl 1000003 0 * kl 1000003 0).toInt32 = drawX s := fun s => by unfold drawX; rw [Int64.mul_comm (kl 1103 0)]
  have e : remX (hI (wI h o_m 38 (drawX (hI h o_m 38))) o_m 38) = remX (drawX (hI h o_m 38)) := by rw [rd_same]
  rw [rem100_eq, drawS_eq]
  rw [← e, ← e0]
  exact sX12_draws rfl (And.intro kl_ne (And.intro h_ne ⟨rfl, rfl⟩))
theorem frA_no {F : Nat → Int32} {s seed : Int32} {k : Nat} (z : ¬ bt s k = true) : frA F s seed (k + 1) = frA F s seed k := if_neg z
theorem frA_yes {F : Nat → Int32} {s seed : Int32} {k : Nat} (z : bt s k = true) : frA F s seed (k + 1) = (if rem100 (drawS (frA F s seed k).2) < F k then (frA F s seed k).1 ||| one k else (frA F s seed k).1, drawS (frA F s seed k).2) := if_pos z
theorem e_wnFrost {Q : Option Value → Hp → Prop} {n : Nat} {G : Hp} {x1 x2 s x4 : Int32} {l7 : Option Value} (hd : 2 ≤ d) (en : w 157 = nI n) (hn : n ≤ 14) (eG : kW G = w)
    (K : E cx jX12_winters d a 114 [some (.ref o_m), some (.int x1), some (.int x2), some (.int s), some (.int x4), some (.int (frA (fun k => w (7 * k + 6)) s (hI G o_m 38) n).1), some (.int (nI n)), l7] [] (wI G o_m 38 (frA (fun k => w (7 * k + 6)) s (hI G o_m 38) n).2) Q) :
    ∀ r k, r + k = n → E cx jX12_winters d a 64 [some (.ref o_m), some (.int x1), some (.int x2), some (.int s), some (.int x4), some (.int (frA (fun k => w (7 * k + 6)) s (hI G o_m 38) k).1), some (.int (nI k)), l7] [] (wI G o_m 38 (frA (fun k => w (7 * k + 6)) s (hI G o_m 38) k).2) Q := by
  generalize eF : frA (fun k => w (7 * k + 6)) s (hI G o_m 38) = F at K
  have eW : ∀ v, kW (wI G o_m 38 v) = w := fun v => by rw [← eG]; exact funext fun i => rd_o (by decide)
  intro r
  induction r with
  | zero =>
    intro k hk
    obtain rfl : k = n := by omega
    exact eX12_winters (wcV (st_of en (eW _)) (And.intro (fun _ => K) (fun q => absurd (Int32.le_refl _) q)))
  | succ r ih =>
    intro k hk
    have i := ih (k + 1) (by omega)
    rw [nI_succ] at i
    have next : ∀ x5 sd, F (k + 1) = (x5, sd) → ∀ g, g = wI G o_m 38 sd → E cx jX12_winters d a 108 [some (.ref o_m), some (.int x1), some (.int x2), some (.int s), some (.int x4), some (.int x5), some (.int (nI k)), l7] [] g Q := fun x5 sd e g eg => by
      rw [e, ← eg] at i
      exact eX12_winters i
    have fact : ∀ v, M cx jX12_factOf (d - 1) 0 [.ref o_m, .int (nI k), .int 6] (wI G o_m 38 v) (RQ (.int (w (7 * k + 6))) (wI G o_m 38 v)) := fun v => by
      rw [← eW v]; exact n_factOf (k := k) (f := 6) rfl rfl (by omega) (by decide)
    have dr : M cx jX12_draws (d - 1) 0 [.ref o_m, .int 100] (wI G o_m 38 (F k).2) (RQ (.int (rem100 (drawS (F k).2))) (wI G o_m 38 (drawS (F k).2))) := by
      have := n_draws (cx := cx) (d := d - 1) (a := 0) (h := wI G o_m 38 (F k).2)
      rw [rd_same, wI_wI] at this; exact this
    refine eX12_winters (wcV (st_of en (eW _)) (And.intro (fun q => absurd q (nI_ge (by omega) (by omega))) (fun _ => (wcS n_isIn (And.intro (fun q2 => next (F k).1 (F k).2 ?_ _ rfl) (fun q2 => (wcV dr (wcV (fact _) (And.intro (fun q3 => next _ _ ?_ _ rfl) (fun q3 => next _ _ ?_ _ rfl))))))))))
    · rw [← eF, frA_no fun z => b2i_0.mp q2 ((inB_bt (by omega)).mpr z)]
    · rw [← eF] at q3 ⊢
      rw [frA_yes ((inB_bt (by omega)).mp (b2i_n q2)), if_neg (Int32.not_lt.mpr q3)]
    · rw [← eF] at q3 ⊢
      rw [frA_yes ((inB_bt (by omega)).mp (b2i_n q2)), if_pos (Int32.not_le.mp q3)]
theorem bkA_is {U : Int32 → Int32} {s : Int32} : ∀ k, bkA U s k = -1 ∨ ∃ j, j < k ∧ bkA U s k = nI j := by
  intro k
  induction k with
  | zero => exact Or.inl rfl
  | succ k ih =>
    rw [bkA]
    split
    · exact Or.inr ⟨k, by omega, rfl⟩
    · exact ih.imp id fun ⟨j, h1, h2⟩ => ⟨j, by omega, h2⟩
theorem e_wnBack {Q : Option Value → Hp → Prop} {n : Nat} {G : Hp} {x1 x2 s x4 x5 : Int32} {L : Option (List CS)} (hd : 3 ≤ d) (en : w 157 = nI n) (hn : n ≤ 14) (eG : kW G = w) (lk : lkOk w L G) (ls : low n s)
    (K : E cx jX12_winters d a 194 [some (.ref o_m), some (.int x1), some (.int x2), some (.int s), some (.int x4), some (.int x5), some (.int (bkA (aU w L) s n)), some (.int (nI n))] [] G Q) :
    ∀ r k, r + k = n → E cx jX12_winters d a 131 [some (.ref o_m), some (.int x1), some (.int x2), some (.int s), some (.int x4), some (.int x5), some (.int (bkA (aU w L) s k)), some (.int (nI k))] [] G Q := by
  intro r
  induction r with
  | zero =>
    intro k hk
    obtain rfl : k = n := by omega
    exact eX12_winters (wcV (st_of en eG) (And.intro (fun _ => K) (fun q => absurd (Int32.le_refl _) q)))
  | succ r ih =>
    intro k hk
    have i := ih (k + 1) (by omega)
    rw [nI_succ, bkA] at i
    have lo : ∀ j, j < n → ∀ x, x = nI j → M cx jX12_loose (d - 1) 0 [.ref o_m, .int (s ||| ((1 : Int32) <<< (x &&& 31)))] G (RQ (.int (aU w L (s ||| ((1 : Int32) <<< (x &&& 31))))) G) := fun j hj x ex => by
      subst ex
      exact n_looseU (by omega) lk (items_low en hn (low_or ls (low_one hj (by omega))))
    have old : ¬ (bt s k = false ∧ (bkA (aU w L) s k = -1 ∨ onesR (aU w L (s ||| one k)) 22 < onesR (aU w L (s ||| ((1 : Int32) <<< (bkA (aU w L) s k &&& 31)))) 22)) → E cx jX12_winters d a 188 [some (.ref o_m), some (.int x1), some (.int x2), some (.int s), some (.int x4), some (.int x5), some (.int (bkA (aU w L) s k)), some (.int (nI k))] [] G Q := fun z => by
      rw [if_neg z] at i
      exact eX12_winters i
    have new : (bt s k = false ∧ (bkA (aU w L) s k = -1 ∨ onesR (aU w L (s ||| one k)) 22 < onesR (aU w L (s ||| ((1 : Int32) <<< (bkA (aU w L) s k &&& 31)))) 22)) → E cx jX12_winters d a 184 [some (.ref o_m), some (.int x1), some (.int x2), some (.int s), some (.int x4), some (.int x5), some (.int (bkA (aU w L) s k)), some (.int (nI k))] [] G Q := fun z => by
      rw [if_pos z] at i
      exact eX12_winters (eX12_winters i)
    refine eX12_winters (wcV (st_of en eG) (And.intro (fun q => absurd q (nI_ge (by omega) (by omega))) (fun _ => (wcS n_isIn (And.intro (fun q2 => old fun z => ?_) (fun q2 => (And.intro (fun q3 => new ⟨?_, Or.inl q3⟩) (fun q3 => ?_))))))))
    · have := (inB_bt (s := s) (k := k) (by omega)).mp (b2i_n q2)
      rw [z.1] at this; cases this
    · exact ts_nt fun z => b2i_0.mp q2 ((inB_bt (by omega)).mpr z)
    · have nb : bt s k = false := ts_nt fun z => b2i_0.mp q2 ((inB_bt (by omega)).mpr z)
      obtain ⟨j, hj, ej⟩ := (bkA_is k).resolve_left q3
      exact wcV (lo k (by omega) _ rfl) (wcS n_ones (wcV (lo j (by omega) _ ej) (wcS n_ones (And.intro (fun q4 => old fun z => z.2.elim q3 fun y => absurd y (Int32.not_lt.mpr q4)) (fun q4 => new ⟨nb, Or.inr (Int32.not_le.mp q4)⟩)))))
theorem n_winters_no (hd : 1 ≤ d) {x y : Int32} (no : ¬ ((0 ≤ x ∧ x ≤ 1000000) ∧ (1 ≤ y ∧ y ≤ 40))) : M cx jX12_winters d a [.ref o_m, .int x, .int y] h (RQ (.int (-1)) (nrefH h (-1) 1)) :=
  sX12_winters rfl (wcS n_lies (And.intro (fun q1 => (eX12_winters (wcV (n_refuses rfl (by decide)) ⟨rfl, rfl⟩))) (fun q1 => (wcS n_lies (And.intro (fun q2 => absurd ⟨b2i_n q1, b2i_n q2⟩ no) (fun q2 => (eX12_winters (wcV (n_refuses rfl (by decide)) ⟨rfl, rfl⟩))))))))
theorem ws_low {F : Nat → Int32} {U : Int32 → Int32} {n : Nat} {T seed : Int32} (hn : n ≤ 14) (lT : low n T) : ∀ i, low n (wsA F U n T seed i).1 := by
  intro i
  cases i with
  | zero => exact lT
  | succ i =>
    have : ∀ j, low n (wsA F U n T seed j).1 → low n (wsA F U n T seed (j + 1)).1 := fun j l => by
      refine low_or (low_sub (it_sub 22 _) (low_sub sub_dif l)) ?_
      unfold bkO
      split
      · exact low_0
      · rename_i ne
        obtain ⟨j, hj, ej⟩ := (bkA_is n).resolve_left ne
        rw [ej]; exact low_one hj (by omega)
    induction i with
    | zero => exact this 0 lT
    | succ i ih => exact this (i + 1) ih
def wnQ (c : Nat) (w : Wd) (h : Hp) (n many : Nat) (seed : Int32) : Option Value → Hp → Prop := fun v g => ∃ G G', keepM h G ∧ mC c w G' ∧ keepD (wI G o_m 37 (nI many)) G' ∧ v = some (.int (onesR (wsA (fun k => w (7 * k + 6)) (aU w (lawOf w)) n (w 159) seed many).1 22)) ∧ g = ngoodH G' ∧ (∀ k, k < 40 → hI G' o_m_winterRow k = if k < many then (wsA (fun k => w (7 * k + 6)) (aU w (lawOf w)) n (w 159) seed (k + 1)).1 else hI G o_m_winterRow k)
theorem n_winters_ok (hd : 63 ≤ d) {n many : Nat} {x : Int32} (eW : kW h = w) (wf : wfW w) (cc : mC c w h) (en : w 157 = nI n) (hn : n ≤ 14) (lT : low n (w 159)) (hx : 0 ≤ x ∧ x ≤ 1000000) (hm : 1 ≤ many) (hm2 : many ≤ 40) : M cx jX12_winters d a [.ref o_m, .int x, .int (nI many)] h (wnQ c w h n many x) := by
  refine sX12_winters rfl (wcS n_lies (And.intro (fun q1 => absurd hx (b2i_0.mp q1)) (fun q1 => (wcS n_lies (And.intro (fun q2 => (eX12_winters (wcQ (n_looksC (by omega) eW wf cc) (fun v G z => ?_) (fun v G z => keepL_N z.2.1)))) (fun q2 => absurd ⟨nI_le (a := 1) (by omega) (by omega), nI_le (b := 40) (by omega) (by decide)⟩ (b2i_0.mp q2)))))))
  obtain ⟨rfl, kL, cG, lk, e27⟩ := z
  have eG : kW G = w := (keepL_W kL).trans eW
  generalize eS : wsA (fun k => w (7 * k + 6)) (aU w (lawOf w)) n (w 159) x = S
  have lS : ∀ i, low n (S i).1 := fun i => by rw [← eS]; exact ws_low hn lT i
  have eG1 : kW (wI G o_m 37 (nI many)) = w := by rw [← eG]; exact funext fun i => rd_o (by decide)
  have lk1 : lkOk w (lawOf w) (wI G o_m 37 (nI many)) := lk_keep lk fun o k h1 h2 => rd_o (by show o ≠ 104; omega)
  have cG1 : mC c w (wI G o_m 37 (nI many)) := by
    have e : ∀ k, k ≠ 37 → hI (wI G o_m 37 (nI many)) o_m k = hI G o_m k := fun k nk => rd_k nk
    unfold mC vLe at *
    rw [e 21 (by decide), e 1 (by decide), e 27 (by decide), e 32 (by decide)]
    exact ⟨cG.1, cG.2.1, fun z => lk_keep (cG.2.2.1 z) fun o k h1 h2 => rd_o (by show o ≠ 104; omega), fun z => st_keep (cG.2.2.2 z) fun o k h1 h2 => rd_o (by show o ≠ 104; omega)⟩
  have loop : ∀ r i, r + i = many → ∀ g l5 l6 l7, keepD (wI G o_m 37 (nI many)) g → hI g o_m 38 = (S i).2 → (∀ k, k < 40 → hI g o_m_winterRow k = if k < i then (S (k + 1)).1 else hI G o_m_winterRow k) → E cx jX12_winters d a 52 [some (.ref o_m), some (.int x), some (.int (nI many)), some (.int (S i).1), some (.int (nI i)), l5, l6, l7] [] g (wnQ c w h n many x) := by
    intro r
    induction r with
    | zero =>
      intro i hi g l5 l6 l7 kd e38 rows
      obtain rfl : i = many := by omega
      refine eX12_winters (And.intro (fun _ => (eX12_winters (wcS n_ones (wcV n_good ⟨G, g, keepL_M kL, keepD_mC kd cG1, kd, ?_, rfl, ?_⟩)))) (fun q => absurd (Int32.le_refl _) q))
      · rw [eS]
      · rw [eS]; exact rows
    | succ r ih =>
      intro i hi g l5 l6 l7 kd e38 rows
      have eg : kW g = w := (keepD_W kd).trans eG1
      have fr := e_wnFrost (Q := wnQ c w h n many x) (cx := cx) (d := d) (a := a) (w := w) (n := n) (G := g) (x1 := x) (x2 := nI many) (s := (S i).1) (x4 := nI i) (l7 := l7) (by omega) en hn eg
      rw [e38] at fr
      have g0 : wI g o_m 38 (S i).2 = g := by rw [← e38]; exact wI_self
      refine eX12_winters (And.intro (fun q => absurd q (nI_ge (by omega) (by omega))) (fun _ => e_eq (fr ?_ n 0 rfl) rfl rfl g0.symm))
      generalize eF : frA (fun k => w (7 * k + 6)) (S i).1 (S i).2 n = F
      have kg : keepD (wI G o_m 37 (nI many)) (wI g o_m 38 F.2) := keepD_t kd keepD_8
      have egg : kW (wI g o_m 38 F.2) = w := (keepD_W kg).trans eG1
      have lkg := keepD_lk kg lk1
      have lfa : low n (dif (S i).1 F.1) := low_sub sub_dif (lS i)
      have fa : M cx jX12_fall (d - 1) 0 [.ref o_m, .int (dif (S i).1 F.1)] (wI g o_m 38 F.2) (RQ (.int (fallA (aU w (lawOf w)) (dif (S i).1 F.1))) (wI g o_m 38 F.2)) := n_fallU (by omega) lkg (items_low en hn lfa)
      refine (eX12_winters (wcV fa (e_wnBack (by omega) en hn egg lkg (low_sub (it_sub 22 _) lfa) ?_ n 0 rfl)))
      have es : S (i + 1) = (fallA (aU w (lawOf w)) (dif (S i).1 F.1) ||| bkO (bkA (aU w (lawOf w)) (fallA (aU w (lawOf w)) (dif (S i).1 F.1)) n), F.2) := by rw [← eF, ← eS]; rfl
      have vi : vp_in (nI i) 40 := vp_in_nI (by omega) (by decide)
      have ci : (nI i).toNatClampNeg = i := nI_clamp (by omega)
      have j209 : ∀ v, v = bkO (bkA (aU w (lawOf w)) (fallA (aU w (lawOf w)) (dif (S i).1 F.1)) n) → E cx jX12_winters d a 209 [some (.ref o_m), some (.int x), some (.int (nI many)), some (.int (fallA (aU w (lawOf w)) (dif (S i).1 F.1))), some (.int (nI i)), some (.int F.1), some (.int (bkA (aU w (lawOf w)) (fallA (aU w (lawOf w)) (dif (S i).1 F.1)) n)), some (.int (nI n))] [.int v, .int (fallA (aU w (lawOf w)) (dif (S i).1 F.1))] (wI g o_m 38 F.2) (wnQ c w h n many x) := fun v ev => by
        subst ev
        have i' := ih (i + 1) (by omega) (wI (wI g o_m 38 F.2) o_m_winterRow i (S (i + 1)).1) (some (.int F.1)) (some (.int (bkA (aU w (lawOf w)) (fallA (aU w (lawOf w)) (dif (S i).1 F.1)) n))) (some (.int (nI n))) (keepD_t kg keepD_row) (by rw [rd_o (by decide), rd_same, es]) (fun k hk => ?_)
        · rw [nI_succ, es] at i'
          refine eX12_winters (And.intro vi (e_eq i' rfl rfl ?_))
          rw [ci]; rfl
        · by_cases e : k = i
          · subst e; rw [rd_same, if_pos (by omega)]
          · rw [rd_k e, rd_o (by decide), rows k hk]
            by_cases l : k < i
            · rw [if_pos l, if_pos (by omega)]
            · rw [if_neg l, if_neg (by omega)]
      refine eX12_winters (And.intro (fun q1 => (eX12_winters (j209 _ ?_))) (fun q1 => (j209 _ ?_)))
      · unfold bkO; rw [if_neg q1]
      · unfold bkO; rw [if_pos q1]
  have k0 : keepD (wI G o_m 37 (nI many)) (wI (wI G o_m 38 x) o_m 37 (nI many)) := by
    rw [wI_comm (by decide)]; exact keepD_8
  have eT : hI (wI (wI G o_m 38 x) o_m 37 (nI many)) (ly_rf o_m 3) (159 : Int32).toNatClampNeg = w 159 := by
    show kW (wI (wI G o_m 38 x) o_m 37 (nI many)) 159 = _; rw [(keepD_W k0).trans eG1]
  refine And.intro v159 (e_eq (loop many 0 rfl _ none none none k0 ?_ ?_) ?_ rfl rfl)
  · rw [rd_k (by decide), rd_same, ← eS]; rfl
  · intro k hk; rw [if_neg (Nat.not_lt_zero _), rd_o (by decide), rd_o (by decide)]
  · rw [eT, ← eS]; rfl
theorem n_winter {i : Int32} {m : Nat} (hd : 1 ≤ d) (em : hI h o_m 37 = nI m) (hm : m ≤ 40) : M cx jX12_winter d a [.ref o_m, .int i] h (RQ (.int (if 0 ≤ i ∧ i ≤ nI m - 1 then hI h o_m_winterRow i.toNatClampNeg else -1)) h) := by
  refine sX12_winter rfl (wcS n_lies (And.intro (fun q1 => (eX12_winter (eX12_winter (RQ_eq ?_)))) (fun q1 => (And.intro ?_ (eX12_winter (RQ_eq ?_))))))
  · have q1 := b2i_0.mp q1
    rw [em] at q1
    rw [if_neg q1]
  · have q1 := b2i_n q1
    rw [em] at q1
    show vp_in i 40
    rw [vp_in_iff]
    have h1 := Int32.le_iff_toInt_le.mp q1.1
    have h2 := Int32.le_iff_toInt_le.mp q1.2
    rw [show (1 : Int32) = nI 1 from rfl, pk_sub_toInt (by omega) (by decide)] at h2
    have e0 : (0 : Int32).toInt = 0 := rfl
    omega
  · have q1 := b2i_n q1
    rw [em] at q1
    rw [if_pos q1]; rfl
end T76
