/-! the class's reader stands at a token -/
def cdW : List Int32 := [2, 1, 191, 193, 6, 140, 141, 160, 162, 161, 5, 4, 7, 8, 9, 10, 11, 12, 13, 14, 142, 147, 143, 145, 3, 159]
def cdJ (k : Nat) : Nat := if (cdW.getD k 0).toNatClampNeg < 50 then (cdW.getD k 0).toNatClampNeg - 1 else 14
theorem cd_word : ∀ k, k < 26 → cdJ k < 14 → cdW.getD k 0 = nI (cdJ k + 1) ∧ tx_len.getD k 0 = wLen.getD (cdJ k) 0 ∧ 0 < tx_len.getD k 0 ∧ ∀ i, i < tx_len.getD k 0 → (tx_byt.getD k []).getD i 0 = wdB.getD (wOff.getD (cdJ k) 0 + i) 0 ∧ 97 ≤ (tx_byt.getD k []).getD i 0 ∧ (tx_byt.getD k []).getD i 0 ≤ 122 := by decide +kernel
theorem cd_sign : ∀ k, k < 26 → ¬ cdJ k < 14 → tx_len.getD k 0 = 1 ∧ cdW.getD k 0 = 100 + (tx_byt.getD k []).getD 0 0 ∧ (tx_byt.getD k []).getD 0 0 = nI ((tx_byt.getD k []).getD 0 0).toNatClampNeg ∧ ((tx_byt.getD k []).getD 0 0).toNatClampNeg < 128 ∧ (((tx_byt.getD k []).getD 0 0).toNatClampNeg < 48 ∨ (57 < ((tx_byt.getD k []).getD 0 0).toNatClampNeg ∧ ((tx_byt.getD k []).getD 0 0).toNatClampNeg < 97)) := by decide +kernel
theorem w_uniq : ∀ i, i < 14 → ∀ j, j < 14 → wLen.getD i 0 = wLen.getD j 0 → (∀ q, q < 8 → q < wLen.getD i 0 → wdB.getD (wOff.getD i 0 + q) 0 = wdB.getD (wOff.getD j 0 + q) 0) → i = j := by decide +kernel
theorem w_len8 : ∀ i, i < 14 → wLen.getD i 0 < 8 := by decide +kernel
section T99993
variable {cx : Cx} {d a : Nat} {h G : Hp} {b : Nat → Int32} {n N t lv m : Nat}
theorem is_tok (hb : isBy b) {k : Nat} (hk : k < 26) : wIs b (tkS b n t) (tkE b n (tkS b n t)) k ↔ tC b n t = cdW.getD k 0 := by
  unfold tC
  by_cases sn : tkS b n t < n
  · rw [if_pos sn]
    have te := tend_le (b := b) sn
    rw [show tkE b n (tkS b n t) = tend b n (tkS b n t) from if_pos sn]
    generalize hS : tkS b n t = s at te
    generalize hE : tend b n s = e at te
    obtain ⟨v, hv, ev⟩ := hb s
    by_cases wd : cdJ k < 14
    · obtain ⟨c1, c2, c3, c4⟩ := cd_word k hk wd
      have toW : wIs b s e k ↔ wMt b s e (cdJ k) := by
        unfold wIs wMt
        rw [← c2]
        exact and_congr_right fun _ => forall_congr' fun i => imp_congr_right fun hi => by rw [(c4 i hi).1]
      rw [toW]
      have fs : ∀ j, j < 14 → wMt b s e j → fst (wMt b s e) 14 0 = nI j := fun j hj y => by
        refine fst_is 14 0 (Nat.zero_le _) (by omega) y (fun i _ hi z => ?_)
        have := w_uniq i (by omega) j hj (by rw [← z.1, ← y.1]) (fun q _ hq => by rw [← z.2 q hq, y.2 q (by rw [← y.1, z.1]; exact hq)])
        omega
      constructor
      · intro y
        have l : ltr (b s) := by
          have := y.2 0 (by rw [← c2]; exact c3)
          obtain ⟨q1, q2, q3⟩ := c4 0 c3
          rw [Nat.add_zero] at this
          rw [this, ← q1]; exact ⟨q2, q3⟩
        unfold cdT
        rw [if_pos l, fs _ wd y, c1, nI_succ]
      · intro y
        unfold cdT at y
        by_cases l : ltr (b s)
        · rw [if_pos l, c1] at y
          by_cases z : fst (wMt b s e) 14 0 = -1
          · rw [z] at y
            have : (0 : Int32) = nI (cdJ k + 1) := y
            have := (nI_eq (a := 0) (b := cdJ k + 1) (by decide) (by omega)).mp this
            omega
          · obtain ⟨j, _, hj, e1, e2, _⟩ := fst_some 14 0 z
            rw [e1, ← nI_succ] at y
            have := (nI_eq (by omega) (by omega)).mp y
            rw [show cdJ k = j by omega]; exact e2
        · rw [if_neg l] at y
          by_cases dg : dig (b s)
          · rw [if_pos dg, c1] at y
            have := (nI_eq (a := 50) (b := cdJ k + 1) (by decide) (by omega)).mp y
            omega
          · rw [if_neg dg, c1, ev, show (100 : Int32) = nI 100 from rfl, nI_add] at y
            have := (nI_eq (by omega) (by omega)).mp y
            omega
    · obtain ⟨c1, c2, c3, c4, c5⟩ := cd_sign k hk wd
      generalize hq : ((tx_byt.getD k []).getD 0 0).toNatClampNeg = q at c3 c4 c5
      have key : wIs b s e k ↔ (e - s = 1 ∧ b s = nI q) := by
        unfold wIs
        rw [c1]
        refine and_congr_right fun _ => ⟨fun z => ?_, fun z i hi => ?_⟩
        · have := z 0 (by decide); rw [Nat.add_zero] at this; rw [this]; exact c3
        · obtain rfl : i = 0 := by omega
          rw [Nat.add_zero, z]; exact c3.symm
      rw [key, c2, c3]
      have lI : ∀ x : Nat, x < 256 → (ltr (nI x) ↔ 97 ≤ x ∧ x ≤ 122) := fun x hx => and_congr (nI_leI (a := 97) (by decide) (by omega)) (nI_leI (b := 122) (by omega) (by decide))
      have dI : ∀ x : Nat, x < 256 → (dig (nI x) ↔ 48 ≤ x ∧ x ≤ 57) := fun x hx => and_congr (nI_leI (a := 48) (by decide) (by omega)) (nI_leI (b := 57) (by omega) (by decide))
      unfold cdT
      constructor
      · rintro ⟨_, y⟩
        rw [y, if_neg (fun z => by have := (lI q (by omega)).mp z; omega), if_neg (fun z => by have := (dI q (by omega)).mp z; omega)]
      · intro y
        by_cases l : ltr (b s)
        · rw [if_pos l, show (100 : Int32) = nI 100 from rfl, nI_add] at y
          exfalso
          by_cases z : fst (wMt b s e) 14 0 = -1
          · rw [z] at y
            have := (nI_eq (a := 0) (b := 100 + q) (by decide) (by omega)).mp y
            omega
          · obtain ⟨j, _, hj, e1, e2, _⟩ := fst_some 14 0 z
            rw [e1, ← nI_succ] at y
            have := (nI_eq (by omega) (by omega)).mp y
            omega
        · rw [if_neg l] at y
          by_cases dg : dig (b s)
          · exfalso
            rw [if_pos dg, show (100 : Int32) = nI 100 from rfl, nI_add] at y
            have := (nI_eq (a := 50) (b := 100 + q) (by decide) (by omega)).mp y
            omega
          · rw [if_neg dg, ev, show (100 : Int32) = nI 100 from rfl, nI_add, nI_add] at y
            have := (nI_eq (by omega) (by omega)).mp y
            have ee : e = s + 1 := by rw [← hE]; unfold tend; rw [if_neg l, if_neg dg]
            exact ⟨by omega, by rw [ev]; congr 1; omega⟩
  · rw [if_neg sn, show tkE b n (tkS b n t) = n from if_neg sn]
    have := tkS_le (b := b) (n := n) t
    constructor
    · intro z
      have h1 := z.1
      by_cases wd : cdJ k < 14
      · have := (cd_word k hk wd).2.2.1; omega
      · have := (cd_sign k hk wd).1; omega
    · intro z
      exfalso
      by_cases wd : cdJ k < 14
      · rw [(cd_word k hk wd).1] at z
        have := (nI_eq (a := 0) (b := cdJ k + 1) (by decide) (by omega)).mp z; omega
      · obtain ⟨c1, c2, c3, c4, c5⟩ := cd_sign k hk wd
        rw [c2, c3, show (100 : Int32) = nI 100 from rfl, nI_add] at z
        have := (nI_eq (a := 0) (by decide) (by omega)).mp z; omega
/-- the text that is read -/
def rB (h : Hp) (b : Nat → Int32) (n N : Nat) : Prop := n ≤ 400 ∧ hI h o_reader 3 = nI n ∧ (∀ j, j < 400 → hI h o_tape_bytes j = b j) ∧ isBy b ∧ N ≤ n ∧ tkS b n N = n ∧ ∀ t, t < N → tkS b n t < n
/-- the reader stands at token t, lv parts and m steps behind it -/
def rdT (h : Hp) (b : Nat → Int32) (n t lv m : Nat) (G : Hp) : Prop := (G.2 = h.2 ∧ ∀ o k, o ≠ 82 → ¬ (o = 81 ∧ (k = 4 ∨ k = 5 ∨ k = 6 ∨ k = 8)) → hI G o k = hI h o k) ∧ hI G o_reader 4 = nI (tkS b n t) ∧ hI G o_reader 5 = nI (tkE b n (tkS b n t)) ∧ hI G o_reader 6 = nI m ∧ hI G o_reader 8 = nI lv
theorem rdT_N (q : rdT h b n t lv m G) : hN G = hN h := congrArg (fun z => z.2.2.2) q.1.1
theorem tkn_0 (q : rB h b n N) {t : Nat} (ht : N ≤ t) : tC b n t = 0 := by
  have := tkS_end q.2.2.2.2.2.1 (t - N)
  rw [show N + (t - N) = t by omega] at this
  unfold tC; rw [if_neg (by omega)]
theorem tkn_lt (q : rB h b n N) {t : Nat} (z : ¬ tC b n t = 0) : t < N := Nat.lt_of_not_le fun y => z (tkn_0 q y)
theorem r_is (q : rB h b n N) (s : rdT h b n t lv m G) (hd : 4 ≤ d) {k : Nat} (hk : k < 26) : M cx jX5_is d a [.ref o_reader, .ref (1 + k)] G (RQ (.int (b2i (tC b n t = cdW.getD k 0))) G) := by
  have e1 := tkE_le (b := b) (tkS_le (b := b) (n := n) t)
  have h4 := q.1
  have := m_is (cx := cx) (d := d) (a := a) (h := G) (b := b) hd hk s.2.1 s.2.2.1 e1.1 (by omega) (fun j hj => by rw [s.1.2 _ _ (by decide) (fun z => absurd z.1 (by decide))]; exact q.2.2.1 j hj)
  rw [show b2i (wIs b (tkS b n t) (tkE b n (tkS b n t)) k) = b2i (tC b n t = cdW.getD k 0) by rw [is_tok q.2.2.2.1 hk]] at this
  exact this
theorem r_isT (q : rB h b n N) (s : rdT h b n t lv m G) (hd : 4 ≤ d) {k : Nat} (hk : k < 26) (y : tC b n t = cdW.getD k 0) : M cx jX5_is d a [.ref o_reader, .ref (1 + k)] G (RQ (.int 1) G) := by
  have := r_is (cx := cx) (d := d) (a := a) q s hd hk
  rw [b2i_t y] at this; exact this
theorem r_isF (q : rB h b n N) (s : rdT h b n t lv m G) (hd : 4 ≤ d) {k : Nat} (hk : k < 26) (y : ¬ tC b n t = cdW.getD k 0) : M cx jX5_is d a [.ref o_reader, .ref (1 + k)] G (RQ (.int 0) G) := by
  have := r_is (cx := cx) (d := d) (a := a) q s hd hk
  rw [b2i_f y] at this; exact this
/-- on to the next token -/
noncomputable def advH (b : Nat → Int32) (n t : Nat) (G : Hp) : Hp := rdrH G (tkS b n (t + 1)) (tkE b n (tkS b n (t + 1)))
theorem r_adv (q : rB h b n N) (s : rdT h b n t lv m G) (hd : 1 ≤ d) : M cx jX5_advance d a [.ref o_reader] G (RV (advH b n t G)) := by
  have e1 := tkE_le (b := b) (tkS_le (b := b) (n := n) t)
  exact m_advance hd (by rw [s.1.2 _ _ (by decide) (fun z => by rcases z.2 with y | y | y | y <;> exact absurd y (by decide))]; exact q.2.1) q.1 s.2.2.1 e1.2 (fun j hj => by rw [s.1.2 _ _ (by decide) (fun z => absurd z.1 (by decide))]; exact q.2.2.1 j hj)
theorem adv_S (s : rdT h b n t lv m G) : rdT h b n (t + 1) lv m (advH b n t G) := by
  refine ⟨⟨s.1.1, fun o k n1 n2 => ?_⟩, ?_, rd_same, ?_, ?_⟩
  · unfold advH rdrH
    by_cases ho : o = 81
    · subst ho
      rw [rd_k (by omega), rd_k (by omega)]; exact s.1.2 _ _ n1 n2
    · rw [rd_o ho, rd_o ho]; exact s.1.2 _ _ n1 n2
  · unfold advH rdrH; rw [rd_k (by decide), rd_same]
  · unfold advH rdrH; rw [rd_k (by decide), rd_k (by decide)]; exact s.2.2.2.1
  · unfold advH rdrH; rw [rd_k (by decide), rd_k (by decide)]; exact s.2.2.2.2
theorem adv_82 {i : Nat} : hI (advH b n t G) o_reader_steps i = hI G o_reader_steps i := by
  unfold advH rdrH; rw [rd_o (by decide), rd_o (by decide)]
theorem r_add (q : rB h b n N) (s : rdT h b n t lv m G) (hm : m < 400) (hd : 1 ≤ d) {o x : Int32} : M cx jX5_addStep d a [.ref o_reader, .int o, .int x] G (RQ (.int (nI m)) (stepH G m o x)) := m_addStep s.2.2.2.1 hm hd
theorem add_S (s : rdT h b n t lv m G) {o x : Int32} : rdT h b n t lv (m + 1) (stepH G m o x) := by
  refine ⟨⟨s.1.1, fun o' k n1 n2 => ?_⟩, ?_, ?_, rd_same, ?_⟩
  · unfold stepH
    by_cases ho : o' = 81
    · subst ho
      rw [rd_k (by omega), rd_o (by decide)]; exact s.1.2 _ _ n1 n2
    · rw [rd_o ho, rd_o n1]; exact s.1.2 _ _ n1 n2
  · unfold stepH; rw [rd_k (by decide), rd_o (by decide)]; exact s.2.1
  · unfold stepH; rw [rd_k (by decide), rd_o (by decide)]; exact s.2.2.1
  · unfold stepH; rw [rd_k (by decide), rd_o (by decide)]; exact s.2.2.2.2
theorem add_82 {i : Nat} {o x : Int32} (hi : i ≠ m) : hI (stepH G m o x) o_reader_steps i = hI G o_reader_steps i := by
  unfold stepH; rw [rd_o (by decide), rd_k hi]
theorem add_new {o x : Int32} : hI (stepH G m o x) o_reader_steps m = stW o x := by
  unfold stepH; rw [rd_o (by decide), rd_same]; rfl
theorem aim_S {k : Nat} (s : rdT h b n t lv m G) : rdT h b n t lv m (aimH G k m) := by
  unfold aimH
  exact ⟨⟨s.1.1, fun o' k n1 n2 => by rw [rd_o n1]; exact s.1.2 _ _ n1 n2⟩, by rw [rd_o (by decide)]; exact s.2.1, by rw [rd_o (by decide)]; exact s.2.2.1, by rw [rd_o (by decide)]; exact s.2.2.2.1, by rw [rd_o (by decide)]; exact s.2.2.2.2⟩
theorem aim_82 {i k : Nat} (hi : i ≠ k) : hI (aimH G k m) o_reader_steps i = hI G o_reader_steps i := by
  unfold aimH; rw [rd_k hi]
theorem aim_new {k : Nat} {o : Int32} (e : hI G o_reader_steps k = stW o (nI 0)) : hI (aimH G k m) o_reader_steps k = stW o (nI m) := by
  unfold aimH; rw [rd_same, e]; unfold stW
  rw [show (nI 0 &&& 1023 : Int32) = 0 from by decide, Int32.or_zero]
end T99993
