/-! the model reads the whole text -/
noncomputable def lwB (C V : Nat → Int32) (N : Nat) (pl : Nat → Nat) : Int32 := if (pLaw C V N).1 = true then -1 else nI (pl (pLaw C V N).2.1)
def rdQ (H : Hp) (C V : Nat → Int32) (N : Nat) (pl : Nat → Nat) : Option Value → Hp → Prop := fun r g => r = some (.int (bI (pLaw C V N).1)) ∧ ∃ t2 lv2 : Int32, g = wI (pst H t2 lv2 (lwB C V N pl)) o_m 11 (lwB C V N pl)
section T85
variable {cx : Cx} {d a : Nat} {h g f : Hp} {N : Nat} {C V : Nat → Int32} {pl : Nat → Nat}
theorem lvb_more : ∀ n t lv cs, lv ≤ 50 → (pMore C V n t lv cs).2.2.1 ≤ 50 := by
  intro n
  induction n with
  | zero => intro t lv cs h; rw [pMore]; split <;> exact h
  | succ n ih =>
    intro t lv cs h
    rw [pMore]
    split
    · split
      · exact ih _ _ _ (lvb_clause _ _ h)
      · exact lvb_clause _ _ h
    · exact h
theorem more_le (hC : ∀ k, N ≤ k → C k = 0) : ∀ n t lv cs, t ≤ N → (pMore C V n t lv cs).2.1 ≤ N := by
  intro n
  induction n with
  | zero =>
    intro t lv cs h
    rw [pMore]; split
    · rename_i e
      have : t < N := Nat.lt_of_not_le fun z => by rw [hC t z] at e; exact absurd e (by decide)
      exact this
    · exact h
  | succ n ih =>
    intro t lv cs h
    rw [pMore]
    split
    · rename_i e
      have tl : t < N := Nat.lt_of_not_le fun z => by rw [hC t z] at e; exact absurd e (by decide)
      have mo := mono_clause (V := V) hC (t + 1) lv (by omega)
      split
      · exact ih _ _ _ mo.2.1
      · exact mo.2.1
    · exact h
theorem e_readMore (q : tokP h N C V pl) {Q : Option Value → Hp → Prop} (hd : 52 ≤ d)
    (K : ∀ (x t2 lv2 bd : Int32), ¬ bd = -1 → (∃ r : PR (List CS), r.1 = false ∧ bd = nI (pl r.2.1)) → True) :
    (∀ (x t2 lv2 bd : Int32) , ¬ bd = -1 → E cx jX12_reads d 0 73 [some (.ref o_m), some (.int x)] [] (pst h t2 lv2 bd) Q → E cx jX12_reads d 0 34 [some (.ref o_m), some (.int x)] [] (pst h t2 lv2 bd) Q) ∧
    ∀ n t lv cs, n ≤ 11 → t ≤ N → lv ≤ 50 →
      (∀ x, (pMore C V n t lv cs).1 = true → E cx jX12_reads d 0 73 [some (.ref o_m), some (.int x)] [] (pst h (nI (pMore C V n t lv cs).2.1) (nI (pMore C V n t lv cs).2.2.1) (-1)) Q) →
      (∀ x t2 lv2, (pMore C V n t lv cs).1 = false → E cx jX12_reads d 0 73 [some (.ref o_m), some (.int x)] [] (pst h t2 lv2 (nI (pl (pMore C V n t lv cs).2.1))) Q) →
      E cx jX12_reads d 0 34 [some (.ref o_m), some (.int (nI (12 - n)))] [] (pst h (nI t) (nI lv) (-1)) Q := by
  have stuck : ∀ (x t2 lv2 bd : Int32) , ¬ bd = -1 → E cx jX12_reads d 0 73 [some (.ref o_m), some (.int x)] [] (pst h t2 lv2 bd) Q → E cx jX12_reads d 0 34 [some (.ref o_m), some (.int x)] [] (pst h t2 lv2 bd) Q := fun x t2 lv2 bd nb k =>
    eX12_reads (wcS (n_signC (r := 159)) (wcV (n_takesB (by omega) nb) (And.intro (fun _ => k) (fun z => absurd rfl z))))
  refine ⟨stuck, ?_⟩
  intro n
  induction n with
  | zero =>
    intro t lv cs _ ht h50 K1 K2
    by_cases c : C t = 159
    · have tl : t < N := tp_lt q (by rw [c]; decide)
      rw [pMore, if_pos c] at K2
      refine eX12_reads (wcS (n_signC (r := 159)) (wcV (n_takesT (by omega) q ht c) (And.intro (fun z => absurd z (by decide)) (fun _ => And.intro (fun z => absurd rfl z) (fun _ => wcV0 (n_faultsT (by omega) q (by omega)) (eX12_reads (wcV (n_fineF (pl_ne q)) (And.intro (fun _ => (eX12_reads (stuck _ _ _ _ (pl_ne q) (K2 _ _ _ rfl)))) (fun z => absurd rfl z)))))))))
    · rw [pMore, if_neg c] at K1
      exact eX12_reads (wcS (n_signC (r := 159)) (wcV (n_takesF (by omega) q ht c) (And.intro (fun _ => K1 _ rfl) (fun z => absurd rfl z))))
  | succ n ih =>
    intro t lv cs hn ht h50 K1 K2
    rw [pMore] at K1 K2
    by_cases c : C t = 159
    · rw [if_pos c] at K1 K2
      have tl : t < N := tp_lt q (by rw [c]; decide)
      have mo := mono_clause (V := V) q.2.2.1 (t + 1) lv (by omega)
      have ne : ¬ nI (12 - (n + 1)) = 12 := fun z => by have := (nI_eq (b := 12) (by omega) (by decide)).mp z; omega
      have hc := n_readClause (cx := cx) (d := d - 1) q (t := t + 1) (lv := lv) (by omega) (by omega) h50
      generalize eR : pClause C V (t + 1) lv = R at hc K1 K2 mo
      have l50 : R.2.2.1 ≤ 50 := by rw [← eR]; exact lvb_clause _ _ h50
      have en : nI (12 - n) = nI (12 - (n + 1)) + 1 := by rw [← nI_succ]; congr 1; omega
      refine eX12_reads (wcS (n_signC (r := 159)) (wcV (n_takesT (by omega) q ht c) (And.intro (fun z => absurd z (by decide)) (fun _ => And.intro (fun _ => ?_) (fun z => absurd z ne)))))
      refine (eX12_reads (wcV n_fineT (And.intro (fun z => absurd z (by decide)) (fun _ => wcQ hc (fun v G z => ?_) rQ_N))))
      obtain ⟨rfl, ⟨ok, rfl⟩ | ⟨ok, t2, lv2, rfl⟩⟩ := z
      · rw [if_pos ok] at K1 K2
        have i := ih R.2.1 R.2.2.1 (cs ++ [R.2.2.2]) (by omega) mo.2.1 l50 K1 K2
        rw [en] at i
        exact eX12_reads i
      · have nk : ¬ R.1 = true := by rw [ok]; exact Bool.noConfusion
        rw [if_neg nk] at K2
        exact eX12_reads (stuck _ _ _ _ (pl_ne q) (K2 _ _ _ rfl))
    · rw [if_neg c] at K1
      exact eX12_reads (wcS (n_signC (r := 159)) (wcV (n_takesF (by omega) q ht c) (And.intro (fun _ => K1 _ rfl) (fun z => absurd rfl z))))
theorem e_readEnd (q : tokP h N C V pl) (eN : hI h o_m 15 = nI N) (hd : 3 ≤ d) {x : Int32} : (∀ t lv, t ≤ N → (pLaw C V N).1 = decide (N ≤ t) → (t < N → (pLaw C V N).2.1 = t) → E cx jX12_reads d 0 73 [some (.ref o_m), some (.int x)] [] (pst h (nI t) lv (-1)) (rdQ h C V N pl)) ∧
    (∀ t2 lv2, (pLaw C V N).1 = false → E cx jX12_reads d 0 73 [some (.ref o_m), some (.int x)] [] (pst h t2 lv2 (nI (pl (pLaw C V N).2.1))) (rdQ h C V N pl)) := by
  have h4 := q.1
  have bad : ∀ t2 lv2, (pLaw C V N).1 = false → E cx jX12_reads d 0 95 [some (.ref o_m), some (.int x)] [] (pst h t2 lv2 (nI (pl (pLaw C V N).2.1))) (rdQ h C V N pl) := fun t2 lv2 no => by
    have eb : lwB C V N pl = nI (pl (pLaw C V N).2.1) := by unfold lwB; rw [if_neg (by rw [no]; exact Bool.noConfusion)]
    have fi : M cx jX12_fine (d - 1) 0 [.ref o_m] (wI (pst h t2 lv2 (nI (pl (pLaw C V N).2.1))) o_m 11 (hI (pst h t2 lv2 (nI (pl (pLaw C V N).2.1))) o_m 18)) (RQ (.int 0) (wI (pst h t2 lv2 (nI (pl (pLaw C V N).2.1))) o_m 11 (hI (pst h t2 lv2 (nI (pl (pLaw C V N).2.1))) o_m 18))) :=
      sX12_fine rfl (And.intro (fun q1 => (eX12_fine (eX12_fine (And.intro (Or.inl rfl) ⟨rfl, rfl⟩)))) (fun q1 => absurd (by rw [← ps_18 (h := h) (t := t2) (lv := lv2) (bd := nI (pl (pLaw C V N).2.1))]; rw [rd_k (by decide)] at q1; exact q1) (pl_ne q (t := (pLaw C V N).2.1))))
    refine eX12_reads (wcV fi (And.intro (Or.inl rfl) ⟨?_, t2, lv2, ?_⟩))
    · rw [no]; rfl
    · rw [ps_18, eb]
  refine ⟨fun t lv ht e1 e2 => ?_, fun t2 lv2 no => ?_⟩
  · have e16 : hI (pst h (nI t) lv (-1)) o_m 16 = nI t := ps_16
    have e15 : hI (pst h (nI t) lv (-1)) o_m 15 = nI N := by rw [ps_k (by decide) (by decide) (by decide)]; exact eN
    refine eX12_reads (wcV n_fineT (And.intro (fun z => absurd z (by decide)) (fun _ => And.intro (fun q1 => ?_) (fun q1 => ?_))))
    · rw [e16, e15] at q1
      have nt : N ≤ t := (nI_leI (by omega) (by omega)).mp q1
      have ok : (pLaw C V N).1 = true := by rw [e1]; exact decide_eq_true nt
      have eb : lwB C V N pl = -1 := if_pos ok
      have fi : M cx jX12_fine (d - 1) 0 [.ref o_m] (wI (pst h (nI t) lv (-1)) o_m 11 (hI (pst h (nI t) lv (-1)) o_m 18)) (RQ (.int 1) (wI (pst h (nI t) lv (-1)) o_m 11 (hI (pst h (nI t) lv (-1)) o_m 18))) :=
        sX12_fine rfl (And.intro (fun q1 => absurd (by rw [rd_k (by decide)]; exact ps_18) q1) (fun q1 => (eX12_fine (And.intro (Or.inr rfl) ⟨rfl, rfl⟩))))
      refine eX12_reads (wcV fi (And.intro (Or.inr rfl) ⟨?_, nI t, lv, ?_⟩))
      · rw [ok]; rfl
      · rw [ps_18, eb]
    · rw [e16, e15] at q1
      have nt : t < N := Nat.lt_of_not_le fun z => q1 (nI_le z (by omega))
      have no : (pLaw C V N).1 = false := by rw [e1]; exact decide_eq_false (by omega)
      have et := e2 nt
      have := bad (nI t) lv no
      rw [et] at this
      exact wcV0 (n_faultsT (by omega) q ht) this
  · exact eX12_reads (wcV (n_fineF (pl_ne q)) (And.intro (fun _ => bad t2 lv2 no) (fun z => absurd rfl z)))
theorem n_reads (hd : 53 ≤ d) {b : Nat → Int32} {n : Nat} (hn : n ≤ 400) (e10 : hI h o_m 10 = nI n) (hb : isBy b) (tp : ∀ k, k < 400 → hI h o_m_tape k = sg (b k)) (wd : ∀ k, k < 64 → hI h o_m_words k = wdB.getD k 0) : M cx jX12_reads d 0 [.ref o_m] h (fun r g => ∃ g1 N, keepT h g1 ∧ N ≤ n ∧ tkS b n N = n ∧ (∀ t, t < N → tkS b n t < n) ∧ hI g1 o_m 15 = nI N ∧ tokP g1 N (tC b n) (tV b n) (tkS b n) ∧ rdQ (wI g1 o_m 10 0) (tC b n) (tV b n) N (tkS b n) r g) := by
  have sp := n_splits (cx := cx) (d := d - 1) (a := 0) (h := h) (b := b) (n := n) (by omega) hn hb tp wd
  rw [← e10] at sp
  refine sX12_reads rfl (wcQ sp (fun v g1 z => ?_) (fun v g1 z => congrArg (fun z => z.2.2.2) z.2.1.1))
  obtain ⟨rfl, kt, N, hN, tN, tl, e15, tk⟩ := z
  generalize tC b n = C at *
  generalize tV b n = V at *
  generalize tkS b n = pl at *
  have tk2 : tokP (wI g1 o_m 10 0) N C V pl := ⟨tk.1, fun k hk => by rw [rd_o (by decide), rd_o (by decide), rd_o (by decide)]; exact tk.2.1 k hk, tk.2.2⟩
  have f15 : hI (wI g1 o_m 10 0) o_m 15 = nI N := by rw [rd_k (by decide)]; exact e15
  have hC := tk.2.2.1
  have h4 := tk.1
  have cl := n_readClause (cx := cx) (d := d - 1) tk2 (t := 0) (lv := 0) (by omega) (by omega) (by omega)
  refine wcQ cl (fun v G z => ?_) rQ_N
  have wrap : ∀ x H, E cx jX12_reads d 0 x [some (.ref o_m), some (.int 1)] [] H (rdQ (wI g1 o_m 10 0) C V N pl) → E cx jX12_reads d 0 x [some (.ref o_m), some (.int 1)] [] H (fun r g => ∃ g1 N, keepT h g1 ∧ N ≤ n ∧ pl N = n ∧ (∀ t, t < N → pl t < n) ∧ hI g1 o_m 15 = nI N ∧ tokP g1 N C V pl ∧ rdQ (wI g1 o_m 10 0) C V N pl r g) := fun x H k => E_mono k fun r g z => ⟨g1, N, kt, hN, tN, tl, e15, tk, z⟩
  have mo := mono_clause (V := V) hC 0 0 (Nat.zero_le _)
  have l50 := lvb_clause (C := C) (V := V) 0 0 (by decide)
  obtain ⟨rfl, ⟨ok, rfl⟩ | ⟨ok, t2, lv2, rfl⟩⟩ := z
  · refine wrap 34 _ ((e_readMore tk2 (by omega) (fun _ _ _ _ _ _ => trivial)).2 11 (pClause C V 0 0).2.1 (pClause C V 0 0).2.2.1 [(pClause C V 0 0).2.2.2] (by decide) mo.2.1 l50 (fun x okm => ?_) (fun x t2 lv2 no => ?_))
    · have ml := more_le (V := V) hC 11 (pClause C V 0 0).2.1 (pClause C V 0 0).2.2.1 [(pClause C V 0 0).2.2.2] mo.2.1
      refine (e_readEnd tk2 f15 (by omega)).1 _ _ ml ?_ (fun lt => ?_)
      · unfold pLaw; rw [if_pos ok, if_pos okm]
      · unfold pLaw; rw [if_pos ok, if_pos okm]
    · have eL : pLaw C V N = (false, (pMore C V 11 (pClause C V 0 0).2.1 (pClause C V 0 0).2.2.1 [(pClause C V 0 0).2.2.2]).2.1, []) := by unfold pLaw; rw [if_pos ok, if_neg (by rw [no]; exact Bool.noConfusion)]
      have := (e_readEnd (cx := cx) (x := x) tk2 f15 (by omega : 3 ≤ d)).2 t2 lv2 (by rw [eL])
      rw [eL] at this
      exact this
  · have eL : pLaw C V N = (false, (pClause C V 0 0).2.1, []) := by unfold pLaw; rw [if_neg (by rw [ok]; exact Bool.noConfusion)]
    have := (e_readEnd (cx := cx) (x := 1) tk2 f15 (by omega : 3 ≤ d)).2 t2 lv2 (by rw [eL])
    rw [eL] at this
    exact wrap 34 _ ((e_readMore tk2 (by omega) (fun _ _ _ _ _ _ => trivial)).1 _ _ _ _ (pl_ne tk2) this)
end T85
