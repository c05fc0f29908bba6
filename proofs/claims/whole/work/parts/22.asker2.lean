/-! the asker changes nothing but itself; clause by clause -/
section T22
variable {cx : Cx} {d a : Nat} {h : Hp}
/-- g is h but for the asker -/
def sameA (h g : Hp) : Prop := (∀ o k, o ≠ o_asker → hI g o k = hI h o k) ∧ (∀ o k, o ≠ o_asker_stack → hJ g o k = hJ h o k) ∧ g.2.2 = h.2.2
theorem sameA_r : sameA h h := ⟨fun _ _ _ => rfl, fun _ _ _ => rfl, rfl⟩
theorem sameA_t {g f : Hp} (x : sameA h g) (y : sameA g f) : sameA h f := ⟨fun o k n => (y.1 o k n).trans (x.1 o k n), fun o k n => (y.2.1 o k n).trans (x.2.1 o k n), y.2.2.trans x.2.2⟩
theorem sameA_wI {k : Nat} {v : Int32} : sameA h (wI h o_asker k v) := ⟨fun o k n => rd_o n, fun _ _ _ => rfl, rfl⟩
theorem sameA_push {v : Int64} : sameA h (pushH h v) := by
  unfold pushH; split
  · refine ⟨fun o k n => ?_, fun o k n => ?_, rfl⟩
    · exact rd_o n
    · show up2 h.2.1 o_asker_stack _ v o k = h.2.1 o k
      simp [up2, n]
  · exact sameA_r
theorem sameA_pop : sameA h (popH h) := by
  unfold popH; split
  · exact sameA_r
  · exact sameA_wI
theorem sameA_jn {k : Int32} {x y : Int64} : sameA h (jnH h k x y) := by
  unfold jnH; split
  · exact sameA_r
  · exact sameA_wI
theorem sameA_vst {o : Nat} {p i : Int32} : sameA h (vst h o p i).1 := by
  unfold vst
  split
  · exact sameA_push
  split
  · exact sameA_push
  split
  · exact sameA_t sameA_pop sameA_push
  split
  · split
    · exact sameA_t sameA_pop sameA_push
    · exact sameA_pop
  · exact sameA_t (sameA_t (sameA_t sameA_pop sameA_pop) sameA_jn) sameA_push
theorem sameA_valR {o : Nat} {p T : Int32} : ∀ (n : Nat) (i : Int32) (g : Hp), sameA g (valR o p T n i g) := by
  intro n
  induction n with
  | zero => intro i g; exact sameA_r
  | succ n ih =>
    intro i g
    unfold valR
    split
    · exact sameA_r
    split
    · exact sameA_r
    · exact sameA_t sameA_vst (ih _ _)
theorem sameA_as0 : sameA h (as0 h) := sameA_t sameA_wI sameA_wI
theorem sameA_vlH {o : Nat} {part p : Int32} : sameA h (vlH h o part p) := sameA_t sameA_as0 (sameA_t (sameA_valR _ _ _) sameA_pop)
theorem sameA_isSoH {o : Nat} {part p : Int32} : sameA h (isSoH h o part p) := by
  unfold isSoH; split
  · exact sameA_r
  · exact sameA_vlH
theorem sameA_N {g : Hp} (x : sameA h g) : hN g = hN h := congrArg (fun z => z.2.2) x.2.2
theorem sameA_L {g : Hp} (x : sameA h g) (o : Nat) : hL g o = hL h o := congrArg (fun z => z.2.1 o) x.2.2
theorem lawok_same {g : Hp} {o : Nat} (x : sameA h g) (q : lawok h o) : lawok g o := by
  unfold lawok lawp at *
  rw [sameA_N x, sameA_L x, sameA_L x]; exact q
theorem fStart_same {g : Hp} {o : Nat} {i : Int32} (x : sameA h g) (q : 126 ≤ o) : fStart g o i = fStart h o i := by
  unfold fStart; rw [sameA_L x, sameA_L x, x.1 (o + 2) _ (by show o + 2 ≠ 85; omega)]
/-- a law as it stands: so many clauses, its starts within its code -/
def lawC (h : Hp) (o C : Nat) : Prop := lawok h o ∧ C ≤ 12 ∧ hI h o 2 = nI C ∧ ∀ k, k ≤ 2 * C → ∃ m, m ≤ 400 ∧ fStart h o (nI k) = nI m
theorem lawC_same {g : Hp} {o C : Nat} (x : sameA h g) (q : lawC h o C) : lawC g o C := ⟨lawok_same x q.1, q.2.1, by rw [x.1 o 2 (by have := q.1.1.1; show o ≠ 85; omega)]; exact q.2.2.1, fun k hk => by rw [fStart_same x q.1.1.1]; exact q.2.2.2 k hk⟩
theorem lawC_vok {o C k : Nat} (q : lawC h o C) (hk : k < 2 * C) : vok h o (nI k) := by
  obtain ⟨S, hS, eS⟩ := q.2.2.2 k (by omega)
  obtain ⟨T, hT, eT⟩ := q.2.2.2 (k + 1) (by omega)
  exact ⟨S, T, hS, hT, eS, by rw [← nI_succ]; exact eT⟩
theorem two_c (c : Nat) : (2 : Int32) * nI c = nI (2 * c) := by rw [show (2 : Int32) = nI 2 from rfl, pk_mul]
theorem two_c1 (c : Nat) : (2 : Int32) * nI c + 1 = nI (2 * c + 1) := by rw [two_c, nI_succ]
/-- clause c binds the place p -/
def bdQ (g : Hp) (o : Nat) (p : Int32) (c : Nat) : Prop := sEmp g o (nI (2 * c)) ∧ isSoP g o (nI (2 * c + 1)) p
noncomputable def bdN (g : Hp) (o : Nat) (p : Int32) (c : Nat) : Hp := @ite _ (sEmp g o (nI (2 * c))) (Classical.propDecidable _) (isSoH g o (nI (2 * c + 1)) p) g
noncomputable def bdR (o : Nat) (p : Int32) : Nat → Nat → Hp → Prop × Hp
  | 0, _, g => (False, g)
  | n + 1, c, g => @ite _ (bdQ g o p c) (Classical.propDecidable _) (True, bdN g o p c) (bdR o p n (c + 1) (bdN g o p c))
theorem sameA_bdN {o : Nat} {p : Int32} {c : Nat} : sameA h (bdN h o p c) := by
  unfold bdN; split
  · exact sameA_isSoH
  · exact sameA_r
theorem sameA_bdR {o : Nat} {p : Int32} : ∀ (n c : Nat) (g : Hp), sameA g (bdR o p n c g).2 := by
  intro n
  induction n with
  | zero => intro c g; exact sameA_r
  | succ n ih =>
    intro c g
    unfold bdR
    split
    · exact sameA_bdN
    · exact sameA_t sameA_bdN (ih _ _)
theorem m_isBoundA (hd : 4 ≤ d) {o C : Nat} {p : Int32} (q : lawC h o C) : M cx jX0_isBound d a [.ref o_asker, .ref o, .ref o_wall, .int p] h (RQ (.int (b2i (bdR o p C 0 h).1)) (bdR o p C 0 h).2) := by
  have loop : ∀ n c g, n + c = C → lawC g o C → hN g = hN h → bdR o p n c g = bdR o p C 0 h → E cx jX0_isBound d a 3 [some (.ref o_asker), some (.ref o), some (.ref o_wall), some (.int p), some (.int (nI c))] [] g (RQ (.int (b2i (bdR o p C 0 h).1)) (bdR o p C 0 h).2) := by
    intro n
    induction n with
    | zero =>
      intro c g hc qg en e
      have hC := qg.2.1
      have qc : hI g o 2 = nI C := qg.2.2.1
      refine eX0_isBound (And.intro qg.1.1 (And.intro (fun _ => eX0_isBound (And.intro (Or.inl rfl) (RQ_eq' ?_ ?_))) (fun z => absurd ?_ z)))
      · rw [← e]; exact (b2i_f id).symm
      · rw [← e]; rfl
      · rw [qc]; exact nI_le (by omega) (by omega)
    | succ n ih =>
      intro c g hc qg en e
      have hC := qg.2.1
      have qc : hI g o 2 = nI C := qg.2.2.1
      have go : ∀ g', bdN g o p c = g' → ¬ bdQ g o p c → E cx jX0_isBound d a 41 [some (.ref o_asker), some (.ref o), some (.ref o_wall), some (.int p), some (.int (nI c))] [] g' (RQ (.int (b2i (bdR o p C 0 h).1)) (bdR o p C 0 h).2) := fun g' eg nq => by
        subst eg
        refine eX0_isBound (e_eq (ih (c + 1) _ (by omega) (lawC_same sameA_bdN qg) ((sameA_N sameA_bdN).trans en) ?_) ?_ rfl rfl)
        · rw [← e, bdR, if_neg nq]
        · rw [nI_succ]; rfl
      refine eX0_isBound (And.intro qg.1.1 (And.intro (fun z => absurd z ?_) (fun _ => wcV (m_isEmptyPart (by omega) qg.1) (And.intro (fun z => go g ?_ ?_) (fun z => wcV (m_isSo (by omega) qg.1 ?_) (And.intro (fun y => go _ ?_ ?_) (fun y => And.intro (Or.inr rfl) (RQ_eq' ?_ ?_))) (hok := Or.inr (sameA_N sameA_isSoH)))) qg.1.1)))
      · rw [qc]; exact nI_ge (by omega) (by omega)
      · have z : ¬ sEmp g o (nI (2 * c)) := by have := b2i_0.mp z; rw [two_c] at this; exact this
        unfold bdN; rw [if_neg z]
      · have z : ¬ sEmp g o (nI (2 * c)) := by have := b2i_0.mp z; rw [two_c] at this; exact this
        exact fun y => z y.1
      · rw [two_c1]; exact lawC_vok qg (by omega)
      · have z : sEmp g o (nI (2 * c)) := by have := b2i_n z; rw [two_c] at this; exact this
        unfold bdN; rw [if_pos z, two_c1]
      · have y := b2i_0.mp y
        rw [two_c1] at y
        exact fun x => y x.2
      · have z : sEmp g o (nI (2 * c)) := by have := b2i_n z; rw [two_c] at this; exact this
        have y := b2i_n y
        rw [two_c1] at y
        rw [← e, bdR, if_pos ⟨z, y⟩]; exact (b2i_t trivial).symm
      · have z : sEmp g o (nI (2 * c)) := by have := b2i_n z; rw [two_c] at this; exact this
        have y := b2i_n y
        rw [two_c1] at y ⊢
        rw [← e, bdR, if_pos ⟨z, y⟩]
        show _ = bdN g o p c
        unfold bdN; rw [if_pos z]
  exact sX0_isBound rfl (loop C 0 h (by omega) q rfl rfl)
def clampL (v : Int64) : Int32 := (if (if v < 12 then v else 12) < 0 then 0 else (if v < 12 then v else 12)).toInt32
/-- clause c, as it changes what is needed -/
noncomputable def ndS (g : Hp) (o : Nat) (p : Int32) (c : Nat) (nd : Int32) : Int32 × Hp :=
  @ite _ (sEmp g o (nI (2 * c))) (Classical.propDecidable _) (nd, g)
    (@ite _ (isSoP g o (nI (2 * c + 1)) p) (Classical.propDecidable _)
      (if hI (vlH (isSoH g o (nI (2 * c + 1)) p) o (nI (2 * c)) p) o_asker 2 = 0 then clampL (vlV (isSoH g o (nI (2 * c + 1)) p) o (nI (2 * c)) p) else nd, vlH (isSoH g o (nI (2 * c + 1)) p) o (nI (2 * c)) p)
      (nd, isSoH g o (nI (2 * c + 1)) p))
noncomputable def ndR (o : Nat) (p : Int32) : Nat → Nat → Int32 → Hp → Int32 × Hp
  | 0, _, nd, g => (nd, g)
  | n + 1, c, nd, g => ndR o p n (c + 1) (ndS g o p c nd).1 (ndS g o p c nd).2
theorem sameA_ndS {o : Nat} {p : Int32} {c : Nat} {nd : Int32} : sameA h (ndS h o p c nd).2 := by
  unfold ndS; split
  · exact sameA_r
  split
  · exact sameA_t sameA_isSoH sameA_vlH
  · exact sameA_isSoH
theorem sameA_ndR {o : Nat} {p : Int32} : ∀ (n c : Nat) (nd : Int32) (g : Hp), sameA g (ndR o p n c nd g).2 := by
  intro n
  induction n with
  | zero => intro c nd g; exact sameA_r
  | succ n ih => intro c nd g; exact sameA_t sameA_ndS (ih _ _ _)
theorem m_need (hd : 4 ≤ d) {o C : Nat} {p nd0 : Int32} (q : lawC h o C) : M cx jX0_need d a [.ref o_asker, .ref o, .ref o_wall, .int p, .int nd0] h (RQ (.int (ndR o p C 0 nd0 h).1) (ndR o p C 0 nd0 h).2) := by
  have loop : ∀ n c nd g, n + c = C → lawC g o C → hN g = hN h → ndR o p n c nd g = ndR o p C 0 nd0 h → E cx jX0_need d a 7 [some (.ref o_asker), some (.ref o), some (.ref o_wall), some (.int p), some (.int nd0), some (.int nd), some (.int (nI c)), none, none] [] g (RQ (.int (ndR o p C 0 nd0 h).1) (ndR o p C 0 nd0 h).2) := by
    intro n
    induction n with
    | zero =>
      intro c nd g hc qg en e
      have hC := qg.2.1
      have qc : hI g o 2 = nI C := qg.2.2.1
      refine eX0_need (And.intro qg.1.1 (And.intro (fun _ => eX0_need (RQ_eq' ?_ ?_)) (fun z => absurd ?_ z)))
      · rw [← e]; rfl
      · rw [← e]; rfl
      · rw [qc]; exact nI_le (by omega) (by omega)
    | succ n ih =>
      intro c nd g hc qg en e
      have hC := qg.2.1
      have qc : hI g o 2 = nI C := qg.2.2.1
      have go : ∀ g' nd' w, ndS g o p c nd = (nd', g') → E cx jX0_need d a 83 [some (.ref o_asker), some (.ref o), some (.ref o_wall), some (.int p), some (.int nd0), some (.int nd'), some (.int (nI c)), w, none] [] g' (RQ (.int (ndR o p C 0 nd0 h).1) (ndR o p C 0 nd0 h).2) := fun g' nd' w es => by
        have i1 := ih (c + 1) (ndS g o p c nd).1 (ndS g o p c nd).2 (by omega) (lawC_same sameA_ndS qg) ((sameA_N sameA_ndS).trans en) (by rw [← e, ndR])
        rw [es] at i1
        refine e_clr 7 (eX0_need (e_eq i1 ?_ rfl rfl))
        rw [nI_succ]; rfl
      refine eX0_need (And.intro qg.1.1 (And.intro (fun z => absurd z ?_) (fun _ => wcV (m_isEmptyPart (by omega) qg.1) (And.intro (fun z => go g nd _ ?_) (fun z => wcV (m_isSo (by omega) qg.1 ?_) (And.intro (fun y => go _ nd _ ?_) (fun y => wcV (m_value (by omega) (lawok_same sameA_isSoH qg.1) ?_) (And.intro (fun x => eX0_need (And.intro ⟨Nat.le_of_ble_eq_true rfl, by omega⟩ (And.intro ⟨Nat.le_of_ble_eq_true rfl, by omega⟩ (eX0_need (go _ _ _ ?_))))) (fun x => eX0_need (go _ _ _ ?_))) (hok := Or.inr (sameA_N sameA_vlH)))) (hok := Or.inr (sameA_N sameA_isSoH)))) qg.1.1)))
      · rw [qc]; exact nI_ge (by omega) (by omega)
      · have z : sEmp g o (nI (2 * c)) := by have := b2i_n z; rw [two_c] at this; exact this
        unfold ndS; rw [if_pos z]
      · rw [two_c1]; exact lawC_vok qg (by omega)
      · have z : ¬ sEmp g o (nI (2 * c)) := by have := b2i_0.mp z; rw [two_c] at this; exact this
        have y := b2i_0.mp y
        rw [two_c1] at y ⊢
        unfold ndS; rw [if_neg z, if_neg y]
      · rw [two_c]; exact lawC_vok (lawC_same sameA_isSoH qg) (by omega)
      · have z : ¬ sEmp g o (nI (2 * c)) := by have := b2i_0.mp z; rw [two_c] at this; exact this
        have y := b2i_n y
        rw [two_c1, two_c] at *
        unfold ndS; rw [if_neg z, if_pos y, if_pos x]; rfl
      · have z : ¬ sEmp g o (nI (2 * c)) := by have := b2i_0.mp z; rw [two_c] at this; exact this
        have y := b2i_n y
        rw [two_c1, two_c] at *
        unfold ndS; rw [if_neg z, if_pos y, if_neg x]
  exact sX0_need rfl (loop C 0 nd0 h (by omega) q rfl rfl)
end T22
