/-! rows of stones; the model's way -/
def layW (w : Wd) (k : Nat) (x y wd tl wt : Int32) : Wd := updW (updW (updW (updW (updW (updW (updW w (7 * k + 0) x) (7 * k + 1) y) (7 * k + 2) wd) (7 * k + 3) tl) (7 * k + 4) wt) (7 * k + 5) 0) (7 * k + 6) 0
def addW (w : Wd) (n : Nat) (x y wd tl wt : Int32) : Wd := updW (updW (layW w n x y wd tl wt) 159 (w 159 ||| one n)) 157 (nI (n + 1))
def spaW (w : Wd) (n : Nat) (x y wd tl wt : Int32) : Wd := updW (layW w (14 + n) x y wd tl wt) 158 (nI (n + 1))
def rwC (w : Wd) (x y wd tl wt : Int32) : Prop := cCan x y wd tl wt ∧ w 157 < 14 ∧ cFree w x y wd.toNatClampNeg tl.toNatClampNeg
noncomputable def rwF (w0 : Wd) (B : Nat → Int32) : Nat → Wd × Int32 × Int32
  | 0 => (w0, 0, 0)
  | i + 1 => @ite _ (rwC (rwF w0 B i).1 (B (5 * i)) (B (5 * i + 1)) (B (5 * i + 2)) (B (5 * i + 3)) (B (5 * i + 4))) (Classical.propDecidable _) (addW (rwF w0 B i).1 ((rwF w0 B i).1 157).toNatClampNeg (B (5 * i)) (B (5 * i + 1)) (B (5 * i + 2)) (B (5 * i + 3)) (B (5 * i + 4)), (rwF w0 B i).2.1 + 1, (rwF w0 B i).2.2) ((rwF w0 B i).1, (rwF w0 B i).2.1, (rwF w0 B i).2.2 + 1)
def keepR (h g : Hp) : Prop := g.2 = h.2 ∧ ∀ o k, o ≠ 106 → ¬ (o = 104 ∧ (k = 6 ∨ k = 10)) → hI g o k = hI h o k
section T79
variable {cx : Cx} {d a c : Nat} {h g f : Hp} {w : Wd} {A : Ab}
theorem layW_o {k i : Nat} {x y wd tl wt : Int32} (hi : i < 7 * k ∨ 7 * k + 7 ≤ i) : layW w k x y wd tl wt i = w i := by
  unfold layW
  rw [updW_n (by omega), updW_n (by omega), updW_n (by omega), updW_n (by omega), updW_n (by omega), updW_n (by omega), updW_n (by omega)]
theorem kW_lay {k : Nat} {x y wd tl wt : Int32} : kW (nlayH h k x y wd tl wt) = layW (kW h) k x y wd tl wt := by
  unfold nlayH layW; rw [kW_w, kW_w, kW_w, kW_w, kW_w, kW_w, kW_w]
theorem kW_add {n : Nat} {x y wd tl wt : Int32} (en : kW h 157 = nI n) (hn : n < 14) : kW (naddH h n x y wd tl wt) = addW (kW h) n x y wd tl wt := by
  unfold naddH addW
  rw [kW_w, kW_w, kW_lay, layW_o (i := 159) (by omega), updW_n (by decide), layW_o (i := 157) (by omega), en, nI_succ]
theorem kW_spa {n : Nat} {x y wd tl wt : Int32} (en : kW h 158 = nI n) (hn : n < 8) : kW (nspaH h n x y wd tl wt) = spaW (kW h) n x y wd tl wt := by
  unfold nspaH spaW
  rw [kW_w, kW_lay, layW_o (i := 158) (by omega), en, nI_succ]
theorem nlay_o {k o i : Nat} {x y wd tl wt : Int32} (n : o ≠ 106) : hI (nlayH h k x y wd tl wt) o i = hI h o i := by
  unfold nlayH; rw [rd_o n, rd_o n, rd_o n, rd_o n, rd_o n, rd_o n, rd_o n]
theorem nadd_o {n o i : Nat} {x y wd tl wt : Int32} (ne : o ≠ 106) : hI (naddH h n x y wd tl wt) o i = hI h o i := by
  unfold naddH; rw [rd_o ne, rd_o ne, nlay_o ne]
theorem nspa_o {n o i : Nat} {x y wd tl wt : Int32} (ne : o ≠ 106) : hI (nspaH h n x y wd tl wt) o i = hI h o i := by
  unfold nspaH; rw [rd_o ne, nlay_o ne]
theorem nadd_2 {n : Nat} {x y wd tl wt : Int32} : (naddH h n x y wd tl wt).2 = h.2 := rfl
theorem add_157 {n : Nat} {x y wd tl wt : Int32} : addW w n x y wd tl wt 157 = nI (n + 1) := updW_s
theorem rw_yes {B : Nat → Int32} {w0 : Wd} {i : Nat} (y : rwC (rwF w0 B i).1 (B (5 * i)) (B (5 * i + 1)) (B (5 * i + 2)) (B (5 * i + 3)) (B (5 * i + 4))) : rwF w0 B (i + 1) = (addW (rwF w0 B i).1 ((rwF w0 B i).1 157).toNatClampNeg (B (5 * i)) (B (5 * i + 1)) (B (5 * i + 2)) (B (5 * i + 3)) (B (5 * i + 4)), (rwF w0 B i).2.1 + 1, (rwF w0 B i).2.2) := if_pos y
theorem rw_no {B : Nat → Int32} {w0 : Wd} {i : Nat} (y : ¬ rwC (rwF w0 B i).1 (B (5 * i)) (B (5 * i + 1)) (B (5 * i + 2)) (B (5 * i + 3)) (B (5 * i + 4))) : rwF w0 B (i + 1) = ((rwF w0 B i).1, (rwF w0 B i).2.1, (rwF w0 B i).2.2 + 1) := if_neg y
theorem lt14 {v : Int32} {n : Nat} (e : v = nI n) (hn : n ≤ 14) (q : v < 14) : n < 14 := by
  rw [e] at q; exact (nI_ltI (b := 14) (by omega) (by decide)).mp q
theorem rw_n {B : Nat → Int32} {w0 : Wd} (h0 : ∃ n, n ≤ 14 ∧ w0 157 = nI n) : ∀ i, ∃ n, n ≤ 14 ∧ (rwF w0 B i).1 157 = nI n := by
  intro i
  induction i with
  | zero => exact h0
  | succ i ih =>
    obtain ⟨n, hn, en⟩ := ih
    by_cases y : rwC (rwF w0 B i).1 (B (5 * i)) (B (5 * i + 1)) (B (5 * i + 2)) (B (5 * i + 3)) (B (5 * i + 4))
    · rw [rw_yes y, en, nI_clamp (by omega)]
      refine ⟨n + 1, by have := lt14 en hn y.2.1; omega, ?_⟩
      exact add_157 (w := (rwF w0 B i).1) (x := B (5 * i)) (y := B (5 * i + 1)) (wd := B (5 * i + 2)) (tl := B (5 * i + 3)) (wt := B (5 * i + 4))
    · rw [rw_no y]; exact ⟨n, hn, en⟩
theorem keepR_t (p : keepR h g) (q : keepR g f) : keepR h f := ⟨q.1.trans p.1, fun o k n1 n2 => (q.2 o k n1 n2).trans (p.2 o k n1 n2)⟩
/-- a byte that can be a stone's is no negative one -/
theorem sg_small {b : Nat} (hb : b < 128) : sg (nI b) = nI b := fb_byte (by rw [nI_toInt (by omega)]; omega) (by rw [nI_toInt (by omega)]; omega)
theorem sg_neg : ∀ b, b < 256 → 128 ≤ b → sg (nI b) < 0 := by decide +kernel
theorem can_in {x y wd tl wt : Int32} (q : cCan x y wd tl wt) : (0 ≤ x ∧ x < 128) ∧ (0 ≤ y ∧ y < 128) ∧ (0 ≤ wd ∧ wd < 128) ∧ (0 ≤ tl ∧ tl < 128) ∧ (0 ≤ wt ∧ wt < 128) := by
  obtain ⟨⟨a1, a2⟩, ⟨b1, b2⟩, ⟨c1, c2⟩, ⟨d1, d2⟩, ⟨e1, e2⟩⟩ := q
  obtain ⟨A, B, rfl, rfl, hA, hA6, hB, hB6⟩ := can_nat (x := x) (y := y) (wt := wt) ⟨⟨a1, a2⟩, ⟨b1, b2⟩, ⟨c1, c2⟩, ⟨d1, d2⟩, ⟨e1, e2⟩⟩
  rw [show (12 : Int32) = nI 12 from rfl, pk_sub (by omega)] at c2
  rw [show (8 : Int32) = nI 8 from rfl, pk_sub (by omega)] at d2
  rw [Int32.le_iff_toInt_le] at c1 c2 d1 d2 e1 e2
  rw [nI_toInt (by omega)] at c2 d2
  simp only [Int32.le_iff_toInt_le, Int32.lt_iff_toInt_lt]
  rw [nI_toInt (by omega), nI_toInt (by omega)]
  have z0 : (0 : Int32).toInt = 0 := rfl
  have z1 : (1 : Int32).toInt = 1 := rfl
  have z99 : (99 : Int32).toInt = 99 := rfl
  have z128 : (128 : Int32).toInt = 128 := rfl
  omega
theorem sg_can {b : Int32} (hb : ∃ k, k < 256 ∧ b = nI k) (q : (0 ≤ sg b ∧ sg b < 128) ∨ (0 ≤ b ∧ b < 128)) : sg b = b := by
  obtain ⟨k, hk, rfl⟩ := hb
  by_cases l : k < 128
  · exact sg_small l
  · exfalso
    rcases q with q | q
    · exact absurd (sg_neg k hk (by omega)) (Int32.not_lt.mpr q.1)
    · exact absurd q.2 (nI_nlt (b := 128) (by omega) (by omega))
theorem sg5 {b0 b1 b2 b3 b4 : Int32} (h0 : ∃ k, k < 256 ∧ b0 = nI k) (h1 : ∃ k, k < 256 ∧ b1 = nI k) (h2 : ∃ k, k < 256 ∧ b2 = nI k) (h3 : ∃ k, k < 256 ∧ b3 = nI k) (h4 : ∃ k, k < 256 ∧ b4 = nI k) (q : cCan (sg b0) (sg b1) (sg b2) (sg b3) (sg b4) ∨ cCan b0 b1 b2 b3 b4) : sg b0 = b0 ∧ sg b1 = b1 ∧ sg b2 = b2 ∧ sg b3 = b3 ∧ sg b4 = b4 := by
  rcases q with q | q
  · obtain ⟨a, b, c, d, e⟩ := can_in q
    exact ⟨sg_can h0 (Or.inl a), sg_can h1 (Or.inl b), sg_can h2 (Or.inl c), sg_can h3 (Or.inl d), sg_can h4 (Or.inl e)⟩
  · obtain ⟨a, b, c, d, e⟩ := can_in q
    exact ⟨sg_can h0 (Or.inr a), sg_can h1 (Or.inr b), sg_can h2 (Or.inr c), sg_can h3 (Or.inr d), sg_can h4 (Or.inr e)⟩
theorem n_row_no (hd : 1 ≤ d) (z : hI h o_m 10 = 0) : M cx jX12_row d a [.ref o_m] h (RQ (.int (-6)) (nrefH (wI h o_m 10 0) (-6) 6)) :=
  sX12_row rfl (And.intro (fun q1 => absurd z q1) (fun q1 => (wcV (n_refuses rfl (by decide)) ⟨rfl, rfl⟩)))
def rw0 (t : Nat) : Int32 := if t % 5 = 0 then 0 else 1
def rowQ (h : Hp) (B : Nat → Int32) (t : Nat) : Option Value → Hp → Prop := fun v g => v = some (.int (rwF (kW h) B (t / 5)).2.1) ∧ ∃ G, keepR h G ∧ kW G = (rwF (kW h) B (t / 5)).1 ∧ hI G o_m 10 = 0 ∧ hI G o_m 6 = rw0 t + (rwF (kW h) B (t / 5)).2.2 ∧ g = ngoodH G
theorem n_row_ok (hd : 5 ≤ d) {B : Nat → Int32} {t : Nat} (et : hI h o_m 10 = nI t) (ht : 0 < t) (ht4 : t ≤ 400) (hB : ∀ k, ∃ b, b < 256 ∧ B k = nI b) (tp : ∀ k, k < 400 → hI h o_m_tape k = sg (B k)) (h0 : ∃ n, n ≤ 14 ∧ kW h 157 = nI n) : M cx jX12_row d a [.ref o_m] h (rowQ h B t) := by
  generalize eF : rwF (kW h) B = F
  have loop : ∀ r i, r + i = t / 5 → ∀ g l4, keepR h g → kW g = (F i).1 → hI g o_m 10 = 0 → hI g o_m 6 = rw0 t + (F i).2.2 → E cx jX12_row d a 40 [some (.ref o_m), some (.int (nI t)), some (.int (F i).2.1), some (.int (nI (5 * i))), l4] [] g (rowQ h B t) := by
    intro r
    induction r with
    | zero =>
      intro i hi g l4 kr eW e10 e6
      obtain rfl : i = t / 5 := by omega
      have e5 : nI (5 * (t / 5)) + 5 = nI (5 * (t / 5) + 5) := by rw [show (5 : Int32) = nI 5 from rfl, nI_add]
      refine eX12_row (And.intro (fun q1 => (eX12_row (wcV n_good ⟨?_, g, kr, ?_, e10, ?_, rfl⟩))) (fun q1 => absurd ?_ q1))
      · rw [eF]
      · rw [eF]; exact eW
      · rw [eF]; exact e6
      · rw [e5]; exact nI_lt (by omega) (by omega)
    | succ r ih =>
      intro i hi g l4 kr eW e10 e6
      obtain ⟨n, hn, en⟩ := rw_n (B := B) h0 i
      rw [eF] at en
      have e5 : nI (5 * i) + 5 = nI (5 * (i + 1)) := by rw [show (5 : Int32) = nI 5 from rfl, nI_add, Nat.mul_succ]
      have i' := ih (i + 1) (by omega)
      rw [← e5] at i'
      have ix : ∀ j, j < 5 → nI (5 * i) + nI j = nI (5 * i + j) := fun j _ => by rw [nI_add]
      have vx : ∀ j, j < 5 → vp_in (nI (5 * i) + nI j) 400 := fun j hj => by rw [ix j hj]; exact vp_in_nI (by omega) (by decide)
      have v0 : vp_in (nI (5 * i)) 400 := vp_in_nI (by omega) (by decide)
      have bx : ∀ j, j < 5 → hI g o_m_tape (nI (5 * i) + nI j).toNatClampNeg = sg (B (5 * i + j)) := fun j hj => by rw [ix j hj, nI_clamp (by omega), kr.2 _ _ (by decide) (fun z => absurd z.1 (by decide))]; exact tp _ (by omega)
      have b0 : hI g o_m_tape (nI (5 * i)).toNatClampNeg = sg (B (5 * i)) := by rw [nI_clamp (by omega), kr.2 _ _ (by decide) (fun z => absurd z.1 (by decide))]; exact tp _ (by omega)
      have s5 := sg5 (hB (5 * i)) (hB (5 * i + 1)) (hB (5 * i + 2)) (hB (5 * i + 3)) (hB (5 * i + 4))
      -- behind the decision
      have j192 : ∀ (is : Int32) (G : Hp), (is = 1 ∨ is = 0) → keepR h G → kW G = (F (i + 1)).1 → hI G o_m 10 = 0 → hI G o_m 6 = rw0 t + (F i).2.2 → (F (i + 1)).2.1 = (F i).2.1 + is → (F (i + 1)).2.2 = (F i).2.2 + (1 - is) → E cx jX12_row d a 192 [some (.ref o_m), some (.int (nI t)), some (.int (F i).2.1), some (.int (nI (5 * i))), some (.int is)] [] G (rowQ h B t) := fun is G his kG eG g10 g6 f1 f2 => by
        have j220 : ∀ v, v = 1 - is → E cx jX12_row d a 220 [some (.ref o_m), some (.int (nI t)), some (.int ((F i).2.1 + is)), some (.int (nI (5 * i))), some (.int is)] [.int v, .int (hI G o_m 6), .ref o_m] G (rowQ h B t) := fun v ev => by
          subst ev
          have k := i' (wI G o_m 6 (hI G o_m 6 + (1 - is))) (some (.int is)) (keepR_t kG ⟨rfl, fun o k n1 n2 => by rw [rd_any, if_neg (fun z => n2 ⟨z.1, Or.inl z.2⟩)]⟩) (by rw [← eG]; exact funext fun k => rd_o (by decide)) (by rw [rd_k (by decide)]; exact g10) (by rw [rd_same, g6, f2, Int32.add_assoc])
          rw [f1] at k
          exact eX12_row k
        have j203 : ∀ v, v = is → E cx jX12_row d a 203 [some (.ref o_m), some (.int (nI t)), some (.int (F i).2.1), some (.int (nI (5 * i))), some (.int is)] [.int v, .int (F i).2.1] G (rowQ h B t) := fun v ev => by
          subst ev
          refine eX12_row (And.intro (fun q => (eX12_row (j220 1 ?_))) (fun q => (j220 0 ?_)))
          · rw [q]; rfl
          · rcases his with z | z
            · rw [z]; rfl
            · exact absurd z q
        refine eX12_row (And.intro (fun q => (eX12_row (j203 0 q.symm))) (fun q => (j203 1 ?_)))
        rcases his with z | z
        · exact z.symm
        · exact absurd z q
      have noo : ∀ l4, ¬ rwC (F i).1 (B (5 * i)) (B (5 * i + 1)) (B (5 * i + 2)) (B (5 * i + 3)) (B (5 * i + 4)) → E cx jX12_row d a 141 [some (.ref o_m), some (.int (nI t)), some (.int (F i).2.1), some (.int (nI (5 * i))), l4] [] g (rowQ h B t) := fun l4 no => by
        rw [← eF] at no
        have er := rw_no no
        rw [eF] at er
        refine eX12_row (eX12_row (And.intro (fun _ => j192 0 g (Or.inr rfl) kr (by rw [er]; exact eW) e10 e6 (by rw [er, Int32.add_zero]) (by rw [er]; rfl)) (fun z => absurd rfl z)))
      have can := n_canBe (cx := cx) (d := d - 1) (a := 0) (h := g) (x := hI g o_m_tape (nI (5 * i)).toNatClampNeg) (y := hI g o_m_tape (nI (5 * i) + nI 1).toNatClampNeg) (wd := hI g o_m_tape (nI (5 * i) + nI 2).toNatClampNeg) (tl := hI g o_m_tape (nI (5 * i) + nI 3).toNatClampNeg) (wt := hI g o_m_tape (nI (5 * i) + nI 4).toNatClampNeg) (by omega)
      refine eX12_row (And.intro (fun q1 => absurd q1 (by rw [e5]; exact nI_nlt (by omega) (by omega))) (fun q1 => (And.intro v0 (And.intro (vx 1 (by decide)) (And.intro (vx 2 (by decide)) (And.intro (vx 3 (by decide)) (And.intro (vx 4 (by decide)) (wcS can (And.intro (fun q2 => noo l4 fun z => ?_) (fun q2 => ?_)))))))))) 
      · have q2 := b2i_0.mp q2
        rw [b0, bx 1 (by decide), bx 2 (by decide), bx 3 (by decide), bx 4 (by decide)] at q2
        obtain ⟨s0, s1, s2, s3, s4⟩ := s5 (Or.inr z.1)
        rw [s0, s1, s2, s3, s4] at q2
        exact q2 z.1
      have q2 := b2i_n q2
      rw [b0, bx 1 (by decide), bx 2 (by decide), bx 3 (by decide), bx 4 (by decide)] at q2
      obtain ⟨s0, s1, s2, s3, s4⟩ := s5 (Or.inl q2)
      rw [s0, s1, s2, s3, s4] at q2
      rw [s0] at b0
      have b1 := bx 1 (by decide); rw [s1] at b1
      have b2 := bx 2 (by decide); rw [s2] at b2
      have b3 := bx 3 (by decide); rw [s3] at b3
      have b4 := bx 4 (by decide); rw [s4] at b4
      obtain ⟨A, C, eA, eC, hA, hA6, hC, hC6⟩ := can_nat q2
      have fr : M cx jX12_isFree (d - 1) 0 [.ref o_m, .int (hI g o_m_tape (nI (5 * i)).toNatClampNeg), .int (hI g o_m_tape (nI (5 * i) + nI 1).toNatClampNeg), .int (hI g o_m_tape (nI (5 * i) + nI 2).toNatClampNeg), .int (hI g o_m_tape (nI (5 * i) + nI 3).toNatClampNeg)] g (RQ (.int (b2i (cFree (F i).1 (B (5 * i)) (B (5 * i + 1)) (B (5 * i + 2)).toNatClampNeg (B (5 * i + 3)).toNatClampNeg))) g) := by
        rw [b0, b1, b2, b3, eA, eC, nI_clamp (by omega), nI_clamp (by omega), ← eW]
        exact n_isFree (by omega) rfl rfl hA hA6 hC6
      have sto : M cx jX12_stones (d - 1) 0 [.ref o_m] g (RQ (.int (nI n)) g) := by rw [← en, ← eW]; exact n_stones
      refine wcV sto (And.intro (fun q3 => noo l4 fun z => absurd z.2.1 (by rw [en]; exact Int32.not_lt.mpr q3)) (fun q3 => (And.intro v0 (And.intro (vx 1 (by decide)) (And.intro (vx 2 (by decide)) (And.intro (vx 3 (by decide)) (wcV fr (And.intro (fun q4 => noo l4 fun z => b2i_0.mp q4 z.2.2) (fun q4 => ?_)))))))))
      have yes : rwC (F i).1 (B (5 * i)) (B (5 * i + 1)) (B (5 * i + 2)) (B (5 * i + 3)) (B (5 * i + 4)) := ⟨q2, by rw [en]; exact Int32.not_le.mp q3, b2i_n q4⟩
      have n14 : n < 14 := lt14 en hn yes.2.1
      rw [← eF] at yes
      have er := rw_yes yes
      rw [eF, en, nI_clamp (by omega)] at er
      have ad : M cx jX12_adds (d - 1) 0 [.ref o_m, .int (hI g o_m_tape (nI (5 * i)).toNatClampNeg), .int (hI g o_m_tape (nI (5 * i) + nI 1).toNatClampNeg), .int (hI g o_m_tape (nI (5 * i) + nI 2).toNatClampNeg), .int (hI g o_m_tape (nI (5 * i) + nI 3).toNatClampNeg), .int (hI g o_m_tape (nI (5 * i) + nI 4).toNatClampNeg)] g (RQ (.int (nI n)) (naddH g n (B (5 * i)) (B (5 * i + 1)) (B (5 * i + 2)) (B (5 * i + 3)) (B (5 * i + 4)))) := by
        rw [b0, b1, b2, b3, b4]
        exact n_adds (by omega) (by rw [eW]; exact en) n14
      refine eX12_row (And.intro (fun z => absurd z (by decide)) (fun _ => (And.intro v0 (And.intro (vx 1 (by decide)) (And.intro (vx 2 (by decide)) (And.intro (vx 3 (by decide)) (And.intro (vx 4 (by decide)) (wcV ad ?_))))))))
      refine j192 1 _ (Or.inl rfl) (keepR_t kr ⟨rfl, fun o k n1 n2 => nadd_o n1⟩) ?_ (by rw [nadd_o (by decide)]; exact e10) (by rw [nadd_o (by decide)]; exact e6) (by rw [er]) (by rw [er, show (1 : Int32) - 1 = 0 from rfl, Int32.add_zero])
      rw [kW_add (by rw [eW]; exact en) n14, er, eW]
  have k0 : ∀ v, keepR h (wI (wI h o_m 10 0) o_m 6 v) := fun v => ⟨rfl, fun o k n1 n2 => by rw [rd_any, if_neg (fun z => n2 ⟨z.1, Or.inl z.2⟩), rd_any, if_neg (fun z => n2 ⟨z.1, Or.inr z.2⟩)]⟩
  have go : ∀ v, v = rw0 t → E cx jX12_row d a 35 [some (.ref o_m), some (.int (hI h o_m 10)), some (.int 0), none, none] [.int v, .ref o_m] (wI h o_m 10 0) (rowQ h B t) := fun v ev => by
    subst ev
    have i := loop (t / 5) 0 (by omega) (wI (wI h o_m 10 0) o_m 6 (rw0 t)) none (k0 _) (by rw [← eF]; exact funext fun k => by show hI (wI (wI h o_m 10 0) o_m 6 (rw0 t)) o_m_kept k = _; rw [rd_o (by decide), rd_o (by decide)]; rfl) (by rw [rd_k (by decide), rd_same]) (by rw [rd_same, ← eF]; exact (Int32.add_zero _).symm)
    rw [← eF] at i
    rw [et]
    exact eX12_row i
  have em : hI h o_m 10 - hI h o_m 10 / 5 * 5 = nI (t % 5) := by rw [et]; exact pk_rem (d := 5) (by omega) (by decide) (by decide)
  refine sX12_row rfl (And.intro (fun q1 => (eX12_row (And.intro (by decide) (And.intro (fun q2 => (eX12_row (go 1 ?_))) (fun q2 => (go 0 ?_)))))) (fun q1 => absurd (et.symm.trans q1) (nI_ne0 ht (by omega))))
  · unfold rw0; rw [if_neg]; intro z; exact q2 (by rw [em, z]; rfl)
  · unfold rw0; rw [if_pos]; rw [em] at q2; exact (nI_eq (b := 0) (by omega) (by decide)).mp q2
end T79
