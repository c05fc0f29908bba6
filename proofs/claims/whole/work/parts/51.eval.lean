/-! the model's walk over a law's tokens -/
def bI (b : Bool) : Int32 := cond b 1 0
def ev (h : Hp) (k : Nat) (b : Bool) : Hp := wI (wI h o_m 19 (nI k)) o_m 21 (bI b)
section T51
variable {cx : Cx} {d a : Nat} {h g : Hp}
theorem ev_go {k : Nat} {b : Bool} : hI (ev h k b) o_m 19 = nI k := by unfold ev; rw [rd_k (by decide), rd_same]
theorem ev_br {k : Nat} {b : Bool} : hI (ev h k b) o_m 21 = bI b := by unfold ev; rw [rd_same]
theorem ev_o {k o q : Nat} {b : Bool} (n : o ≠ 104) : hI (ev h k b) o q = hI h o q := by unfold ev; rw [rd_o n, rd_o n]
theorem ev_k {k o q : Nat} {b : Bool} (n : q ≠ 19) (n2 : q ≠ 21) : hI (ev h k b) o q = hI h o q := by unfold ev; rw [rd_k n2, rd_k n]
theorem wI_comm {o k k' : Nat} {v w : Int32} (n : k ≠ k') : wI (wI h o k v) o k' w = wI (wI h o k' w) o k v := by
  unfold wI; congr 1; funext p q; unfold up2
  by_cases h1 : p = o <;> by_cases h2 : q = k <;> by_cases h3 : q = k' <;> simp [h1, h2, h3]
  · exact absurd (h2.symm.trans h3) n
  · exact fun e => absurd e n
  · exact fun e => absurd e.symm n
theorem ev_w19 {k k' : Nat} {b : Bool} {v : Int32} (e : v = nI k') : wI (ev h k b) o_m 19 v = ev h k' b := by
  unfold ev; rw [wI_comm (by decide), wI_wI, e]
theorem ev_w21 {k : Nat} {b b' : Bool} {v : Int32} (e : v = bI b') : wI (ev h k b) o_m 21 v = ev h k b' := by
  unfold ev; rw [wI_wI, e]
theorem bI_B {b : Bool} : isB (bI b) := by cases b; exact Or.inl rfl; exact Or.inr rfl
theorem bI_0 {b : Bool} : bI b = 0 ↔ b = false := by cases b <;> simp [bI]
theorem bI_n {b : Bool} : ¬ bI b = 0 ↔ b = true := by cases b <;> simp [bI]
/-- the heap holds N tokens from base on, and what is asked of -/
def tokE (h : Hp) (base N : Nat) (C V : Nat → Int32) (e : Env) : Prop :=
  hI h o_m 20 = nI (base + N) ∧ N ≤ 400 ∧ base ≤ 2000 ∧ (∀ k, k < N → kW h (168 + (base + k)) = C k ∧ kW h (2568 + (base + k)) = V k) ∧ (∀ k, N ≤ k → C k = 0) ∧ (∀ k, k < 8 → hI h o_m_asked k = e k)
theorem tok_lt {base N t : Nat} {C V : Nat → Int32} {e : Env} (q : tokE h base N C V e) (n : ¬ C t = 0) : t < N := Nat.lt_of_not_le fun z => n (q.2.2.2.2.1 t z)
theorem n_codeAt {base N t k : Nat} {b : Bool} {C V : Nat → Int32} {e : Env} {p : Int32} (q : tokE h base N C V e) (ep : p = nI (base + t)) (ht : t ≤ 1000) : M cx jX12_codeAt d a [.ref o_m, .int p] (ev h k b) (RQ (.int (C t)) (ev h k b)) := by
  subst ep
  have hb := q.2.2.1
  have hN := q.2.1
  have e20 : hI (ev h k b) o_m 20 = nI (base + N) := by rw [ev_k (by decide) (by decide)]; exact q.1
  refine sX12_codeAt rfl (And.intro (fun q1 => eX12_codeAt (eX12_codeAt (RQ_eq ?_))) (fun q1 => And.intro ?_ (eX12_codeAt (RQ_eq ?_))))
  · have q1 : hI (ev h k b) o_m 20 ≤ nI (base + t) := q1
    rw [e20] at q1
    have : N ≤ t := Nat.le_of_not_lt fun z => absurd q1 (nI_ge (by omega) (by omega))
    exact (q.2.2.2.2.1 t this).symm
  · show vp_in ((168 : Int32) + nI (base + t)) 4968
    have q1 : ¬ hI (ev h k b) o_m 20 ≤ nI (base + t) := q1
    rw [e20] at q1
    have : t < N := Nat.lt_of_not_le fun z => q1 (nI_le (by omega) (by omega))
    rw [show (168 : Int32) = nI 168 from rfl, nI_add]
    exact vp_in_nI (by omega) (by decide)
  · have q1 : ¬ hI (ev h k b) o_m 20 ≤ nI (base + t) := q1
    rw [e20] at q1
    have ht2 : t < N := Nat.lt_of_not_le fun z => q1 (nI_le (by omega) (by omega))
    show hI (ev h k b) o_m_kept ((168 : Int32) + nI (base + t)).toNatClampNeg = C t
    rw [show (168 : Int32) = nI 168 from rfl, nI_add, nI_clamp (by omega), ev_o (by decide)]
    exact (q.2.2.2.1 t ht2).1
theorem n_passes {base N t : Nat} {b : Bool} {C V : Nat → Int32} {e : Env} {c : Int32} (hd : 1 ≤ d) (q : tokE h base N C V e) (ht : t ≤ 1000) : M cx jX12_passes0 d a [.ref o_m, .int c] (ev h (base + t) b) (RQ (.int (b2i (C t = c))) (if C t = c then ev h (base + (t + 1)) b else ev h (base + t) b)) := by
  refine sX12_passes0 rfl (wcV (n_codeAt q ev_go ht) (And.intro (fun q1 => eX12_passes0 (eX12_passes0 (And.intro (fun q2 => eX12_passes0 (And.intro (Or.inl rfl) ⟨?_, ?_⟩)) (fun q2 => absurd rfl q2)))) (fun q1 => eX12_passes0 (And.intro (fun q2 => absurd q2 (by decide)) (fun q2 => eX12_passes0 (And.intro (Or.inr rfl) ⟨?_, ?_⟩))))))
  · rw [b2i_f q1]
  · rw [if_neg q1]
  · rw [b2i_t q1]
  · rw [if_pos q1]
    exact ev_w19 (by rw [ev_go, ← nI_succ]; rfl)
def outS (v : Int64) : Prop := 1000000000 < v ∨ v < -1000000000
noncomputable def bdS (live b : Bool) (v : Int64) : Bool := @ite _ (live = true ∧ outS v) (Classical.propDecidable _) true b
theorem n_bounded {k : Nat} {b live : Bool} {v : Int64} : M cx jX12_bounded d a [.ref o_m, .long v, .int (bI live)] (ev h k b) (RQ (.long (cond (bdS live b v) 0 v)) (ev h k (bdS live b v))) := by
  have fin : ∀ b', b' = bdS live b v → E cx jX12_bounded d a 25 [some (.ref o_m), some (.long v), none, some (.int (bI live))] [] (ev h k b') (RQ (.long (cond (bdS live b v) 0 v)) (ev h k (bdS live b v))) := fun b' e => by
    subst e
    refine eX12_bounded (And.intro (fun q => eX12_bounded (eX12_bounded ⟨?_, rfl⟩)) (fun q => eX12_bounded ⟨?_, rfl⟩))
    · have q : bdS live b v = false := bI_0.mp (ev_br.symm.trans q)
      rw [q]; rfl
    · have q : bdS live b v = true := bI_n.mp fun z => q (ev_br.trans z)
      rw [q]; rfl
  have yes : live = true → outS v → E cx jX12_bounded d a 20 [some (.ref o_m), some (.long v), none, some (.int (bI live))] [] (ev h k b) (RQ (.long (cond (bdS live b v) 0 v)) (ev h k (bdS live b v))) := fun q1 q2 => by
    refine eX12_bounded (And.intro (Or.inr rfl) ?_)
    have e : wI (ev h k b) o_m 21 1 = ev h k true := ev_w21 rfl
    rw [e]
    exact fin true (by unfold bdS; rw [if_pos ⟨q1, q2⟩])
  refine sX12_bounded rfl (And.intro (fun q => fin b ?_) (fun q => And.intro (fun q2 => yes (bI_n.mp q) (Or.inl ((lg_cmp_gt _ _).mp q2))) (fun q2 => And.intro (fun q3 => fin b ?_) (fun q3 => ?_))))
  · unfold bdS; rw [if_neg (fun z => by rw [bI_0.mp q] at z; exact absurd z.1 (by decide))]
  · unfold bdS; rw [if_neg]; rintro ⟨-, z | z⟩
    · exact q2 ((lg_cmp_gt _ _).mpr z)
    · exact absurd z (Int64.not_lt.mpr ((lg_cmp_ge _ _).mp q3))
  · exact yes (bI_n.mp q) (Or.inr (Int64.not_le.mp (fun z => q3 ((lg_cmp_ge _ _).mpr z))))
theorem n_sign {c : Int32} : M cx jX12_sign d a [.int c] h (RQ (.int (100 + c)) h) := sX12_sign rfl ⟨rfl, rfl⟩
/-- what a walk leaves: live and unbroken ahead, it tells the meaning; else the flag is as ahead -/
def Rn (live b0 : Bool) (so : Option Int64) (v : Int64) (b : Bool) : Prop := ((live = true ∧ b0 = false) → (match so with | some x => b = false ∧ v = x | none => b = true)) ∧ (¬ (live = true ∧ b0 = false) → b = b0)
def nQ (h : Hp) (k : Nat) (live b0 : Bool) (so : Option Int64) : Option Value → Hp → Prop := fun r g => ∃ (v : Int64) (b : Bool), r = some (.long v) ∧ g = ev h k b ∧ Rn live b0 so v b
theorem hN_ev {k : Nat} {b : Bool} : hN (ev h k b) = hN h := rfl
theorem nQ_N {k : Nat} {live b0 : Bool} {so : Option Int64} : ∀ v g, nQ h k live b0 so v g → hN g = hN h := fun v g q => by obtain ⟨_, _, _, rfl, _⟩ := q; rfl
theorem Rn_op {live b0 b b2 : Bool} {s s2 : Option Int64} {x y z : Int64} {c : Int32} {r : Option Int64} (q1 : Rn live b0 s x b) (q2 : Rn live b s2 y b2) (b3 : Bool) (v3 : Int64)
    (hr : r = opO c s s2)
    (hb : (b2 = true → b3 = true) ∧ (live = false → b3 = b2)) (hop : live = true → b2 = false → (match opV c x y with | some z => b3 = false ∧ v3 = z | none => b3 = true)) : Rn live b0 r v3 b3 := by
  subst hr
  refine ⟨fun hl => ?_, fun hl => ?_⟩
  · obtain ⟨rfl, rfl⟩ := hl
    have q1 := q1.1 ⟨rfl, rfl⟩
    match s, q1 with
    | none, q1 =>
      have q2 := q2.2 (fun z => by rw [q1] at z; exact absurd z.2 (by decide))
      exact hb.1 (q2.trans q1)
    | some x0, q1 =>
      obtain ⟨rfl, rfl⟩ := q1
      have q2 := q2.1 ⟨rfl, rfl⟩
      match s2, q2 with
      | none, q2 => exact hb.1 q2
      | some y0, q2 =>
        obtain ⟨rfl, rfl⟩ := q2
        exact hop rfl rfl
  · have e1 := q1.2 hl
    subst e1
    have e2 := q2.2 hl
    subst e2
    cases live with
    | false => exact hb.2 rfl
    | true =>
      cases b2 with
      | true => exact hb.1 rfl
      | false => exact absurd ⟨rfl, rfl⟩ hl
end T51
