/-! sets of sets as words; all lawful sets of the class -/
def b64 (x : Int64) (i : Nat) : Bool := x.toBitVec.getLsbD i
section T89
variable {cx : Cx} {d a c : Nat} {h g f : Hp} {w : Wd}
theorem b64_shr {x : Int64} {k : Nat} (hk : k < 64) : ((x >>> ((nI k).toInt64 &&& 63)) &&& 1) = 0 ↔ b64 x k = false := by
  rw [wb_c k hk]
  have e : ∀ i, i < 64 → ((x >>> lN k) &&& 1).toBitVec.getLsbD i = (decide (i = 0) && b64 x k) := fun i hi => by
    rw [Int64.toBitVec_and, Int64.toBitVec_shiftRight, BitVec.getLsbD_and, BitVec.sshiftRight_eq', wb_tb]
    rw [wb_sm k hk, BitVec.getLsbD_sshiftRight, BitVec.toNat_ofNat, Nat.mod_eq_of_lt (by omega)]
    by_cases z : i = 0
    · subst z
      have : ((1 : Int64).toBitVec).getLsbD 0 = true := by decide
      rw [this]; simp [hk, b64]
    · have : ((1 : Int64).toBitVec).getLsbD i = false := by
        show (BitVec.ofNat 64 1).getLsbD i = false
        rw [BitVec.getLsbD_ofNat]
        have : Nat.testBit 1 i = false := by
          rw [show (1 : Nat) = 2 ^ 0 from rfl, Nat.testBit_two_pow]; simp; omega
        simp [this]
      rw [this]; simp [z]
  constructor
  · intro z
    have := e 0 (by decide)
    rw [z] at this
    simpa using this.symm
  · intro z
    apply wb_inj
    apply BitVec.eq_of_getLsbD_eq
    intro i hi
    rw [e i hi, z]
    simp
theorem b64_or {x : Int64} {k i : Nat} (hk : k < 64) (hi : i < 64) : b64 (x ||| ((1 : Int64) <<< ((nI k).toInt64 &&& 63))) i = (b64 x i || decide (i = k)) := by
  have := wb_shl 1 hk
  rw [show (1 : Int64) = lN 1 from rfl, this, Nat.one_mul]
  unfold b64
  rw [Int64.toBitVec_or, BitVec.getLsbD_or, wb_tb, BitVec.getLsbD_ofNat, Nat.testBit_two_pow]
  congr 1
  simp [hi, eq_comm]
theorem inS_b {o m : Nat} : inS h o m ↔ b64 (hJ h o (m / 64)) (m % 64) = true := by
  unfold inS
  rw [b64_shr (Nat.mod_lt _ (by decide))]
  simp
theorem hJ_w {o k p q : Nat} {v : Int64} : hJ (wJ h o k v) p q = if p = o ∧ q = k then v else hJ h p q := by
  show up2 h.2.1 o k v p q = _
  by_cases h1 : p = o <;> by_cases h2 : q = k <;> simp [up2, h1, h2]
theorem inS_add {o p k m : Nat} : inS (addS g o k) p m ↔ (p = o ∧ m = k) ∨ inS g p m := by
  rw [inS_b, inS_b]
  unfold addS
  rw [hJ_w]
  by_cases e : p = o ∧ m / 64 = k / 64
  · obtain ⟨rfl, e2⟩ := e
    rw [if_pos ⟨rfl, e2⟩, b64_or (Nat.mod_lt _ (by decide)) (Nat.mod_lt _ (by decide)), ← e2]
    simp
    constructor
    · rintro (z | z)
      · exact Or.inr z
      · left; omega
    · rintro (z | z)
      · right; rw [z]
      · exact Or.inl z
  · rw [if_neg e]
    constructor
    · exact Or.inr
    · rintro (z | z)
      · exact absurd ⟨z.1, by rw [z.2]⟩ e
      · exact z
theorem inS_clr {o p m : Nat} : inS (clrJ g o 256) p m ↔ ¬ (p = o ∧ m < 16384) ∧ inS g p m := by
  rw [inS_b, inS_b]
  show b64 (if p = o ∧ m / 64 < 256 then 0 else hJ g p (m / 64)) (m % 64) = true ↔ _
  by_cases e : p = o ∧ m / 64 < 256
  · rw [if_pos e]
    have z : b64 0 (m % 64) = false := BitVec.getLsbD_zero
    rw [z]
    exact Iff.intro (fun y => Bool.noConfusion y) (fun y => absurd ⟨e.1, by omega⟩ y.1)
  · rw [if_neg e]
    exact ⟨fun y => ⟨fun x => e ⟨x.1, by omega⟩, y⟩, fun y => y.2⟩
theorem inSI_nI {o m : Nat} (hm : m < 16384) : inSI h o (nI m) ↔ inS h o m := by
  unfold inSI
  rw [nI_clamp (by omega)]
  exact ⟨fun z => z.2.2, fun z => ⟨nI_pos' (by omega), nI_le (b := 16383) (by omega) (by decide), z⟩⟩
theorem inS_J {o m : Nat} (e : ∀ k, hJ g o k = hJ h o k) : inS g o m ↔ inS h o m := by rw [inS_b, inS_b, e]
/-- how many sets of a set's stones -/
theorem pc22 {m : Nat} (hm : m < 2 ^ 14) : pcn 32 m = fb_ct (fun k => m.testBit k) 22 ∧ pcn 32 m ≤ 14 := by
  have z : ∀ k, 14 ≤ k → m.testBit k = false := fun k hk => Nat.testBit_lt_two_pow (Nat.lt_of_lt_of_le hm (Nat.pow_le_pow_right (by decide) hk))
  rw [pcn_ct]
  have e : ∀ n, fb_ct (fun k => m.testBit k) (14 + n) = fb_ct (fun k => m.testBit k) 14 := fun n => by
    rw [fb_ct_split, show fb_ct (fun k => m.testBit (14 + k)) n = 0 from fb_ct_zero.mpr fun k _ => z _ (by omega)]; rfl
  rw [show 32 = 14 + 18 from rfl, show 22 = 14 + 8 from rfl, e 18, e 8]
  exact ⟨rfl, fb_ct_le _ _⟩
theorem sz_pc {m : Nat} (hm : m < 2 ^ 14) : sz (nI m) = pcn 32 m := by
  rw [(pc22 hm).1]
  exact fb_ct_cong fun k hk => bt_nI (by omega)
theorem bcS_pow {m : Nat} (hm : m < 2 ^ 14) : bcS (nI m) = nI (2 ^ pcn 32 m) ∧ (bcS (nI m)).toNatClampNeg = 2 ^ pcn 32 m := by
  obtain ⟨h1, h2⟩ := pc22 hm
  have e : bcw (nI m) = nI (pcn 32 m) := by rw [bcw_nI (Nat.lt_of_lt_of_le hm (by decide)), h1]
  have : bcS (nI m) = nI (2 ^ pcn 32 m) := by
    unfold bcS
    rw [e]
    by_cases l : pcn 32 m < 14
    · rw [if_pos (show nI (pcn 32 m) < 14 from nI_lt (b := 14) l (by decide))]; exact one_nI (by omega)
    · have e14 : pcn 32 m = 14 := by omega
      rw [e14, if_neg (show ¬ nI 14 < 14 from nI_nlt (a := 14) (b := 14) (Nat.le_refl _) (by decide))]
      exact one_nI (i := 14) (by decide)
  have p14 := pow14 h2
  exact ⟨this, by rw [this, nI_clamp (by omega)]⟩
theorem sub_nat {s m : Nat} (hs : s < 2 ^ 14) (hm : m < 2 ^ 14) : sub (nI s) (nI m) ↔ s &&& m = s := by
  constructor
  · intro q
    apply Nat.eq_of_testBit_eq; intro i
    rw [Nat.testBit_and]
    by_cases hi : i < 32
    · have := q i hi
      rw [bt_nI hi, bt_nI hi] at this
      cases a : s.testBit i
      · rfl
      · rw [this a]; rfl
    · rw [Nat.testBit_lt_two_pow (Nat.lt_of_lt_of_le hs (Nat.pow_le_pow_right (by decide) (by omega)))]; rfl
  · intro e i hi z
    rw [bt_nI hi] at z ⊢
    rw [← e, Nat.testBit_and] at z
    simp at z; exact z.2
theorem pd_sub {m i : Nat} (hm : m < 2 ^ 14) : pd 32 m i < 2 ^ 14 ∧ sub (nI (pd 32 m i)) (nI m) := by
  have h1 := pd_lt 32 m i (Nat.lt_of_lt_of_le hm (by decide))
  exact ⟨by omega, (sub_nat (by omega) hm).mpr (pd_and 32 m i)⟩
theorem pd_of {s m : Nat} (hs : s < 2 ^ 14) (hm : m < 2 ^ 14) (q : sub (nI s) (nI m)) : pe 32 m s < 2 ^ pcn 32 m ∧ pd 32 m (pe 32 m s) = s := ⟨pe_lt 32 m s, pd_pe 32 m s (Nat.lt_of_lt_of_le hs (by decide)) ((sub_nat hs hm).mp q)⟩
/-- the lawful sets that findLawful marks -/
theorem inS_fl {m : Nat} (hm : m < 2 ^ 14) : ∀ n j, j < 16384 → (inS (flH h (nI m) g n) o_lawful_words j ↔ inS g o_lawful_words j ∨ ∃ i, i < n ∧ j = pd 32 m i ∧ lawfulS h (nI j)) := by
  intro n
  induction n with
  | zero => intro j _; exact ⟨Or.inl, fun z => z.elim id fun ⟨i, hi, _⟩ => absurd hi (Nat.not_lt_zero _)⟩
  | succ n ih =>
    intro j hj
    have es : lpS (nxU (nI m)) 0 n = nI (pd 32 m n) := lpU_pd (Nat.lt_of_lt_of_le hm (by decide)) n
    have hp := (pd_sub (i := n) hm).1
    show inS (flB h (flH h (nI m) g n) (lpS (nxU (nI m)) 0 n)) o_lawful_words j ↔ _
    rw [es]
    unfold flB
    by_cases l : lawfulS h (nI (pd 32 m n))
    · rw [if_pos l, inS_add, nI_clamp (by omega), ih j hj]
      constructor
      · rintro (⟨-, z⟩ | z | ⟨i, hi, z⟩)
        · exact Or.inr ⟨n, by omega, z, by rw [z]; exact l⟩
        · exact Or.inl z
        · exact Or.inr ⟨i, by omega, z⟩
      · rintro (z | ⟨i, hi, z, y⟩)
        · exact Or.inr (Or.inl z)
        · by_cases e : i = n
          · subst e; exact Or.inl ⟨rfl, z⟩
          · exact Or.inr (Or.inr ⟨i, by omega, z, y⟩)
    · rw [if_neg l, ih j hj]
      constructor
      · rintro (z | ⟨i, hi, z⟩)
        · exact Or.inl z
        · exact Or.inr ⟨i, by omega, z⟩
      · rintro (z | ⟨i, hi, z, y⟩)
        · exact Or.inl z
        · by_cases e : i = n
          · subst e; rw [z] at y; exact absurd y l
          · exact Or.inr ⟨i, by omega, z, y⟩
theorem fl_J {c : Int32} {n o k : Nat} (ne : o ≠ 93) : hJ (flH h c g n) o k = hJ g o k := by
  induction n with
  | zero => rfl
  | succ n ih =>
    show hJ (flB h (flH h c g n) _) o k = _
    unfold flB
    split
    · unfold addS; rw [hJ_w, if_neg (fun z => ne z.1)]; exact ih
    · exact ih
end T89
