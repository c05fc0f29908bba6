/-! how many bits: the JDK's way counts them; the sets of a set's stones, one behind another -/
section T62
theorem add_or {x y : Int32} (h : x &&& y = 0) : x ||| y = x + y := by
  apply Int32.toBitVec_inj.mp
  rw [Int32.toBitVec_or, Int32.toBitVec_add]
  exact (BitVec.add_eq_or_of_and_eq_zero _ _ (by rw [← Int32.toBitVec_and, h]; rfl)).symm
theorem ush_or {x y : Int32} {n : Nat} (hn : n < 32) : ush (x ||| y) (nI n) = ush x (nI n) ||| ush y (nI n) := by
  apply b_ext; intro i hi
  unfold ush
  rw [b_or, b_ushr n hn, b_ushr n hn, b_ushr n hn, b_or]
theorem ush_and0 {x y : Int32} {n : Nat} (hn : n < 32) (h : x &&& y = 0) : ush x (nI n) &&& ush y (nI n) = 0 := by
  apply b_ext; intro i hi
  unfold ush
  rw [b_and, b_ushr n hn, b_ushr n hn, b_0, ← b_and, h, b_0]
theorem and0_and {x y m : Int32} (h : x &&& y = 0) : (x &&& m) &&& (y &&& m) = 0 := by
  apply b_ext; intro i hi
  have := congrArg (fun z => bt z i) h
  simp only [b_and, b_0] at this ⊢
  cases hx : bt x i <;> cases hy : bt y i <;> simp_all
theorem and_orD {x y m : Int32} : (x ||| y) &&& m = (x &&& m) ||| (y &&& m) := by
  apply b_ext; intro i hi
  simp only [b_and, b_or]
  cases bt x i <;> cases bt y i <;> cases bt m i <;> rfl
theorem and_or0 {x y m : Int32} (h1 : x &&& m = 0) (h2 : y &&& m = 0) : (x ||| y) &&& m = 0 := by
  rw [and_orD, h1, h2]; rfl
theorem mask0 {x y M N : Int32} (hx : x &&& M = x) (hy : y &&& N = y) (h : M &&& N = 0) : x &&& y = 0 := by
  apply b_ext; intro i hi
  have h1 := congrArg (fun z => bt z i) hx
  have h2 := congrArg (fun z => bt z i) hy
  have h3 := congrArg (fun z => bt z i) h
  simp only [b_and, b_0] at h1 h2 h3 ⊢
  cases a : bt x i <;> cases b : bt y i <;> cases c : bt M i <;> cases e : bt N i <;> simp_all
theorem sub4 (x y p q : Int32) : (x + y) - (p + q) = (x - p) + (y - q) := by
  rw [Int32.sub_eq_add_neg, Int32.sub_eq_add_neg, Int32.sub_eq_add_neg, Int32.neg_add]
  try rw [Int32.sub_eq_add_neg]
  ac_rfl
theorem add4 (x y p q : Int32) : (x + y) + (p + q) = (x + p) + (y + q) := by ac_rfl
theorem bc1_or {x y : Int32} (h : x &&& y = 0) : bc1 (x ||| y) = bc1 x + bc1 y := by
  unfold bc1
  rw [show ush (x ||| y) 1 = ush x 1 ||| ush y 1 from ush_or (n := 1) (by decide), and_orD, add_or (and0_and (show ush x 1 &&& ush y 1 = 0 from ush_and0 (n := 1) (by decide) h)), add_or h]
  exact sub4 _ _ _ _
theorem bc2_or {x y : Int32} (h : x &&& y = 0) : bc2 (x ||| y) = bc2 x + bc2 y := by
  unfold bc2
  rw [show ush (x ||| y) 2 = ush x 2 ||| ush y 2 from ush_or (n := 2) (by decide), and_orD, and_orD, add_or (and0_and (show ush x 2 &&& ush y 2 = 0 from ush_and0 (n := 2) (by decide) h)), add_or (and0_and h)]
  exact add4 _ _ _ _
def nib (b : Nat) : Nat := b % 2 + b / 2 % 2 + b / 4 % 2 + b / 8 % 2
theorem byt0 : ∀ b, b < 256 → nI b &&& 255 = nI b ∧ bc1 (nI b) &&& 255 = bc1 (nI b) ∧ bc2 (bc1 (nI b)) = nI (nib b + 16 * nib (b / 16)) := by decide +kernel
theorem byt1 : ∀ b, b < 256 → nI (256 * b) &&& 65280 = nI (256 * b) ∧ bc1 (nI (256 * b)) &&& 65280 = bc1 (nI (256 * b)) ∧ bc2 (bc1 (nI (256 * b))) = nI (256 * (nib b + 16 * nib (b / 16))) := by decide +kernel
theorem byt2 : ∀ b, b < 64 → nI (65536 * b) &&& 16711680 = nI (65536 * b) ∧ bc1 (nI (65536 * b)) &&& 16711680 = bc1 (nI (65536 * b)) ∧ bc2 (bc1 (nI (65536 * b))) = nI (65536 * (nib b + 16 * nib (b / 16))) := by decide +kernel
theorem byt3 : ∀ l0, l0 < 5 → ∀ h0, h0 < 5 → ∀ l1, l1 < 5 → ∀ h1, h1 < 5 → ∀ l2, l2 < 5 → ∀ h2, h2 < 3 → bc5 (bc4 (bc3 (nI (l0 + 16 * h0 + 256 * (l1 + 16 * h1) + 65536 * (l2 + 16 * h2))))) &&& 63 = nI (l0 + h0 + (l1 + h1) + (l2 + h2)) := by decide +kernel
theorem nib_lt (b : Nat) : nib b < 5 := by unfold nib; omega
theorem nib_lt3 {b : Nat} (h : b < 64) : nib (b / 16) < 3 := by unfold nib; omega
theorem nx_or (a b : Nat) : nI a ||| nI b = nI (a ||| b) := by
  apply b_ext; intro i hi
  rw [b_or, bt_nI hi, bt_nI hi, bt_nI hi, Nat.testBit_or]
theorem bcw_bytes {b0 b1 b2 : Nat} (h0 : b0 < 256) (h1 : b1 < 256) (h2 : b2 < 64) : bcw (nI (b0 + 256 * b1 + 65536 * b2)) = nI (nib b0 + nib (b0 / 16) + (nib b1 + nib (b1 / 16)) + (nib b2 + nib (b2 / 16))) := by
  obtain ⟨a1, a2, a3⟩ := byt0 b0 h0
  obtain ⟨c1, c2, c3⟩ := byt1 b1 h1
  obtain ⟨d1, d2, d3⟩ := byt2 b2 h2
  have m1 : (255 : Int32) &&& 65280 = 0 := by decide
  have m2 : (255 : Int32) &&& 16711680 = 0 := by decide
  have m3 : (65280 : Int32) &&& 16711680 = 0 := by decide
  have e : nI (b0 + 256 * b1 + 65536 * b2) = (nI b0 ||| nI (256 * b1)) ||| nI (65536 * b2) := by
    rw [add_or (and_or0 (mask0 a1 d1 m2) (mask0 c1 d1 m3)), add_or (mask0 a1 c1 m1), nI_add, nI_add]
  unfold bcw
  rw [e, bc1_or (and_or0 (mask0 a1 d1 m2) (mask0 c1 d1 m3)), bc1_or (mask0 a1 c1 m1), ← add_or (mask0 a2 c2 m1), ← add_or (and_or0 (mask0 a2 d2 m2) (mask0 c2 d2 m3)), bc2_or (and_or0 (mask0 a2 d2 m2) (mask0 c2 d2 m3)), bc2_or (mask0 a2 c2 m1), a3, c3, d3, nI_add, nI_add]
  exact byt3 _ (nib_lt _) _ (nib_lt _) _ (nib_lt _) _ (nib_lt _) _ (nib_lt _) _ (nib_lt3 h2)
theorem ct8 : ∀ b, b < 256 → fb_ct (fun k => b.testBit k) 8 = nib b + nib (b / 16) := by decide +kernel
theorem ct6 : ∀ b, b < 64 → fb_ct (fun k => b.testBit k) 6 = nib b + nib (b / 16) := by decide +kernel
theorem ct_div {m i n : Nat} : fb_ct (fun k => m.testBit (i + k)) n = fb_ct (fun k => (m / 2 ^ i).testBit k) n := fb_ct_cong fun k _ => by rw [Nat.testBit_div_two_pow, Nat.add_comm]
theorem ct_mod {m n : Nat} : fb_ct (fun k => m.testBit k) n = fb_ct (fun k => (m % 2 ^ n).testBit k) n := fb_ct_cong fun k hk => by rw [Nat.testBit_mod_two_pow]; simp [hk]
theorem bcw_nI {m : Nat} (hm : m < 2 ^ 22) : bcw (nI m) = nI (fb_ct (fun k => m.testBit k) 22) := by
  have e : m = m % 256 + 256 * (m / 256 % 256) + 65536 * (m / 65536) := by omega
  have e2 : fb_ct (fun k => m.testBit k) 22 = fb_ct (fun k => m.testBit k) 8 + (fb_ct (fun k => m.testBit (8 + k)) 8 + fb_ct (fun k => m.testBit (16 + k)) 6) := by
    rw [show 22 = 8 + (8 + 6) from rfl, fb_ct_split, fb_ct_split]
    rfl
  have t0 : fb_ct (fun k => m.testBit k) 8 = nib (m % 256) + nib (m % 256 / 16) := by
    rw [ct_mod]; exact ct8 _ (by omega)
  have t1 : fb_ct (fun k => m.testBit (8 + k)) 8 = nib (m / 256 % 256) + nib (m / 256 % 256 / 16) := by
    rw [ct_div, ct_mod]; exact ct8 _ (by omega)
  have t2 : fb_ct (fun k => m.testBit (16 + k)) 6 = nib (m / 65536) + nib (m / 65536 / 16) := by
    rw [ct_div]; exact ct6 _ (by omega)
  rw [e2, t0, t1, t2]
  conv => lhs; rw [e]
  rw [bcw_bytes (by omega) (by omega) (by omega), Nat.add_assoc (nib (m % 256) + nib (m % 256 / 16))]
/-- only items of the first n -/
def low (n : Nat) (s : Int32) : Prop := ∀ k, k < 32 → bt s k = true → k < n
theorem low_nI {n : Nat} (hn : n ≤ 32) {s : Int32} (h : low n s) : ∃ m, m < 2 ^ n ∧ s = nI m := by
  obtain ⟨m, hm, rfl⟩ := wb_of32 s
  refine ⟨m, ?_, rfl⟩
  apply Nat.lt_of_not_le; intro z
  obtain ⟨i, h1, h2⟩ := Nat.exists_ge_and_testBit_of_ge_two_pow z
  have hi : i < 32 := Nat.lt_of_not_le fun y => by
    have : m < 2 ^ i := Nat.lt_of_lt_of_le hm (Nat.pow_le_pow_right (by decide) y)
    rw [Nat.testBit_lt_two_pow this] at h2; cases h2
  have := h i hi (by rw [bt_nI hi]; exact h2)
  omega
theorem nI_low {n m : Nat} (hm : m < 2 ^ n) : low n (nI m) := fun k hk q => by
  rw [bt_nI hk] at q
  apply Nat.lt_of_not_le; intro z
  rw [Nat.testBit_lt_two_pow (Nat.lt_of_lt_of_le hm (Nat.pow_le_pow_right (by decide) z))] at q; cases q
theorem bcw_sz {s : Int32} (h : low 22 s) : bcw s = nI (sz s) := by
  obtain ⟨m, hm, rfl⟩ := low_nI (by decide) h
  rw [bcw_nI hm]
  unfold sz
  rw [fb_ct_cong fun k hk => (bt_nI (m := m) (k := k) (by omega))]
theorem ones_sz {s : Int32} : onesR s 22 = nI (sz s) := onesR_ct 22 (by decide)
theorem bcw_ones {s : Int32} (h : low 22 s) : bcw s = onesR s 22 := by rw [bcw_sz h, ones_sz]
end T62
