/-! all sets of a set's stones, ascending: the i-th is pd 32 c i -/
def pd : Nat → Nat → Nat → Nat
  | 0, _, _ => 0
  | w + 1, c, i => if c % 2 = 1 then 2 * pd w (c / 2) (i / 2) + i % 2 else 2 * pd w (c / 2) i
def pe : Nat → Nat → Nat → Nat
  | 0, _, _ => 0
  | w + 1, c, s => if c % 2 = 1 then 2 * pe w (c / 2) (s / 2) + s % 2 else pe w (c / 2) (s / 2)
def pcn : Nat → Nat → Nat
  | 0, _ => 0
  | w + 1, c => pcn w (c / 2) + c % 2
section T63
theorem and2_0 {x y a : Nat} (ha : a < 2) : (2 * x + a) &&& (2 * y) = 2 * (x &&& y) := by
  apply Nat.eq_of_testBit_eq; intro i
  cases i with
  | zero =>
    rw [Nat.testBit_and]; simp only [Nat.testBit_zero]
    rw [show (2 * y) % 2 = 0 by omega, show (2 * (x &&& y)) % 2 = 0 by omega]; simp
  | succ i =>
    rw [Nat.testBit_and, Nat.testBit_succ, Nat.testBit_succ, Nat.testBit_succ, show (2 * x + a) / 2 = x by omega, show (2 * y) / 2 = y by omega, show (2 * (x &&& y)) / 2 = x &&& y by omega, Nat.testBit_and]
theorem and2_1 {x y a : Nat} (ha : a < 2) : (2 * x + a) &&& (2 * y + 1) = 2 * (x &&& y) + a := by
  apply Nat.eq_of_testBit_eq; intro i
  cases i with
  | zero =>
    rw [Nat.testBit_and]; simp only [Nat.testBit_zero]
    rw [show (2 * x + a) % 2 = a by omega, show (2 * y + 1) % 2 = 1 by omega, show (2 * (x &&& y) + a) % 2 = a by omega]; simp
  | succ i =>
    rw [Nat.testBit_and, Nat.testBit_succ, Nat.testBit_succ, Nat.testBit_succ, show (2 * x + a) / 2 = x by omega, show (2 * y + 1) / 2 = y by omega, show (2 * (x &&& y) + a) / 2 = x &&& y by omega, Nat.testBit_and]
theorem pd_1 {w c i : Nat} (h : c % 2 = 1) : pd (w + 1) c i = 2 * pd w (c / 2) (i / 2) + i % 2 := if_pos h
theorem pd_0 {w c i : Nat} (h : c % 2 = 0) : pd (w + 1) c i = 2 * pd w (c / 2) i := if_neg (by omega)
theorem pe_1 {w c i : Nat} (h : c % 2 = 1) : pe (w + 1) c i = 2 * pe w (c / 2) (i / 2) + i % 2 := if_pos h
theorem pe_0 {w c i : Nat} (h : c % 2 = 0) : pe (w + 1) c i = pe w (c / 2) (i / 2) := if_neg (by omega)
theorem pd_and : ∀ w c i, pd w c i &&& c = pd w c i := by
  intro w
  induction w with
  | zero => intro c i; exact Nat.zero_and c
  | succ w ih =>
    intro c i
    rcases Nat.mod_two_eq_zero_or_one c with b | b
    · rw [pd_0 b]
      conv => lhs; rw [show c = 2 * (c / 2) by omega]
      have := and2_0 (x := pd w (c / 2) i) (y := c / 2) (a := 0) (by decide)
      rw [Nat.add_zero] at this
      rw [show 2 * (c / 2) / 2 = c / 2 by omega, this, ih]
    · rw [pd_1 b]
      conv => lhs; rw [show c = 2 * (c / 2) + 1 by omega]
      rw [show (2 * (c / 2) + 1) / 2 = c / 2 by omega, and2_1 (by omega), ih]
theorem pd_lt : ∀ w c i, c < 2 ^ w → pd w c i ≤ c := fun w c i _ => by
  rw [← pd_and w c i]; exact Nat.and_le_right
theorem pd_comp : ∀ w c i, c < 2 ^ w → (pd w c i + (2 ^ w - 1 - c)) &&& c = pd w c i := by
  intro w
  induction w with
  | zero => intro c i h; obtain rfl : c = 0 := by simpa using h
            exact Nat.and_zero _
  | succ w ih =>
    intro c i h
    rw [Nat.pow_succ] at h ⊢
    have ic := ih (c / 2)
    rcases Nat.mod_two_eq_zero_or_one c with b | b
    · rw [pd_0 b]
      have e := ic i (by omega)
      have e2 : 2 * pd w (c / 2) i + (2 ^ w * 2 - 1 - c) = 2 * (pd w (c / 2) i + (2 ^ w - 1 - c / 2)) + 1 := by omega
      rw [e2]
      conv => lhs; rw [show c = 2 * (c / 2) by omega]
      rw [show 2 * (c / 2) / 2 = c / 2 by omega, and2_0 (by decide), e]
    · rw [pd_1 b]
      have e := ic (i / 2) (by omega)
      have e2 : 2 * pd w (c / 2) (i / 2) + i % 2 + (2 ^ w * 2 - 1 - c) = 2 * (pd w (c / 2) (i / 2) + (2 ^ w - 1 - c / 2)) + i % 2 := by omega
      rw [e2]
      conv => lhs; rw [show c = 2 * (c / 2) + 1 by omega]
      rw [show (2 * (c / 2) + 1) / 2 = c / 2 by omega, and2_1 (by omega), e]
/-- the next one -/
theorem pd_next : ∀ w c i, c < 2 ^ w → (pd w c i + (2 ^ w - c)) &&& c = pd w c (i + 1) := by
  intro w
  induction w with
  | zero => intro c i h; obtain rfl : c = 0 := by simpa using h
            exact Nat.and_zero _
  | succ w ih =>
    intro c i h
    rw [Nat.pow_succ] at h ⊢
    have ic := ih (c / 2)
    rcases Nat.mod_two_eq_zero_or_one c with b | b
    · rw [pd_0 b, pd_0 b]
      have e := ic i (by omega)
      have e2 : 2 * pd w (c / 2) i + (2 ^ w * 2 - c) = 2 * (pd w (c / 2) i + (2 ^ w - c / 2)) + 0 := by omega
      rw [e2]
      conv => lhs; rw [show c = 2 * (c / 2) by omega]
      rw [show 2 * (c / 2) / 2 = c / 2 by omega, and2_0 (by decide), e]
    · rw [pd_1 b, pd_1 b]
      rcases Nat.mod_two_eq_zero_or_one i with bi | bi
      · have e := pd_comp w (c / 2) (i / 2) (by omega)
        have e2 : 2 * pd w (c / 2) (i / 2) + i % 2 + (2 ^ w * 2 - c) = 2 * (pd w (c / 2) (i / 2) + (2 ^ w - 1 - c / 2)) + 1 := by omega
        rw [e2]
        conv => lhs; rw [show c = 2 * (c / 2) + 1 by omega]
        rw [show (2 * (c / 2) + 1) / 2 = c / 2 by omega, and2_1 (by decide), e, show (i + 1) / 2 = i / 2 by omega, show (i + 1) % 2 = 1 by omega]
      · have e := ic (i / 2) (by omega)
        have e2 : 2 * pd w (c / 2) (i / 2) + i % 2 + (2 ^ w * 2 - c) = 2 * (pd w (c / 2) (i / 2) + (2 ^ w - c / 2)) + 0 := by omega
        rw [e2]
        conv => lhs; rw [show c = 2 * (c / 2) + 1 by omega]
        rw [show (2 * (c / 2) + 1) / 2 = c / 2 by omega, and2_1 (by decide), e, show (i + 1) / 2 = i / 2 + 1 by omega, show (i + 1) % 2 = 0 by omega]
theorem pow_and {x c w : Nat} (hc : c < 2 ^ w) : (x + 2 ^ w) &&& c = x &&& c := by
  have e : ∀ y, y &&& c = (y % 2 ^ w) &&& c := fun y => by
    apply Nat.eq_of_testBit_eq; intro i
    rw [Nat.testBit_and, Nat.testBit_and, Nat.testBit_mod_two_pow]
    by_cases hi : i < w
    · simp [hi]
    · rw [Nat.testBit_lt_two_pow (Nat.lt_of_lt_of_le hc (Nat.pow_le_pow_right (by decide) (Nat.le_of_not_lt hi)))]; simp
  rw [e, e x, Nat.add_mod_right]
/-- the one ahead -/
theorem pd_prev : ∀ w c i, c < 2 ^ w → (pd w c (i + 1) + (2 ^ w - 1)) &&& c = pd w c i := by
  intro w
  induction w with
  | zero => intro c i h; obtain rfl : c = 0 := by simpa using h
            exact Nat.and_zero _
  | succ w ih =>
    intro c i h
    rw [Nat.pow_succ] at h ⊢
    have ic := ih (c / 2)
    have hp : 0 < 2 ^ w := Nat.pow_pos (by decide)
    rcases Nat.mod_two_eq_zero_or_one c with b | b
    · rw [pd_0 b, pd_0 b]
      have e := ic i (by omega)
      have e2 : 2 * pd w (c / 2) (i + 1) + (2 ^ w * 2 - 1) = 2 * (pd w (c / 2) (i + 1) + (2 ^ w - 1)) + 1 := by omega
      rw [e2]
      conv => lhs; rw [show c = 2 * (c / 2) by omega]
      rw [show 2 * (c / 2) / 2 = c / 2 by omega, and2_0 (by decide), e]
    · rw [pd_1 b, pd_1 b]
      rcases Nat.mod_two_eq_zero_or_one i with bi | bi
      · have e := pow_and (x := pd w (c / 2) (i / 2)) (c := c / 2) (w := w) (by omega)
        rw [show (i + 1) / 2 = i / 2 by omega, show (i + 1) % 2 = 1 by omega, bi]
        have e2 : 2 * pd w (c / 2) (i / 2) + 1 + (2 ^ w * 2 - 1) = 2 * (pd w (c / 2) (i / 2) + 2 ^ w) + 0 := by omega
        rw [e2]
        conv => lhs; rw [show c = 2 * (c / 2) + 1 by omega]
        rw [show (2 * (c / 2) + 1) / 2 = c / 2 by omega, and2_1 (by decide), e, pd_and]
      · have e := ic (i / 2) (by omega)
        rw [show (i + 1) / 2 = i / 2 + 1 by omega, show (i + 1) % 2 = 0 by omega, bi]
        have e2 : 2 * pd w (c / 2) (i / 2 + 1) + 0 + (2 ^ w * 2 - 1) = 2 * (pd w (c / 2) (i / 2 + 1) + (2 ^ w - 1)) + 1 := by omega
        rw [e2]
        conv => lhs; rw [show c = 2 * (c / 2) + 1 by omega]
        rw [show (2 * (c / 2) + 1) / 2 = c / 2 by omega, and2_1 (by decide), e]
theorem pd_mono : ∀ w c i j, i < j → j < 2 ^ pcn w c → pd w c i < pd w c j := by
  intro w
  induction w with
  | zero => intro c i j h1 h2; simp [pcn] at h2; omega
  | succ w ih =>
    intro c i j h1 h2
    rw [pcn] at h2
    rcases Nat.mod_two_eq_zero_or_one c with b | b
    · rw [pd_0 b, pd_0 b]
      rw [b] at h2
      have := ih (c / 2) i j h1 h2
      omega
    · rw [pd_1 b, pd_1 b]
      rw [b, Nat.pow_succ] at h2
      rcases Nat.lt_or_ge (i / 2) (j / 2) with l | l
      · have := ih (c / 2) (i / 2) (j / 2) l (by omega)
        omega
      · have : i / 2 = j / 2 := by omega
        rw [this]; omega
theorem pe_lt : ∀ w c s, pe w c s < 2 ^ pcn w c := by
  intro w
  induction w with
  | zero => intro c s; exact Nat.one_pos
  | succ w ih =>
    intro c s
    have := ih (c / 2) (s / 2)
    rcases Nat.mod_two_eq_zero_or_one c with b | b
    · rw [pe_0 b, pcn, b]; exact this
    · rw [pe_1 b, pcn, b, Nat.pow_succ]; omega
theorem pd_pe : ∀ w c s, s < 2 ^ w → s &&& c = s → pd w c (pe w c s) = s := by
  intro w
  induction w with
  | zero => intro c s h _; obtain rfl : s = 0 := by simpa using h
            rfl
  | succ w ih =>
    intro c s h hs
    rw [Nat.pow_succ] at h
    have hc2 : s / 2 &&& c / 2 = s / 2 := by
      have : (s &&& c) / 2 = s / 2 := by rw [hs]
      rcases Nat.mod_two_eq_zero_or_one c with b | b
      · rw [show s = 2 * (s / 2) + s % 2 by omega, show c = 2 * (c / 2) by omega, and2_0 (by omega)] at this
        omega
      · rw [show s = 2 * (s / 2) + s % 2 by omega, show c = 2 * (c / 2) + 1 by omega, and2_1 (by omega)] at this
        omega
    have e := ih (c / 2) (s / 2) (by omega) hc2
    rcases Nat.mod_two_eq_zero_or_one c with b | b
    · rw [pd_0 b, pe_0 b, e]
      have := hs
      rw [show s = 2 * (s / 2) + s % 2 by omega, show c = 2 * (c / 2) by omega, and2_0 (by omega)] at this
      omega
    · rw [pd_1 b, pe_1 b, show (2 * pe w (c / 2) (s / 2) + s % 2) / 2 = pe w (c / 2) (s / 2) by omega, show (2 * pe w (c / 2) (s / 2) + s % 2) % 2 = s % 2 by omega, e]
      omega
theorem pd_inj {w c i j : Nat} (hi : i < 2 ^ pcn w c) (hj : j < 2 ^ pcn w c) (e : pd w c i = pd w c j) : i = j := by
  rcases Nat.lt_trichotomy i j with l | l | l
  · have := pd_mono w c i j l hj; omega
  · exact l
  · have := pd_mono w c j i l hi; omega
theorem pe_pd {w c i : Nat} (hc : c < 2 ^ w) (hi : i < 2 ^ pcn w c) : pe w c (pd w c i) = i := by
  refine pd_inj (pe_lt _ _ _) hi (pd_pe w c _ ?_ (pd_and _ _ _))
  exact Nat.lt_of_le_of_lt (pd_lt w c i hc) hc
theorem pe_mono {w c s t : Nat} (hs : s < 2 ^ w) (ht : t < 2 ^ w) (h1 : s &&& c = s) (h2 : t &&& c = t) (l : s < t) : pe w c s < pe w c t := by
  apply Nat.lt_of_not_le; intro z
  rcases Nat.lt_or_eq_of_le z with z | z
  · have := pd_mono w c _ _ z (pe_lt w c s)
    rw [pd_pe w c t ht h2, pd_pe w c s hs h1] at this; omega
  · have := congrArg (pd w c) z
    rw [pd_pe w c t ht h2, pd_pe w c s hs h1] at this; omega
theorem pd_zero : ∀ w c, pd w c 0 = 0 := by
  intro w
  induction w with
  | zero => intro c; rfl
  | succ w ih => intro c; unfold pd; split
                 · rw [Nat.zero_div, ih]
                 · rw [ih]
theorem pd_top {w c : Nat} (hc : c < 2 ^ w) : pd w c (2 ^ pcn w c - 1) = c := by
  have h1 := pd_pe w c c hc (Nat.and_self c)
  have h2 := pe_lt w c c
  rcases Nat.lt_or_ge (pe w c c) (2 ^ pcn w c - 1) with z | z
  · have := pd_mono w c _ _ z (by omega)
    have := pd_lt w c (2 ^ pcn w c - 1) hc
    omega
  · rw [show 2 ^ pcn w c - 1 = pe w c c by omega, h1]
theorem pcn_ct : ∀ w c, pcn w c = fb_ct (fun k => c.testBit k) w := by
  intro w
  induction w with
  | zero => intro c; rfl
  | succ w ih =>
    intro c
    rw [pcn, ih, show w + 1 = 1 + w from Nat.add_comm _ _, fb_ct_split, Nat.add_comm]
    congr 1
    · show c % 2 = 0 + (if c.testBit 0 = true then 1 else 0)
      rw [Nat.testBit_zero]
      rcases Nat.mod_two_eq_zero_or_one c with b | b <;> simp [b]
    · exact fb_ct_cong fun k _ => by rw [Nat.add_comm 1 k, Nat.testBit_succ]
/-! in ints -/
theorem nI_pow32 {a : Nat} : nI (a + 4294967296) = nI a := by
  apply Int32.toBitVec_inj.mp
  show BitVec.ofNat 32 _ = BitVec.ofNat 32 _
  apply BitVec.eq_of_toNat_eq
  rw [BitVec.toNat_ofNat, BitVec.toNat_ofNat, show (2 : Nat) ^ 32 = 4294967296 from rfl, Nat.add_mod_right]
theorem sub1_32 (x : Nat) : nI x - 1 = nI (x + (2 ^ 32 - 1)) := by
  rw [← nI_pow32 (a := x), show (1 : Int32) = nI 1 from rfl, pk_sub (by omega)]
  exact congrArg nI (by omega)
theorem lpU_pd {c : Nat} (hc : c < 2 ^ 32) : ∀ i, lpS (nxU (nI c)) 0 i = nI (pd 32 c i) := by
  intro i
  induction i with
  | zero => rw [pd_zero]; rfl
  | succ i ih =>
    show (lpS (nxU (nI c)) 0 i - nI c) &&& nI c = _
    have hp := pd_lt 32 c i hc
    have e : nI (pd 32 c i) - nI c = nI (pd 32 c i + (2 ^ 32 - c)) := by
      rw [← nI_pow32 (a := pd 32 c i), pk_sub (by omega)]
      congr 1; omega
    rw [ih, e, nx_and, pd_next 32 c i hc]
theorem lpD_pd {c : Nat} (hc : c < 2 ^ 32) : ∀ i, i < 2 ^ pcn 32 c → lpS (nxD (nI c)) (nI c) i = nI (pd 32 c (2 ^ pcn 32 c - 1 - i)) := by
  intro i
  induction i with
  | zero => intro _; rw [Nat.sub_zero, pd_top hc]; rfl
  | succ i ih =>
    intro hi
    show (lpS (nxD (nI c)) (nI c) i - 1) &&& nI c = _
    rw [ih (by omega)]
    have e := sub1_32 (pd 32 c (2 ^ pcn 32 c - 1 - i))
    have e2 := pd_prev 32 c (2 ^ pcn 32 c - 1 - (i + 1)) hc
    rw [show 2 ^ pcn 32 c - 1 - (i + 1) + 1 = 2 ^ pcn 32 c - 1 - i by omega] at e2
    rw [e, nx_and, e2]
end T63
