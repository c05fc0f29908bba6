/-! sets as ints: bits, counts, falling till nothing falls -/
section T60
variable {cx : Cx} {d a : Nat} {h g : Hp}
theorem one_bt (x : Int32) : x &&& 1 = (if bt x 0 = true then 1 else 0) := by
  apply b_ext; intro i hi
  rw [b_and]
  have e1 : ∀ i, i < 32 → bt 1 i = decide (i = 0) := by decide +kernel
  rw [e1 i hi]
  by_cases h0 : i = 0
  · subst h0
    by_cases hb : bt x 0 = true
    · rw [if_pos hb, hb]; rfl
    · rw [if_neg hb, ts_nt hb]; rfl
  · have : decide (i = 0) = false := decide_eq_false h0
    rw [this, Bool.and_false]
    split
    · rw [e1 i hi, this]
    · rw [b_0]
theorem sh_bt {s : Int32} {k : Nat} (hk : k < 32) : bt (s >>> (nI k &&& 31)) 0 = bt s k := by rw [b_sshr k hk s (by decide), if_pos (by omega), Nat.add_zero]
theorem inB_bt {s : Int32} {k : Nat} (hk : k < 32) : inB s k ↔ bt s k = true := by
  unfold inB
  rw [one_bt, sh_bt hk]
  by_cases hb : bt s k = true
  · rw [if_pos hb]; simp [hb]
  · rw [if_neg hb]; simp [hb]
theorem inB_n {s : Int32} {k : Nat} (hk : k < 32) : ¬ inB s k ↔ (s >>> (nI k &&& 31)) &&& 1 = 0 := by
  rw [inB_bt hk, ← shr_bt hk, Classical.not_not]
theorem onesR_ct {s : Int32} : ∀ n, n ≤ 32 → onesR s n = nI (fb_ct (bt s) n) := by
  intro n
  induction n with
  | zero => intro _; rfl
  | succ n ih =>
    intro hn
    rw [onesR, ih (by omega), fb_ct_succ, ← nI_add, one_bt, sh_bt (by omega)]
    congr 1
    by_cases hb : bt s n = true
    · rw [if_pos hb, if_pos hb]; rfl
    · rw [if_neg hb, if_neg hb]; rfl
/-- how many of the 22 items a set has -/
def sz (s : Int32) : Nat := fb_ct (bt s) 22
theorem b_not (x : Int32) {i : Nat} (hi : i < 32) : bt (x ^^^ -1) i = !bt x i := by rw [b_xor, b_m1 i hi, Bool.xor_true]
/-- falling, round by round -/
def itR (U : Int32 → Int32) : Nat → Int32 → Int32
  | 0, s => s
  | n + 1, s => if U s = 0 then s else itR U n (s &&& (U s ^^^ -1))
def itN (U : Int32 → Int32) : Nat → Int32 → Nat
  | 0, _ => 0
  | n + 1, s => if U s = 0 then 0 else itN U n (s &&& (U s ^^^ -1)) + 1
theorem nfR_it {n : Nat} : ∀ s, nfR g n s = itR (nuns g) n s := by
  induction n with
  | zero => intro s; rfl
  | succ n ih => intro s; rw [nfR, itR, ih]
theorem nrR_it {n : Nat} : ∀ s, nrR g n s = itN (nuns g) n s := by
  induction n with
  | zero => intro s; rfl
  | succ n ih => intro s; rw [nrR, itN, ih]
theorem setR_it {n : Nat} : ∀ s, setR h n s = itR (uns h) n s := by
  induction n with
  | zero => intro s; rfl
  | succ n ih => intro s; rw [setR, itR, ih]
theorem rndR_it {n : Nat} : ∀ s, rndR h n s = itN (uns h) n s := by
  induction n with
  | zero => intro s; rfl
  | succ n ih => intro s; rw [rndR, itN, ih]
/-- what falls is of the set -/
def Uok (U : Int32 → Int32) : Prop := ∀ s k, k < 32 → bt (U s) k = true → k < 22 ∧ bt s k = true
theorem bt_bits {P : Nat → Prop} {i : Nat} (hi : i < 32) : bt (bitsR P 22) i = true ↔ i < 22 ∧ P i := bit_of_bitsR 22 i (by decide) hi
theorem uns_bits {s : Int32} : uns h s = bitsR (lo h s) 22 := by
  unfold uns
  have : ∀ n, unsR h s n = bitsR (lo h s) n := by
    intro n
    induction n with
    | zero => rfl
    | succ n ih => rw [unsR, bitsR, ih]
  exact this 22
theorem Uok_nuns : Uok (nuns g) := fun s k hk q => by
  obtain ⟨h1, h2⟩ := (bt_bits hk).mp q
  exact ⟨h1, (inB_bt hk).mp h2.1⟩
theorem Uok_uns : Uok (uns h) := fun s k hk q => by
  rw [uns_bits] at q
  obtain ⟨h1, h2⟩ := (bt_bits hk).mp q
  exact ⟨h1, (shr_bt hk).mp h2.1⟩
theorem zero_bt {x : Int32} : x = 0 ↔ ∀ k, k < 32 → bt x k = false := ⟨fun z k _ => by rw [z]; exact b_0 k, fun z => b_ext fun i hi => by rw [z i hi, b_0]⟩
theorem nz_bt {x : Int32} (n : ¬ x = 0) : ∃ k, k < 32 ∧ bt x k = true := Classical.byContradiction fun z => n (zero_bt.mpr fun k hk => ts_nt fun y => z ⟨k, hk, y⟩)
theorem sz_drop {U : Int32 → Int32} (hU : Uok U) {s : Int32} (n : ¬ U s = 0) : sz (s &&& (U s ^^^ -1)) < sz s := by
  obtain ⟨k, hk, hb⟩ := nz_bt n
  obtain ⟨h22, hs⟩ := hU s k hk hb
  have e := fb_ct_upd (bt s) false (i := k) (n := 22) h22
  rw [hs] at e
  have l : fb_ct (bt (s &&& (U s ^^^ -1))) 22 ≤ fb_ct (fun j => if j = k then false else bt s j) 22 := fb_ct_sub fun j hj q => by
    rw [b_and, b_not _ (by omega)] at q
    by_cases e : j = k
    · subst e; rw [hb] at q; simp at q
    · rw [if_neg e]; simp at q; exact q.1
  show fb_ct _ 22 < fb_ct _ 22
  have e2 : fb_ct (fun j => if j = k then false else bt s j) 22 + 1 = fb_ct (bt s) 22 + 0 := e
  omega
theorem it_fix {U : Int32 → Int32} (hU : Uok U) : ∀ n s, sz s ≤ n → U (itR U n s) = 0 := by
  intro n
  induction n with
  | zero =>
    intro s hs
    exact Classical.byContradiction fun z => by have := sz_drop hU (show ¬ U s = 0 from z); omega
  | succ n ih =>
    intro s hs
    rw [itR]
    by_cases z : U s = 0
    · rw [if_pos z]; exact z
    · rw [if_neg z]; exact ih _ (by have := sz_drop hU z; omega)
theorem sz_le (s : Int32) : sz s ≤ 22 := fb_ct_le _ _
theorem nf_fix {s : Int32} : nuns g (nfR g 22 s) = 0 := by rw [nfR_it]; exact it_fix Uok_nuns 22 s (sz_le s)
theorem set_fix {s : Int32} : uns h (setR h 22 s) = 0 := by rw [setR_it]; exact it_fix Uok_uns 22 s (sz_le s)
theorem n_fall22 (hd : 3 ≤ d) {s : Int32} : M cx jX12_fall d a [.ref o_m, .int s] h (RQ (.int (nfR h 22 s)) h) := n_fall hd nf_fix
end T60
