/-! what falls, told by the wall and the law alone -/
section T61
variable {cx : Cx} {d a : Nat} {h g : Hp} {w : Wd} {L : Option (List CS)}
def alo (w : Wd) (L : Option (List CS)) (s : Int32) (k : Nat) : Prop := inB s k ∧ ¬ (mBnd w L k = true ∨ mNeed w L k ≤ onesR (mNear w k &&& s) 22 + mFirm w k)
noncomputable def aU (w : Wd) (L : Option (List CS)) (s : Int32) : Int32 := bitsR (alo w L s) 22
def items (w : Wd) (s : Int32) : Prop := ∀ k, k < 22 → inB s k → cItem w k
theorem bitsR_cg {P R : Nat → Prop} : ∀ n, (∀ k, k < n → (P k ↔ R k)) → bitsR P n = bitsR R n := by
  intro n
  induction n with
  | zero => intro _; rfl
  | succ n ih =>
    intro e
    rw [bitsR, bitsR, ih (fun k hk => e k (by omega)), propext (e n (Nat.lt_succ_self _))]
theorem lk_uns {s : Int32} (lk : lkOk w L g) (it : items w s) : nuns g s = aU w L s := by
  refine bitsR_cg 22 fun k hk => ?_
  unfold nlo alo
  by_cases hb : inB s k
  · obtain ⟨r1, r2, r3, r4⟩ := lk k hk (it k hk hb)
    unfold nStd
    rw [r1, r2, r3, r4, bI_n]
  · exact ⟨fun z => absurd z.1 hb, fun z => absurd z.1 hb⟩
theorem Uok_aU : Uok (aU w L) := fun s k hk q => by
  obtain ⟨h1, h2⟩ := (bt_bits hk).mp q
  exact ⟨h1, (inB_bt hk).mp h2.1⟩
theorem items_sub {s t : Int32} (it : items w s) (hs : ∀ k, k < 22 → inB t k → inB s k) : items w t := fun k hk q => it k hk (hs k hk q)
theorem items_and {s x : Int32} (it : items w s) : items w (s &&& x) := items_sub it fun k hk q => by
  rw [inB_bt (by omega)] at q ⊢
  rw [b_and] at q; simp at q; exact q.1
theorem lk_it {n : Nat} (lk : lkOk w L g) : ∀ {s : Int32}, items w s → nfR g n s = itR (aU w L) n s := by
  induction n with
  | zero => intro s _; rfl
  | succ n ih =>
    intro s it
    rw [nfR, itR, lk_uns lk it, ih (items_and it)]
theorem lk_itN {n : Nat} (lk : lkOk w L g) : ∀ {s : Int32}, items w s → nrR g n s = itN (aU w L) n s := by
  induction n with
  | zero => intro s _; rfl
  | succ n ih =>
    intro s it
    rw [nrR, itN, lk_uns lk it, ih (items_and it)]
theorem n_looseU (hd : 2 ≤ d) {s : Int32} (lk : lkOk w L h) (it : items w s) : M cx jX12_loose d a [.ref o_m, .int s] h (RQ (.int (aU w L s)) h) := by rw [← lk_uns lk it]; exact n_loose hd
theorem n_fallU (hd : 3 ≤ d) {s : Int32} (lk : lkOk w L h) (it : items w s) : M cx jX12_fall d a [.ref o_m, .int s] h (RQ (.int (itR (aU w L) 22 s)) h) := by rw [← lk_it lk it]; exact n_fall22 hd
/-- the stones that stand there are stones -/
def thereOk (w : Wd) (n : Nat) : Prop := w 157 = nI n ∧ n ≤ 14 ∧ ∃ m, w 159 = nI m ∧ m < 2 ^ n
theorem bt_nI {m k : Nat} (hk : k < 32) : bt (nI m) k = m.testBit k := by
  show (BitVec.ofNat 32 m).getLsbD k = _
  rw [BitVec.getLsbD_ofNat]; simp [hk]
theorem stone_item {n k : Nat} (en : w 157 = nI n) (hn : n ≤ 14) (hk : k < n) : cItem w k := by
  refine Or.inl ⟨by omega, nI_pos' (by omega), ?_⟩
  rw [en, show (1 : Int32) = nI 1 from rfl, pk_sub (by omega)]
  exact nI_le (by omega) (by omega)
theorem items_nI {n m : Nat} (en : w 157 = nI n) (hn : n ≤ 14) (hm : m < 2 ^ n) : items w (nI m) := fun k hk q => by
  rw [inB_bt (by omega), bt_nI (by omega)] at q
  refine stone_item en hn (Nat.lt_of_not_le fun z => ?_)
  have : m < 2 ^ k := Nat.lt_of_lt_of_le hm (Nat.pow_le_pow_right (by decide) z)
  rw [Nat.testBit_lt_two_pow this] at q; cases q
theorem items_there {n : Nat} (q : thereOk w n) : items w (w 159) := by
  obtain ⟨en, hn, m, em, hm⟩ := q
  rw [em]; exact items_nI en hn hm
/-- scratch of the model's questions -/
def keepM (h g : Hp) : Prop := g.2 = h.2 ∧ ∀ o k, ¬ (o = 104 ∧ (k = 19 ∨ k = 20 ∨ k = 21 ∨ k = 27 ∨ k = 32 ∨ k = 33 ∨ k = 34)) → ¬ (115 ≤ o ∧ o ≤ 124) → hI g o k = hI h o k
theorem keepM_r : keepM h h := ⟨rfl, fun _ _ _ _ => rfl⟩
theorem keepM_t {f : Hp} (p : keepM h g) (q : keepM g f) : keepM h f := ⟨q.1.trans p.1, fun o k n1 n2 => (q.2 o k n1 n2).trans (p.2 o k n1 n2)⟩
theorem keepM_W (p : keepM h g) : kW g = kW h := funext fun k => p.2 o_m_kept k (fun z => absurd z.1 (by decide)) (by decide)
theorem keepM_w {o k : Nat} {v : Int32} (ho : (o = 104 ∧ (k = 19 ∨ k = 20 ∨ k = 21 ∨ k = 27 ∨ k = 32 ∨ k = 33 ∨ k = 34)) ∨ (115 ≤ o ∧ o ≤ 124)) : keepM h (wI h o k v) := ⟨rfl, fun o' k' n1 n2 => by rw [rd_any, if_neg]; rintro ⟨rfl, rfl⟩; exact ho.elim n1 n2⟩
theorem keepL_M (p : keepL h g) : keepM h g := ⟨p.1, fun o k n1 n2 => p.2 o k (fun z => n1 ⟨z.1, by rcases z.2 with z | z | z | z <;> simp [z]⟩) (fun z => n2 (by omega))⟩
theorem keepM_N (p : keepM h g) : hN g = hN h := congrArg (fun z => z.2.2.2) p.1
theorem keepL_N (p : keepL h g) : hN g = hN h := congrArg (fun z => z.2.2.2) p.1
end T61
