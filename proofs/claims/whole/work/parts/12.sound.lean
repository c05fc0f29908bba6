/-! the listed instructions are the method's, and their words stand in the tables -/
def dec1 (j pc : Nat) (ins : Instr) : Bool := match decode (mcode j) pc with
  | .ok (i, n) => decide (i = ins) && (n == ilen ins)
  | .error _ => false
def dec2 (j pc : Nat) (ins : Instr) : Bool := match decode (mcode j) pc with
  | .ok (i, _) => decide (i = ins)
  | .error _ => false
theorem dec1_ok {j pc : Nat} {ins : Instr} (h : dec1 j pc ins = true) : decode (mcode j) pc = .ok (ins, ilen ins) := by
  unfold dec1 at h
  match hq : decode (mcode j) pc, h with
  | .ok (i, n), h =>
    simp only [Bool.and_eq_true, decide_eq_true_eq, beq_iff_eq] at h
    rw [h.1, h.2]
theorem dec2_ok {j pc : Nat} {ins : Instr} (h : dec2 j pc ins = true) : ∃ n, decode (mcode j) pc = .ok (ins, n) := by
  unfold dec2 at h
  match hq : decode (mcode j) pc, h with
  | .ok (i, n), h =>
    simp only [decide_eq_true_eq] at h
    exact ⟨n, by rw [h]⟩
def chF (j idx x y : Nat) : Bool := tb_F.any (fun q => q.1 == mcn j && q.2.1 == idx && q.2.2.1 == x && q.2.2.2.1 == y)
def chC (j idx x t : Nat) : Bool := tb_C.any (fun q => q.1 == mcn j && q.2.1 == idx && q.2.2.1 == x && q.2.2.2.1 == t)
theorem chF_ok {j idx x y : Nat} (h : chF j idx x y = true) : ∃ hint, (mcn j, idx, x, y, hint) ∈ tb_F := by
  obtain ⟨q, hq, h⟩ := List.any_eq_true.mp h
  simp only [Bool.and_eq_true, beq_iff_eq] at h
  obtain ⟨⟨⟨h1, h2⟩, h3⟩, h4⟩ := h
  refine ⟨q.2.2.2.2, ?_⟩
  rw [← h1, ← h2, ← h3, ← h4]; exact hq
theorem chC_ok {j idx x t : Nat} (h : chC j idx x t = true) : ∃ hint, (mcn j, idx, x, t, hint) ∈ tb_C := by
  obtain ⟨q, hq, h⟩ := List.any_eq_true.mp h
  simp only [Bool.and_eq_true, beq_iff_eq] at h
  obtain ⟨⟨⟨h1, h2⟩, h3⟩, h4⟩ := h
  refine ⟨q.2.2.2.2, ?_⟩
  rw [← h1, ← h2, ← h3, ← h4]; exact hq
def chI (j idx : Nat) (c : Int32) : Bool := tb_KI.any (fun q => q.1 == mcn j && q.2.1 == idx && decide (q.2.2.1 = c))
theorem chI_ok {j idx : Nat} {c : Int32} (h : chI j idx c = true) : ∃ hint, (mcn j, idx, c, hint) ∈ tb_KI := by
  obtain ⟨q, hq, h⟩ := List.any_eq_true.mp h
  simp only [Bool.and_eq_true, beq_iff_eq, decide_eq_true_eq] at h
  obtain ⟨⟨h1, h2⟩, h3⟩ := h
  refine ⟨q.2.2.2, ?_⟩
  rw [← h1, ← h2, ← h3]; exact hq
def chL (j idx : Nat) (c : Int64) : Bool := tb_KL.any (fun q => q.1 == mcn j && q.2.1 == idx && decide (q.2.2.1 = c))
theorem chL_ok {j idx : Nat} {c : Int64} (h : chL j idx c = true) : ∃ hint, (mcn j, idx, c, hint) ∈ tb_KL := by
  obtain ⟨q, hq, h⟩ := List.any_eq_true.mp h
  simp only [Bool.and_eq_true, beq_iff_eq, decide_eq_true_eq] at h
  obtain ⟨⟨h1, h2⟩, h3⟩ := h
  refine ⟨q.2.2.2, ?_⟩
  rw [← h1, ← h2, ← h3]; exact hq
def tgt (pc : Nat) (off : Int) (x : Nat) : Bool := decide ((pc : Int) + off = (x : Int))
def chk1 (j pc : Nat) (ins : Instr) (x y z : Nat) (c : Int32) : Bool := match ins with
  | .istore_n n => decide ((n : Nat) < mmax j)
  | .istore n => decide (n < mmax j)
  | .lstore_n n => decide ((n : Nat) + 1 < mmax j)
  | .lstore n => decide (n + 1 < mmax j)
  | .astore_n n => decide ((n : Nat) < mmax j)
  | .astore n => decide (n < mmax j)
  | .iinc n k => decide (n < mmax j) && decide (Int32.ofInt k = c)
  | .iconst n => decide (Int32.ofInt n = c)
  | .bipush n => decide ((Int8.ofInt n).toInt32 = c)
  | .sipush n => decide ((Int16.ofInt n).toInt32 = c)
  | .lconst n => decide ((n : Nat) = x)
  | .ldc idx => match y with
    | 0 => chI j idx c
    | _ => decide ((tb_S.getD x (0, "")).1 = idx) && decide (x < 26) && decide (mcn j = 5)
  | .ldc_w idx => chI j idx c
  | .ldc2_w idx => chL j idx (kl x y)
  | .getfield idx => chF j idx x y
  | .putfield idx => chF j idx x y && !ly_fk x y && !(tb_TT x y).2.2.2 && (match z with | 0 => decide (tb_ty x y = .int) | _ => decide (tb_ty x y = .boolean))
  | .ifCond _ off => tgt pc off x
  | .if_icmp _ off => tgt pc off x
  | .ifnull off => tgt pc off x
  | .ifnonnull off => tgt pc off x
  | .goto off => tgt pc off x
  | .tableswitch dflt lo hi offs => tgt pc dflt x && decide (lo = 0) && decide (hi + 1 = offs.size) && offs.toList.all (fun o => decide (0 ≤ (pc : Int) + o)) && decide (offs.size < 1000)
  | .ireturn => match x with
    | 0 => decide (mret j = some .int)
    | _ => decide (mret j = some .boolean)
  | .lreturn => decide (mret j = some .long)
  | .areturn => match mret j with | some (.object _) => true | _ => false
  | .return_ => decide (mret j = none)
  | .invokevirtual idx => chC j idx x 0 && decide (mcn x = z) && decide (z < 13) && decide (tb_np.getD x 0 = y)
  | .invokestatic idx => match z with
    | 0 => (chC j idx x 1 || chC j idx x 2) && (decide (mcn x < 13) || decide (x = 236)) && decide (tb_np.getD x 0 = y)
    | _ => chC j idx x 1
  | _ => true
def isSw (i : Instr) : Bool := match i with | .tableswitch _ _ _ _ => true | _ => false
def chk (j : Nat) : List Ins → Nat → Bool
  | [], _ => true
  | (ins, x, y, z, c) :: r, pc => (if isSw ins then dec2 j pc ins else dec1 j pc ins) && chk1 j pc ins x y z c && (if isSw ins then true else chk j r (pc + ilen ins))
theorem sk_use {o c : Nat} (h : ly_sk o = c) (hc : c < 99) : 64 ≤ o ∧ o < 126 ∧ kd o = c := by
  have key : 64 ≤ o ∧ o < 126 := by
    unfold ly_sk at h
    split at h <;> omega
  refine ⟨key.1, key.2, ?_⟩
  unfold kd
  rw [if_pos key.2]
  exact h
theorem lawp_kd {h : Hp} {o : Nat} (q : lawp h o) : kd o = 3 := by
  unfold kd; rw [if_neg (by have := q.1; omega), if_pos q.2.2]
theorem lawa_kd {h : Hp} {o : Nat} (q : lawa h o) : kd o = 20 := by
  unfold kd; rw [if_neg (by have := q.1; omega), if_neg q.2.2]
theorem ln_s {h : Hp} {o : Nat} (q : o < 126) : ln h o = ly_al o := by unfold ln; rw [if_pos q]
theorem ln_d {h : Hp} {o : Nat} (q : 126 ≤ o) : ln h o = hL h o := by unfold ln; rw [if_neg (by omega)]
theorem rf_d {o k : Nat} (q : 126 ≤ o) : ly_rf o k = o + 1 + k := by
  unfold ly_rf
  split <;> first | omega | rfl
section ES
variable {cx : Cx} {j d a pc : Nat} {loc : Lc} {st : List Value} {h : Hp} {Q : Option Value → Hp → Prop}
theorem mm_use {k : Nat} (hk : k = 237 ∨ k = 238 ∨ k = 239 ∨ k = 240) : mw_stat k ∈ gT ∧ Cond.initialized "java/lang/Math" ∈ gT ∧ mm_w k ∈ gT := by
  have := List.all_eq_true.mp mm_all k (by rcases hk with rfl | rfl | rfl | rfl <;> decide)
  simp only [mm_ok, Bool.and_eq_true, decide_eq_true_eq] at this
  refine ⟨gT_of this.1.1 rfl, gT_of this.1.2 rfl, gT_of this.2 ?_⟩
  rcases hk with rfl | rfl | rfl | rfl <;> rfl
theorem cat_same {ad : Nat → Nat} {st : List Value} : ((st.map (cv ad)).map fun v => v.category) = st.map fun v => v.category := by
  rw [List.map_map]; exact List.map_congr_left (fun v _ => cv_cat ad v)
theorem e_mmax {idx hint : Nat} {x y : Int32} (hd : decode (mcode j) pc = .ok (.invokestatic idx, 3)) (hC : (mcn j, idx, 237, 1, hint) ∈ tb_C) (hs : (st.map fun v => v.category).sum ≤ 40) (hd0 : 0 < d) (kk : E cx j d a (pc + 3) loc (.int (if x < y then y else x) :: st) h Q) : E cx j d a pc loc (.int y :: .int x :: st) h Q := by
  intro p l e s m args below meth c h0 ad0 ad ls H locs nc ns mc ms hc h1 h2
  have hts := hc.1.2.2.2.2.2.1
  obtain ⟨w1, w2, w3⟩ := mm_use (k := 237) (by omega)
  have hl := List.all_eq_true.mp tb_C_ok _ hC
  simp only [ct_ok, decide_eq_true_eq] at hl
  have hl := hts _ (gT_of hl rfl)
  have w1 := hts _ w1
  simp only [ml_w, mw_stat, my_237] at hl w1
  exact va_mmax hc.1.1 hc.1.2.1 (hc.1.2.2.2.1.trans hc.2.2.2.1.symm) hc.1.2.2.2.2.1 hl w1 (hts _ w2) (hts _ w3) (by show 1 ≤ d; omega) (by rw [cat_same]; show _ + 13 ≤ 64 * d; omega) (by show nc ≤ mc; omega) (by show ns ≤ ms; omega) hd (kk p l e s m args below meth c h0 ad0 ad ls H locs nc ns mc ms hc h1 h2)
theorem e_mmin {idx hint : Nat} {x y : Int32} (hd : decode (mcode j) pc = .ok (.invokestatic idx, 3)) (hC : (mcn j, idx, 239, 1, hint) ∈ tb_C) (hs : (st.map fun v => v.category).sum ≤ 40) (hd0 : 0 < d) (kk : E cx j d a (pc + 3) loc (.int (if y < x then y else x) :: st) h Q) : E cx j d a pc loc (.int y :: .int x :: st) h Q := by
  intro p l e s m args below meth c h0 ad0 ad ls H locs nc ns mc ms hc h1 h2
  have hts := hc.1.2.2.2.2.2.1
  obtain ⟨w1, w2, w3⟩ := mm_use (k := 239) (by omega)
  have hl := List.all_eq_true.mp tb_C_ok _ hC
  simp only [ct_ok, decide_eq_true_eq] at hl
  have hl := hts _ (gT_of hl rfl)
  have w1 := hts _ w1
  simp only [ml_w, mw_stat, my_239] at hl w1
  exact va_mmin hc.1.1 hc.1.2.1 (hc.1.2.2.2.1.trans hc.2.2.2.1.symm) hc.1.2.2.2.2.1 hl w1 (hts _ w2) (hts _ w3) (by show 1 ≤ d; omega) (by rw [cat_same]; show _ + 13 ≤ 64 * d; omega) (by show nc ≤ mc; omega) (by show ns ≤ ms; omega) hd (kk p l e s m args below meth c h0 ad0 ad ls H locs nc ns mc ms hc h1 h2)
theorem e_lmax {idx hint : Nat} {x y : Int64} (hd : decode (mcode j) pc = .ok (.invokestatic idx, 3)) (hC : (mcn j, idx, 238, 1, hint) ∈ tb_C) (hs : (st.map fun v => v.category).sum ≤ 40) (hd0 : 0 < d) (kk : E cx j d a (pc + 3) loc (.long (if y < x then x else y) :: st) h Q) : E cx j d a pc loc (.long y :: .long x :: st) h Q := by
  intro p l e s m args below meth c h0 ad0 ad ls H locs nc ns mc ms hc h1 h2
  have hts := hc.1.2.2.2.2.2.1
  obtain ⟨w1, w2, w3⟩ := mm_use (k := 238) (by omega)
  have hl := List.all_eq_true.mp tb_C_ok _ hC
  simp only [ct_ok, decide_eq_true_eq] at hl
  have hl := hts _ (gT_of hl rfl)
  have w1 := hts _ w1
  simp only [ml_w, mw_stat, my_238] at hl w1
  exact va_mmax_long hc.1.1 hc.1.2.1 (hc.1.2.2.2.1.trans hc.2.2.2.1.symm) hc.1.2.2.2.2.1 hl w1 (hts _ w2) (hts _ w3) (by show 1 ≤ d; omega) (by rw [cat_same]; show _ + 15 ≤ 64 * d; omega) (by show nc ≤ mc; omega) (by show ns ≤ ms; omega) hd (kk p l e s m args below meth c h0 ad0 ad ls H locs nc ns mc ms hc h1 h2)
theorem e_lmin {idx hint : Nat} {x y : Int64} (hd : decode (mcode j) pc = .ok (.invokestatic idx, 3)) (hC : (mcn j, idx, 240, 1, hint) ∈ tb_C) (hs : (st.map fun v => v.category).sum ≤ 40) (hd0 : 0 < d) (kk : E cx j d a (pc + 3) loc (.long (if y < x then y else x) :: st) h Q) : E cx j d a pc loc (.long y :: .long x :: st) h Q := by
  intro p l e s m args below meth c h0 ad0 ad ls H locs nc ns mc ms hc h1 h2
  have hts := hc.1.2.2.2.2.2.1
  obtain ⟨w1, w2, w3⟩ := mm_use (k := 240) (by omega)
  have hl := List.all_eq_true.mp tb_C_ok _ hC
  simp only [ct_ok, decide_eq_true_eq] at hl
  have hl := hts _ (gT_of hl rfl)
  have w1 := hts _ w1
  simp only [ml_w, mw_stat, my_240] at hl w1
  exact va_mmin_long hc.1.1 hc.1.2.1 (hc.1.2.2.2.1.trans hc.2.2.2.1.symm) hc.1.2.2.2.2.1 hl w1 (hts _ w2) (hts _ w3) (by show 1 ≤ d; omega) (by rw [cat_same]; show _ + 15 ≤ 64 * d; omega) (by show nc ≤ mc; omega) (by show ns ≤ ms; omega) hd (kk p l e s m args below meth c h0 ad0 ad ls H locs nc ns mc ms hc h1 h2)
/-- the script is read -/
theorem e_sld {i : Int32} (hd : decode (mcode j) pc = .ok (.iaload, 1)) (hin : vp_in i (cxL cx)) (kk : E cx j d a (pc + 1) loc (.int (cxX cx i.toNatClampNeg) :: st) h Q) : E cx j d a pc loc (.int i :: .ref 0 :: st) h Q := by
  intro p l e s m args below meth c h0 ad0 ad ls H locs nc ns mc ms hc h1 h2
  have e0 : ad 0 = ad0 0 := hc.2.2.1.1 0 (by omega)
  have hw := hc.2.1.2.2.2.2.1
  show W _ _ _ _ _ _ _ _ _ _ _ _ _ _ _ (F0 m pc ls (.int i :: .ref (ad 0) :: st.map (cv ad)))
  rw [e0]
  exact va_sld hc.1.1 hc.1.2.1 hw.1 hw.2.1 hw.2.2 hc.2.1.2.2.2.1 hin hd (kk p l e s m args below meth c h0 ad0 ad ls H locs nc ns mc ms hc h1 h2)
theorem e_slen (hd : decode (mcode j) pc = .ok (.arraylength, 1)) (kk : E cx j d a (pc + 1) loc (.int (Int32.ofNat (cxL cx)) :: st) h Q) : E cx j d a pc loc (.ref 0 :: st) h Q := by
  intro p l e s m args below meth c h0 ad0 ad ls H locs nc ns mc ms hc h1 h2
  have e0 : ad 0 = ad0 0 := hc.2.2.1.1 0 (by omega)
  have hw := hc.2.1.2.2.2.2.1
  show W _ _ _ _ _ _ _ _ _ _ _ _ _ _ _ (F0 m pc ls (.ref (ad 0) :: st.map (cv ad)))
  rw [e0]
  exact va_slen hc.1.1 hc.1.2.1 hw.1 hw.2.1 hw.2.2 hc.2.1.2.2.2.1 hd (kk p l e s m args below meth c h0 ad0 ad ls H locs nc ns mc ms hc h1 h2)
theorem nar_b {v : Int32} (h : isB v) : narrow .boolean (.int v) = .int v ∧ fits .boolean (.int v) = true := by
  rcases h with rfl | rfl <;> exact ⟨by decide, by decide⟩
theorem popn_ok : ∀ (n : Nat) (st acc : List Value) (k : List Value → List Value → Prop), popn n st acc k → ∃ vs r, st = vs.reverse ++ r ∧ vs.length = n ∧ k (vs ++ acc) r
  | 0, st, acc, k, h => ⟨[], st, rfl, rfl, h⟩
  | n + 1, [], acc, k, h => False.elim h
  | n + 1, v :: st, acc, k, h => by
    obtain ⟨vs, r, e, hl, hk⟩ := popn_ok n st (v :: acc) k h
    refine ⟨vs ++ [v], r, by rw [e]; simp, by simp [hl], ?_⟩
    rw [List.append_assoc]; exact hk
end ES
