/-! stretches of steps, run without a heap -/
def Go (F S : Int32 → Int32) (p : Int32) (i : Nat) (x : AS) (i' : Nat) (x' : AS) : Prop := i ≤ i' ∧ ∀ T n, i' ≤ T → T ≤ 400 → T < n + i → ∃ n', T < n' + i' ∧ aval F S p (nI T) n (nI i) x = aval F S p (nI T) n' (nI i') x'
section T99992
variable {F S : Int32 → Int32} {p : Int32} {i j i' m : Nat} {x x' x'' : AS} {st : List Int64}
theorem Go_r : Go F S p i x i x := ⟨Nat.le_refl _, fun T n _ _ h => ⟨n, h, rfl⟩⟩
theorem Go_t {i'' : Nat} (a : Go F S p i x i' x') (b : Go F S p i' x' i'' x'') : Go F S p i x i'' x'' := ⟨Nat.le_trans a.1 b.1, fun T n h1 h2 h3 => by
  obtain ⟨n', k1, k2⟩ := a.2 T n (Nat.le_trans b.1 h1) h2 h3
  obtain ⟨n'', l1, l2⟩ := b.2 T n' h1 h2 k1
  exact ⟨n'', l1, k2.trans l2⟩⟩
theorem Go_1 (h0 : x.2 = 0) (hj : i ≤ j) (e : astp F S p (nI i) x = (x', nI j)) : Go F S p i x (j + 1) x' := ⟨by omega, fun T n h1 h2 h3 => by
  cases n with
  | zero => omega
  | succ n =>
    refine ⟨n, by omega, ?_⟩
    rw [aval, if_neg (nI_ge (by omega) (by omega)), if_neg (fun z => z h0), e, ← nI_succ]⟩
theorem Go_end {T n : Nat} (g : Go F S p i x T x') (hT : T ≤ 400) (hn : T < n + i) : aval F S p (nI T) n (nI i) x = x' := by
  obtain ⟨n', h1, h2⟩ := g.2 T n (Nat.le_refl _) hT hn
  rw [h2]
  cases n' with
  | zero => rfl
  | succ n' => rw [aval, if_pos (Int32.le_refl _)]
theorem Go_brk {T n : Nat} (g : Go F S p i x i' x') (hb : ¬ x'.2 = 0) (hi : i' ≤ T) (hT : T ≤ 400) (hn : T < n + i) : ¬ (aval F S p (nI T) n (nI i) x).2 = 0 := by
  obtain ⟨n', h1, h2⟩ := g.2 T n hi hT hn
  rw [h2]
  cases n' with
  | zero => exact hb
  | succ n' =>
    rw [aval]
    split
    · exact hb
    · first | exact hb | (rw [if_pos hb]; exact hb)
/-! one step each -/
theorem go_num {v : Nat} (hs : S (nI i) = stW (nI 0) (nI v)) (hv : v < 1024) (hl : st.length < 64) : Go F S p i (st, 0) (i + 1) ((nI v).toInt64 :: st, 0) := by
  obtain ⟨d1, d2⟩ := stW_dec 0 (by decide) v hv
  refine Go_1 rfl (Nat.le_refl _) ?_
  unfold astp
  rw [hs, d1, d2, if_pos (show nI 0 = (0 : Int32) from rfl), apush, if_pos hl]
theorem go_fact {v : Nat} (hs : S (nI i) = stW (nI 1) (nI v)) (hv : v < 1024) (hl : st.length < 64) : Go F S p i (st, 0) (i + 1) ((if v = 7 then p.toInt64 else (F (nI v)).toInt64) :: st, 0) := by
  obtain ⟨d1, d2⟩ := stW_dec 1 (by decide) v hv
  refine Go_1 rfl (Nat.le_refl _) ?_
  unfold astp
  rw [hs, d1, d2, if_neg (by decide), if_pos (show nI 1 = (1 : Int32) from rfl), apush, if_pos hl]
  by_cases e : v = 7
  · rw [if_pos e, if_pos (by rw [e]; rfl)]
  · rw [if_neg e, if_neg (show ¬ nI v = (7 : Int32) from fun z => e ((nI_eq (b := 7) (by omega) (by decide)).mp z))]
theorem go_op {k : Nat} {u v : Int64} (hs : S (nI i) = stW (nI k) (nI 0)) (h2 : 2 ≤ k) (h8 : k ≤ 8) (hl : st.length < 64) : Go F S p i (v :: u :: st, 0) (i + 1) (jnV (nI k) u v :: st, if k < 6 then b2i (ajF 0 (nI k) u v) else 0) := by
  obtain ⟨d1, d2⟩ := stW_dec k (by omega) 0 (by decide)
  refine Go_1 rfl (Nat.le_refl _) ?_
  have ne : ∀ q, q < 12 → q ≠ k → ¬ nI k = nI q := fun q h1 h2 z => h2 ((nI_eq (by omega) (by omega)).mp z).symm
  have n0 : ¬ nI k = 0 := ne 0 (by omega) (by omega)
  have n1 : ¬ nI k = 1 := ne 1 (by omega) (by omega)
  have n9 : ¬ nI k = 9 := ne 9 (by omega) (by omega)
  have n10 : ¬ (nI k = 10 ∨ nI k = 11) := fun z => z.elim (ne 10 (by omega) (by omega)) (ne 11 (by omega) (by omega))
  unfold astp
  rw [hs, d1, if_neg n0, if_neg n1, if_neg n9, if_neg n10]
  show (apush (ajn (st, 0) (nI k) u v) (jnV (nI k) u v), nI i) = _
  unfold ajn
  by_cases c : k < 6
  · have nc : ¬ jnC (nI k) := by
      rintro (z | z | z)
      · exact ne 6 (by omega) (by omega) z
      · exact ne 7 (by omega) (by omega) z
      · exact ne 8 (by omega) (by omega) z
    rw [if_neg nc, if_pos c, apush, if_pos hl]
  · have yc : jnC (nI k) := by
      have : k = 6 ∨ k = 7 ∨ k = 8 := by omega
      rcases this with rfl | rfl | rfl
      · exact Or.inl rfl
      · exact Or.inr (Or.inl rfl)
      · exact Or.inr (Or.inr rfl)
    rw [if_pos yc, if_neg c, apush, if_pos hl]
theorem go_not {v : Int64} (hs : S (nI i) = stW (nI 9) (nI 0)) (hl : st.length < 64) : Go F S p i (v :: st, 0) (i + 1) ((if v = 0 then 1 else 0) :: st, 0) := by
  obtain ⟨d1, d2⟩ := stW_dec 9 (by decide) 0 (by decide)
  refine Go_1 rfl (Nat.le_refl _) ?_
  unfold astp
  rw [hs, d1, if_neg (by decide), if_neg (by decide), if_pos (show nI 9 = (9 : Int32) from rfl)]
  show (apush (st, 0) (if v = 0 then 1 else 0), nI i) = _
  rw [apush, if_pos hl]
theorem go_jmp {k q : Nat} {v : Int64} (hk : k = 10 ∨ k = 11) (hs : S (nI i) = stW (nI k) (nI q)) (hq : q ≤ 400) (hi : i < q) (hl : st.length < 64) (z : ¬ v = 0 ↔ k = 11) : Go F S p i (v :: st, 0) q (v :: st, 0) := by
  obtain ⟨d1, d2⟩ := stW_dec k (by omega) q (by omega)
  obtain ⟨r, rfl⟩ : ∃ r, q = r + 1 := ⟨q - 1, by omega⟩
  refine Go_1 rfl (show i ≤ r by omega) ?_
  have e11 : nI k = 11 ↔ k = 11 := nI_eq (b := 11) (by omega) (by decide)
  have jy : jmp (nI k) v := z.trans e11.symm
  have pr : nI (r + 1) - 1 = nI r := by rw [nI_succ, Int32.add_sub_cancel]
  unfold astp
  rw [hs, d1, d2]
  rcases hk with rfl | rfl
  · rw [if_neg (by decide), if_neg (by decide), if_neg (by decide), if_pos (show nI 10 = (10 : Int32) ∨ nI 10 = (11 : Int32) from Or.inl rfl), if_pos (show jmp (nI 10) (apopV (v :: st, 0)) from jy)]
    show (apush (st, 0) v, if nI i < nI (r + 1) - 1 then nI (r + 1) - 1 else nI i) = _
    rw [apush, if_pos hl, pr]
    by_cases c : i < r
    · rw [if_pos (nI_lt c (by omega))]
    · rw [if_neg (fun y => c ((nI_ltI (by omega) (by omega)).mp y)), show i = r by omega]
  · rw [if_neg (by decide), if_neg (by decide), if_neg (by decide), if_pos (show nI 11 = (10 : Int32) ∨ nI 11 = (11 : Int32) from Or.inr rfl), if_pos (show jmp (nI 11) (apopV (v :: st, 0)) from jy)]
    show (apush (st, 0) v, if nI i < nI (r + 1) - 1 then nI (r + 1) - 1 else nI i) = _
    rw [apush, if_pos hl, pr]
    by_cases c : i < r
    · rw [if_pos (nI_lt c (by omega))]
    · rw [if_neg (fun y => c ((nI_ltI (by omega) (by omega)).mp y)), show i = r by omega]
theorem go_stay {k q : Nat} {v : Int64} (hk : k = 10 ∨ k = 11) (hs : S (nI i) = stW (nI k) (nI q)) (hq : q ≤ 400) (z : ¬ (¬ v = 0 ↔ k = 11)) : Go F S p i (v :: st, 0) (i + 1) (st, 0) := by
  obtain ⟨d1, d2⟩ := stW_dec k (by omega) q (by omega)
  refine Go_1 rfl (Nat.le_refl _) ?_
  have e11 : nI k = 11 ↔ k = 11 := nI_eq (b := 11) (by omega) (by decide)
  have jn : ¬ jmp (nI k) v := fun y => z (Iff.trans y e11)
  unfold astp
  rw [hs, d1, d2]
  rcases hk with rfl | rfl
  · rw [if_neg (by decide), if_neg (by decide), if_neg (by decide), if_pos (show nI 10 = (10 : Int32) ∨ nI 10 = (11 : Int32) from Or.inl rfl), if_neg (show ¬ jmp (nI 10) (apopV (v :: st, 0)) from jn)]; rfl
  · rw [if_neg (by decide), if_neg (by decide), if_neg (by decide), if_pos (show nI 11 = (10 : Int32) ∨ nI 11 = (11 : Int32) from Or.inr rfl), if_neg (show ¬ jmp (nI 11) (apopV (v :: st, 0)) from jn)]; rfl
end T99992
/-- the steps from m to m' tell s, with k places of the stack -/
def brG (F S : Int32 → Int32) (p : Int32) (m m' : Nat) (st : List Int64) : Prop := ∃ i' x', i' ≤ m' ∧ ¬ x'.2 = 0 ∧ Go F S p m (st, 0) i' x'
def cmpN (T : Nat → Int32) (m m' k : Nat) (s : SN) : Prop := 1 ≤ k ∧ m < m' ∧ ∀ F S p e, (∀ i, m ≤ i → i < m' → S (nI i) = T i) → envR F p e → ∀ st : List Int64, st.length + k ≤ 64 → (∀ u, s e = some u → Go F S p m (st, 0) m' (u :: st, 0)) ∧ (s e = none → brG F S p m m' st)
def cmpB (T : Nat → Int32) (m m' k : Nat) (s : SB) : Prop := 1 ≤ k ∧ m < m' ∧ ∀ F S p e, (∀ i, m ≤ i → i < m' → S (nI i) = T i) → envR F p e → ∀ st : List Int64, st.length + k ≤ 64 → (∀ u, s e = some u → ∃ v : Int64, (¬ v = 0 ↔ u = true) ∧ Go F S p m (st, 0) m' (v :: st, 0)) ∧ (s e = none → brG F S p m m' st)
section T99992b
variable {T T' : Nat → Int32} {m m1 m2 k k1 k2 : Nat} {s s1 s2 : SN} {r r1 r2 : SB}
theorem cmpN_cg (q : cmpN T m m1 k s) (e : ∀ i, m ≤ i → i < m1 → T' i = T i) : cmpN T' m m1 k s := ⟨q.1, q.2.1, fun F S p e' hS => q.2.2 F S p e' (fun i h1 h2 => (hS i h1 h2).trans (e i h1 h2))⟩
theorem cmpB_cg (q : cmpB T m m1 k r) (e : ∀ i, m ≤ i → i < m1 → T' i = T i) : cmpB T' m m1 k r := ⟨q.1, q.2.1, fun F S p e' hS => q.2.2 F S p e' (fun i h1 h2 => (hS i h1 h2).trans (e i h1 h2))⟩
theorem bk_t {F S : Int32 → Int32} {p : Int32} {st st' : List Int64} (g : Go F S p m (st, 0) m1 (st', 0)) (b : brG F S p m1 m2 st') : brG F S p m m2 st := by
  obtain ⟨i', x', h1, h2, h3⟩ := b
  exact ⟨i', x', h1, h2, Go_t g h3⟩
theorem bk_le {F S : Int32 → Int32} {p : Int32} {st : List Int64} (b : brG F S p m m1 st) (h : m1 ≤ m2) : brG F S p m m2 st := by
  obtain ⟨i', x', h1, h2, h3⟩ := b
  exact ⟨i', x', Nat.le_trans h1 h, h2, h3⟩
theorem ar_V {q : Nat} {c : Int32} {u v : Int64} (hq : (q = 2 ∧ c = 143) ∨ (q = 3 ∧ c = 145) ∨ (q = 4 ∧ c = 142) ∨ (q = 5 ∧ c = 147)) : (∀ w, opV c u v = some w → jnV (nI q) u v = w ∧ ¬ ajF 0 (nI q) u v) ∧ (opV c u v = none → ajF 0 (nI q) u v) := by
  have bn : ∀ z : Int64, (∀ w, bndS z = some w → z = w ∧ ¬ (1000000000 < z ∨ z < -1000000000)) ∧ (bndS z = none → 1000000000 < z ∨ z < -1000000000) := fun z => by
    unfold bndS
    by_cases c : 1000000000 < z ∨ z < -1000000000
    · rw [if_pos c]; exact ⟨fun w q => (by cases q), fun _ => c⟩
    · rw [if_neg c]; exact ⟨fun w q => by cases q; exact ⟨rfl, c⟩, fun q => by cases q⟩
  rcases hq with ⟨rfl, rfl⟩ | ⟨rfl, rfl⟩ | ⟨rfl, rfl⟩ | ⟨rfl, rfl⟩
  · have e1 : opV 143 u v = bndS (u + v) := rfl
    have e2 : jnV (nI 2) u v = u + v := rfl
    rw [e1, e2]
    unfold ajF; rw [e2]
    refine ⟨fun w q => ⟨((bn _).1 w q).1, ?_⟩, fun q => Or.inr ((bn _).2 q)⟩
    rintro ((z | z) | z)
    · exact z rfl
    · exact z.1 rfl
    · exact ((bn _).1 w q).2 z
  · have e1 : opV 145 u v = bndS (u - v) := rfl
    have e2 : jnV (nI 3) u v = u - v := rfl
    rw [e1, e2]
    unfold ajF; rw [e2]
    refine ⟨fun w q => ⟨((bn _).1 w q).1, ?_⟩, fun q => Or.inr ((bn _).2 q)⟩
    rintro ((z | z) | z)
    · exact z rfl
    · exact z.2.1 rfl
    · exact ((bn _).1 w q).2 z
  · have e1 : opV 142 u v = bndS (u * v) := rfl
    have e2 : jnV (nI 4) u v = u * v := rfl
    rw [e1, e2]
    unfold ajF; rw [e2]
    refine ⟨fun w q => ⟨((bn _).1 w q).1, ?_⟩, fun q => Or.inr ((bn _).2 q)⟩
    rintro ((z | z) | z)
    · exact z rfl
    · exact z.2.2.1 rfl
    · exact ((bn _).1 w q).2 z
  · have e1 : opV 147 u v = if v = 0 then none else bndS (u / v) := rfl
    have e2 : jnV (nI 5) u v = if v = 0 then 0 else u / v := rfl
    rw [e1, e2]
    unfold ajF; rw [e2]
    by_cases c : v = 0
    · rw [if_pos c, if_pos c]
      exact ⟨fun w q => (by cases q), fun _ => Or.inl (Or.inr ⟨by decide, by decide, by decide, c⟩)⟩
    · rw [if_neg c, if_neg c]
      refine ⟨fun w q => ⟨((bn _).1 w q).1, ?_⟩, fun q => Or.inr ((bn _).2 q)⟩
      rintro ((z | z) | z)
      · exact z rfl
      · exact c z.2.2.2
      · exact ((bn _).1 w q).2 z
theorem cmpN_op {q : Nat} {c : Int32} (hq : (q = 2 ∧ c = 143) ∨ (q = 3 ∧ c = 145) ∨ (q = 4 ∧ c = 142) ∨ (q = 5 ∧ c = 147)) (a1 : cmpN T m m1 k1 s1) (a2 : cmpN T m1 m2 k2 s2) (hT : T m2 = stW (nI q) (nI 0)) : cmpN T m (m2 + 1) (k1 + k2) (opN c s1 s2) := by
  obtain ⟨b1, b2, b3⟩ := a1
  obtain ⟨d1, d2, d3⟩ := a2
  refine ⟨by omega, by omega, fun F S p e hS er st hl => ?_⟩
  obtain ⟨f1, f2⟩ := b3 F S p e (fun i h1 h2 => hS i h1 (by omega)) er st (by omega)
  unfold opN opO
  cases h1 : s1 e with
  | none => exact ⟨fun u z => (by cases z), fun _ => bk_le (f2 h1) (by omega)⟩
  | some x =>
    have g1 := f1 x h1
    obtain ⟨f3, f4⟩ := d3 F S p e (fun i h1 h2 => hS i (by omega) (by omega)) er (x :: st) (by simp; omega)
    cases h2 : s2 e with
    | none => exact ⟨fun u z => (by cases z), fun _ => bk_le (bk_t g1 (f4 h2)) (by omega)⟩
    | some y =>
      have g2 := f3 y h2
      have g3 : Go F S p m2 (y :: x :: st, 0) (m2 + 1) (jnV (nI q) x y :: st, if q < 6 then b2i (ajF 0 (nI q) x y) else 0) := go_op ((hS m2 (by omega) (by omega)).trans hT) (by omega) (by omega) (by omega)
      rw [if_pos (by omega)] at g3
      obtain ⟨v1, v2⟩ := ar_V (u := x) (v := y) hq
      refine ⟨fun w z => ?_, fun z => ?_⟩
      · obtain ⟨w1, w2⟩ := v1 w z
        rw [b2i_f w2, w1] at g3
        exact Go_t g1 (Go_t g2 g3)
      · rw [b2i_t (v2 z)] at g3
        exact ⟨m2 + 1, _, Nat.le_refl _, by show ¬ (1 : Int32) = 0; decide, Go_t g1 (Go_t g2 g3)⟩
theorem cmpB_cmp {q : Nat} {c : Int32} (hq : (q = 6 ∧ c = 160) ∨ (q = 7 ∧ c = 162) ∨ (q = 8 ∧ c = 161)) (a1 : cmpN T m m1 k1 s1) (a2 : cmpN T m1 m2 k2 s2) (hT : T m2 = stW (nI q) (nI 0)) : cmpB T m (m2 + 1) (k1 + k2) (cmpS c s1 s2) := by
  obtain ⟨b1, b2, b3⟩ := a1
  obtain ⟨d1, d2, d3⟩ := a2
  refine ⟨by omega, by omega, fun F S p e hS er st hl => ?_⟩
  obtain ⟨f1, f2⟩ := b3 F S p e (fun i h1 h2 => hS i h1 (by omega)) er st (by omega)
  unfold cmpS cmpO
  cases h1 : s1 e with
  | none => exact ⟨fun u z => (by cases z), fun _ => bk_le (f2 h1) (by omega)⟩
  | some x =>
    have g1 := f1 x h1
    obtain ⟨f3, f4⟩ := d3 F S p e (fun i h1 h2 => hS i (by omega) (by omega)) er (x :: st) (by simp; omega)
    cases h2 : s2 e with
    | none => exact ⟨fun u z => (by cases z), fun _ => bk_le (bk_t g1 (f4 h2)) (by omega)⟩
    | some y =>
      have g2 := f3 y h2
      have g3 : Go F S p m2 (y :: x :: st, 0) (m2 + 1) (jnV (nI q) x y :: st, if q < 6 then b2i (ajF 0 (nI q) x y) else 0) := go_op ((hS m2 (by omega) (by omega)).trans hT) (by omega) (by omega) (by omega)
      rw [if_neg (by omega)] at g3
      refine ⟨fun u z => ⟨_, ?_, Go_t g1 (Go_t g2 g3)⟩, fun z => by cases z⟩
      have z : cmpV c x y = u := by injection z
      rw [← z]
      have cas : ∀ (P : Prop) [Decidable P], (¬ (if P then (1 : Int64) else 0) = 0 ↔ decide P = true) := fun P _ => by
        by_cases h : P
        · rw [if_pos h]; simp [h]
        · rw [if_neg h]; simp [h]
      rcases hq with ⟨rfl, rfl⟩ | ⟨rfl, rfl⟩ | ⟨rfl, rfl⟩
      · exact cas (x < y)
      · exact cas (y < x)
      · exact cas (x = y)
theorem cmpB_not (a1 : cmpB T m m1 k r) (hT : T m1 = stW (nI 9) (nI 0)) : cmpB T m (m1 + 1) k (notS true r) := by
  obtain ⟨b1, b2, b3⟩ := a1
  refine ⟨by omega, by omega, fun F S p e hS er st hl => ?_⟩
  obtain ⟨f1, f2⟩ := b3 F S p e (fun i h1 h2 => hS i h1 (by omega)) er st (by omega)
  unfold notS ntO
  cases h1 : r e with
  | none => exact ⟨fun u z => (by cases z), fun _ => bk_le (f2 h1) (by omega)⟩
  | some x =>
    obtain ⟨v, hv, g1⟩ := f1 x h1
    have g2 : Go F S p m1 (v :: st, 0) (m1 + 1) ((if v = 0 then 1 else 0) :: st, 0) := go_not ((hS m1 (by omega) (by omega)).trans hT) (by omega)
    refine ⟨fun u z => ⟨_, ?_, Go_t g1 g2⟩, fun z => by cases z⟩
    have z : (x != true) = u := by injection z
    rw [← z]
    by_cases v0 : v = 0
    · rw [if_pos v0]
      have : x = false := by cases x with | false => rfl | true => exact absurd v0 (hv.mpr rfl)
      subst this; decide
    · rw [if_neg v0]
      have : x = true := hv.mp v0
      subst this; decide
theorem notS_f : notS false r = r := by
  funext e
  unfold notS ntO
  cases h1 : r e with
  | none => rfl
  | some x => cases x <;> rfl
theorem cmpB_jmp {q : Nat} {c : Int32} (hq : (q = 11 ∧ c = 4) ∨ (q = 10 ∧ c = 5)) (h4 : m2 ≤ 400) (a1 : cmpB T m m1 k1 r1) (hT : T m1 = stW (nI q) (nI m2)) (a2 : cmpB T (m1 + 1) m2 k2 r2) : cmpB T m m2 (k1 + k2) (opB c r1 r2) := by
  obtain ⟨b1, b2, b3⟩ := a1
  obtain ⟨d1, d2, d3⟩ := a2
  refine ⟨by omega, by omega, fun F S p e hS er st hl => ?_⟩
  obtain ⟨f1, f2⟩ := b3 F S p e (fun i h1 h2 => hS i h1 (by omega)) er st (by omega)
  unfold opB obO
  cases h1 : r1 e with
  | none => exact ⟨fun u z => (by cases z), fun _ => bk_le (f2 h1) (by omega)⟩
  | some x =>
    obtain ⟨v, hv, g1⟩ := f1 x h1
    have hs := (hS m1 (by omega) (by omega)).trans hT
    have h11 : decide (c = 4) = true ↔ q = 11 := by rcases hq with ⟨rfl, rfl⟩ | ⟨rfl, rfl⟩ <;> decide
    by_cases y : x = decide (c = 4)
    · simp only [y, if_true]
      have j : ¬ v = 0 ↔ q = 11 := hv.trans (by rw [y]; exact h11)
      have g2 : Go F S p m1 (v :: st, 0) m2 (v :: st, 0) := go_jmp (by omega) hs h4 (by omega) (by omega) j
      refine ⟨fun u z => ⟨v, ?_, Go_t g1 g2⟩, fun z => by cases z⟩
      have z : decide (c = 4) = u := by injection z
      rw [← z, ← y]; exact hv
    · simp only [y, if_false]
      have j : ¬ (¬ v = 0 ↔ q = 11) := fun w => y (by
        have := (hv.symm.trans w).trans h11.symm
        cases x <;> cases hh : decide (c = 4) <;> simp [hh] at this ⊢)
      have g2 : Go F S p m1 (v :: st, 0) (m1 + 1) (st, 0) := go_stay (by omega) hs h4 j
      obtain ⟨f3, f4⟩ := d3 F S p e (fun i h1 h2 => hS i (by omega) (by omega)) er st (by omega)
      refine ⟨fun u z => ?_, fun z => bk_t (Go_t g1 g2) (f4 z)⟩
      obtain ⟨w, hw, g3⟩ := f3 u z
      exact ⟨w, hw, Go_t (Go_t g1 g2) g3⟩
theorem cmpN_num {v : Nat} {c w : Int32} (hv : v < 1024) (hT : T m = stW (nI 0) (nI v)) (hc : c = 50) (hw : w = nI v) : cmpN T m (m + 1) 1 (leafS c w) := by
  refine ⟨by omega, by omega, fun F S p e hS er st hl => ⟨fun u z => ?_, fun z => by cases z⟩⟩
  have z : (if c = 50 then w else e (c.toNatClampNeg - 7)).toInt64 = u := by injection z
  rw [if_pos hc, hw] at z
  rw [← z]
  exact go_num ((hS m (by omega) (by omega)).trans hT) hv (by omega)
theorem cmpN_fact {f : Nat} {c w : Int32} (hf : f ≤ 7) (hT : T m = stW (nI 1) (nI f)) (hc : c = nI (if f = 7 then 7 else f + 8)) : cmpN T m (m + 1) 1 (leafS c w) := by
  refine ⟨by omega, by omega, fun F S p e hS er st hl => ⟨fun u z => ?_, fun z => by cases z⟩⟩
  have z : (if c = 50 then w else e (c.toNatClampNeg - 7)).toInt64 = u := by injection z
  have g : Go F S p m (st, 0) (m + 1) ((if f = 7 then p.toInt64 else (F (nI f)).toInt64) :: st, 0) := go_fact ((hS m (by omega) (by omega)).trans hT) (by omega) (by omega)
  rw [hc] at z
  by_cases h7 : f = 7
  · rw [if_pos h7] at z g
    rw [if_neg (by decide), show (nI 7).toNatClampNeg - 7 = 0 from by decide, er.1] at z
    rw [← z]; exact g
  · rw [if_neg h7] at z g
    rw [if_neg (fun q => by have := (nI_eq (a := f + 8) (b := 50) (by omega) (by decide)).mp q; omega), nI_clamp (by omega), show f + 8 - 7 = f + 1 by omega, er.2 f (by omega)] at z
    rw [← z]; exact g
end T99992b
