/-! what the questions over all sets ask: who wins, what can be come to, which ways lead there; the best, the fewest, how many -/
def winF (U : Int32 → Int32) : Nat → Int32 → Prop
  | 0, _ => False
  | n + 1, s => ∃ k, k < 14 ∧ bt s k = true ∧ lwf U (dif s (one k)) ∧ ¬ winF U n (dif s (one k))
abbrev winA (U : Int32 → Int32) (s : Int32) : Prop := winF U 22 s
def comF (U : Int32 → Int32) (T : Int32) : Nat → Int32 → Prop
  | 0, s => s = T ∧ lwf U s
  | n + 1, s => (s = T ∧ lwf U s) ∨ (lwf U s ∧ ∃ k, k < 14 ∧ bt T k = true ∧ bt s k = false ∧ comF U T n (s ||| one k))
abbrev comA (U : Int32 → Int32) (T s : Int32) : Prop := comF U T 22 s
def leaF (U : Int32 → Int32) (e : Int32) : Nat → Int32 → Prop
  | 0, s => s = e
  | n + 1, s => s = e ∨ (lwf U s ∧ ∃ k, k < 14 ∧ bt s k = true ∧ bt e k = false ∧ leaF U e n (dif s (one k)))
abbrev leaA (U : Int32 → Int32) (e s : Int32) : Prop := leaF U e 22 s
section T65
variable {U : Int32 → Int32}
theorem winF_more : ∀ n m s, sz s ≤ n → sz s ≤ m → (winF U n s ↔ winF U m s) := by
  intro n
  induction n with
  | zero =>
    intro m s h1 _
    cases m with
    | zero => exact Iff.rfl
    | succ m =>
      refine ⟨fun z => False.elim z, ?_⟩
      rintro ⟨k, hk, q, _⟩
      have := sz_rm (k := k) (by omega) q; omega
  | succ n ih =>
    intro m s h1 h2
    cases m with
    | zero =>
      refine ⟨?_, fun z => False.elim z⟩
      rintro ⟨k, hk, q, _⟩
      have := sz_rm (k := k) (by omega) q; omega
    | succ m =>
      constructor
      · rintro ⟨k, hk, q, l, y⟩
        have := sz_rm (k := k) (by omega) q
        exact ⟨k, hk, q, l, fun z => y ((ih m _ (by omega) (by omega)).mpr z)⟩
      · rintro ⟨k, hk, q, l, y⟩
        have := sz_rm (k := k) (by omega) q
        exact ⟨k, hk, q, l, fun z => y ((ih m _ (by omega) (by omega)).mp z)⟩
theorem win_eq {s : Int32} : winA U s ↔ ∃ k, k < 14 ∧ bt s k = true ∧ lwf U (dif s (one k)) ∧ ¬ winA U (dif s (one k)) := by
  have hs := sz_le s
  constructor
  · rintro ⟨k, hk, q, l, y⟩
    have := sz_rm (k := k) (by omega) q
    exact ⟨k, hk, q, l, fun z => y ((winF_more 21 22 _ (by omega) (by omega)).mpr z)⟩
  · rintro ⟨k, hk, q, l, y⟩
    have := sz_rm (k := k) (by omega) q
    exact ⟨k, hk, q, l, fun z => y ((winF_more 21 22 _ (by omega) (by omega)).mp z)⟩
theorem dif_or {T s u : Int32} : dif T (s ||| u) = dif (dif T s) u := b_ext fun i hi => by
  rw [bt_dif hi, bt_dif hi, bt_dif hi, b_or]
  cases bt T i <;> cases bt s i <;> cases bt u i <;> rfl
theorem dif_comm {s t u : Int32} : dif (dif s t) u = dif (dif s u) t := b_ext fun i hi => by
  rw [bt_dif hi, bt_dif hi, bt_dif hi, bt_dif hi]
  cases bt s i <;> cases bt t i <;> cases bt u i <;> rfl
theorem sz_com {T s : Int32} {k : Nat} (hk : k < 14) (q : bt T k = true) (r : bt s k = false) : sz (dif T (s ||| one k)) + 1 = sz (dif T s) := by
  rw [dif_or]; exact sz_rm (by omega) (by rw [bt_dif (by omega), q, r]; rfl)
theorem sz_lea {e s : Int32} {k : Nat} (hk : k < 14) (q : bt s k = true) (r : bt e k = false) : sz (dif (dif s (one k)) e) + 1 = sz (dif s e) := by
  rw [dif_comm]; exact sz_rm (by omega) (by rw [bt_dif (by omega), q, r]; rfl)
theorem comF_more {T : Int32} : ∀ n m s, sz (dif T s) ≤ n → sz (dif T s) ≤ m → (comF U T n s ↔ comF U T m s) := by
  intro n
  induction n with
  | zero =>
    intro m s h1 _
    cases m with
    | zero => exact Iff.rfl
    | succ m =>
      refine ⟨fun z => Or.inl z, ?_⟩
      rintro (z | ⟨_, k, hk, q, r, _⟩)
      · exact z
      · have := sz_com hk q r; omega
  | succ n ih =>
    intro m s h1 h2
    cases m with
    | zero =>
      refine ⟨?_, fun z => Or.inl z⟩
      rintro (z | ⟨_, k, hk, q, r, _⟩)
      · exact z
      · have := sz_com hk q r; omega
    | succ m =>
      constructor
      · rintro (z | ⟨l, k, hk, q, r, y⟩)
        · exact Or.inl z
        · have := sz_com hk q r
          exact Or.inr ⟨l, k, hk, q, r, (ih m _ (by omega) (by omega)).mp y⟩
      · rintro (z | ⟨l, k, hk, q, r, y⟩)
        · exact Or.inl z
        · have := sz_com hk q r
          exact Or.inr ⟨l, k, hk, q, r, (ih m _ (by omega) (by omega)).mpr y⟩
theorem com_eq {T s : Int32} : comA U T s ↔ (s = T ∧ lwf U s) ∨ (lwf U s ∧ ∃ k, k < 14 ∧ bt T k = true ∧ bt s k = false ∧ comA U T (s ||| one k)) := by
  have hs := sz_le (dif T s)
  constructor
  · rintro (z | ⟨l, k, hk, q, r, y⟩)
    · exact Or.inl z
    · have := sz_com hk q r
      exact Or.inr ⟨l, k, hk, q, r, (comF_more 21 22 _ (by omega) (by omega)).mp y⟩
  · rintro (z | ⟨l, k, hk, q, r, y⟩)
    · exact Or.inl z
    · have := sz_com hk q r
      exact Or.inr ⟨l, k, hk, q, r, (comF_more 21 22 _ (by omega) (by omega)).mpr y⟩
theorem com_lwf {T s : Int32} (q : comA U T s) : lwf U s := by
  rcases com_eq.mp q with z | z
  · exact z.2
  · exact z.1
theorem leaF_more {e : Int32} : ∀ n m s, sz (dif s e) ≤ n → sz (dif s e) ≤ m → (leaF U e n s ↔ leaF U e m s) := by
  intro n
  induction n with
  | zero =>
    intro m s h1 _
    cases m with
    | zero => exact Iff.rfl
    | succ m =>
      refine ⟨fun z => Or.inl z, ?_⟩
      rintro (z | ⟨_, k, hk, q, r, _⟩)
      · exact z
      · have := sz_lea hk q r; omega
  | succ n ih =>
    intro m s h1 h2
    cases m with
    | zero =>
      refine ⟨?_, fun z => Or.inl z⟩
      rintro (z | ⟨_, k, hk, q, r, _⟩)
      · exact z
      · have := sz_lea hk q r; omega
    | succ m =>
      constructor
      · rintro (z | ⟨l, k, hk, q, r, y⟩)
        · exact Or.inl z
        · have := sz_lea hk q r
          exact Or.inr ⟨l, k, hk, q, r, (ih m _ (by omega) (by omega)).mp y⟩
      · rintro (z | ⟨l, k, hk, q, r, y⟩)
        · exact Or.inl z
        · have := sz_lea hk q r
          exact Or.inr ⟨l, k, hk, q, r, (ih m _ (by omega) (by omega)).mpr y⟩
theorem lea_eq {e s : Int32} : leaA U e s ↔ s = e ∨ (lwf U s ∧ ∃ k, k < 14 ∧ bt s k = true ∧ bt e k = false ∧ leaA U e (dif s (one k))) := by
  have hs := sz_le (dif s e)
  constructor
  · rintro (z | ⟨l, k, hk, q, r, y⟩)
    · exact Or.inl z
    · have := sz_lea hk q r
      exact Or.inr ⟨l, k, hk, q, r, (leaF_more 21 22 _ (by omega) (by omega)).mp y⟩
  · rintro (z | ⟨l, k, hk, q, r, y⟩)
    · exact Or.inl z
    · have := sz_lea hk q r
      exact Or.inr ⟨l, k, hk, q, r, (leaF_more 21 22 _ (by omega) (by omega)).mpr y⟩
theorem ad_rm {s : Int32} {k : Nat} (hk : k < 32) (q : bt s k = false) : dif (s ||| one k) (one k) = s := b_ext fun i hi => by
  rw [bt_rm hk hi, bt_ad hk hi]
  by_cases e : i = k
  · subst e; simp [q]
  · simp [e]
theorem rm_ad {s : Int32} {k : Nat} (hk : k < 32) (q : bt s k = true) : dif s (one k) ||| one k = s := b_ext fun i hi => by
  rw [bt_ad hk hi, bt_rm hk hi]
  by_cases e : i = k
  · subst e; simp [q]
  · simp [e]
/-- what can be come to leads back -/
theorem com_lead {T e : Int32} : ∀ n s, comF U T n s → sub e s → leaA U e s → leaA U e T := by
  intro n
  induction n with
  | zero => intro s z _ l; rw [← z.1]; exact l
  | succ n ih =>
    intro s z es l
    rcases z with z | ⟨lw, k, hk, q, r, y⟩
    · rw [← z.1]; exact l
    · refine ih _ y (sub_t es sub_or1) (lea_eq.mpr (Or.inr ⟨?_, k, hk, ?_, ?_, ?_⟩))
      · cases n with
        | zero => exact y.2
        | succ n => exact y.elim (fun z => z.2) (fun z => z.1)
      · rw [bt_ad (by omega) (by omega)]; simp
      · exact ts_nt fun z => by rw [es k (by omega) z] at r; cases r
      · rw [ad_rm (by omega) r]; exact l
/-! how many: by a change of names -/
theorem cnt_rem {R : Nat → Prop} {x : Nat} : ∀ M, x < M → R x → cnt (fun j => R j ∧ j ≠ x) M + 1 = cnt R M := by
  have same : ∀ M, M ≤ x → cnt (fun j => R j ∧ j ≠ x) M = cnt R M := by
    intro M
    induction M with
    | zero => intro _; rfl
    | succ M ih =>
      intro h
      have e := ih (by omega)
      by_cases r : R M
      · rw [cnt_t (P := fun j => R j ∧ j ≠ x) ⟨r, by omega⟩, cnt_t r, e]
      · rw [cnt_f (P := fun j => R j ∧ j ≠ x) (fun z => r z.1), cnt_f r, e]
  intro M
  induction M with
  | zero => intro h _; omega
  | succ M ih =>
    intro h rx
    by_cases e : x = M
    · subst e
      rw [cnt_f (P := fun j => R j ∧ j ≠ x) (fun z => z.2 rfl), cnt_t rx, same x (Nat.le_refl _)]
    · have i := ih (by omega) rx
      by_cases r : R M
      · rw [cnt_t (P := fun j => R j ∧ j ≠ x) ⟨r, fun z => e z.symm⟩, cnt_t r]; omega
      · rw [cnt_f (P := fun j => R j ∧ j ≠ x) (fun z => r z.1), cnt_f r]; omega
theorem cnt_inj {P : Nat → Prop} {M : Nat} {f : Nat → Nat} : ∀ N (R : Nat → Prop), (∀ i, i < N → P i → f i < M ∧ R (f i)) → (∀ i j, i < N → j < N → P i → P j → f i = f j → i = j) → cnt P N ≤ cnt R M := by
  intro N
  induction N with
  | zero => intro R _ _; exact Nat.zero_le _
  | succ N ih =>
    intro R h1 h2
    by_cases p : P N
    · obtain ⟨a, b⟩ := h1 N (Nat.lt_succ_self _) p
      have e := cnt_rem M a b
      have i := ih (fun j => R j ∧ j ≠ f N) (fun i hi q => ⟨(h1 i (by omega) q).1, (h1 i (by omega) q).2, fun z => by have := h2 i N (by omega) (Nat.lt_succ_self _) q p z; omega⟩) (fun i j hi hj => h2 i j (by omega) (by omega))
      rw [cnt_t p]; omega
    · rw [cnt_f p]
      exact ih R (fun i hi => h1 i (by omega)) (fun i j hi hj => h2 i j (by omega) (by omega))
theorem cnt_bij {P R : Nat → Prop} {N M : Nat} (f g : Nat → Nat) (h1 : ∀ i, i < N → P i → f i < M ∧ R (f i) ∧ g (f i) = i) (h2 : ∀ i, i < M → R i → g i < N ∧ P (g i) ∧ f (g i) = i) : cnt P N = cnt R M := by
  apply Nat.le_antisymm
  · exact cnt_inj N R (fun i hi q => ⟨(h1 i hi q).1, (h1 i hi q).2.1⟩) (fun i j hi hj p q e => by rw [← (h1 i hi p).2.2, e, (h1 j hj q).2.2])
  · exact cnt_inj M P (fun i hi q => ⟨(h2 i hi q).1, (h2 i hi q).2.1⟩) (fun i j hi hj p q e => by rw [← (h2 i hi p).2.2, e, (h2 j hj q).2.2])
theorem cnt_cg {P R : Nat → Prop} : ∀ N, (∀ i, i < N → (P i ↔ R i)) → cnt P N = cnt R N := by
  intro N
  induction N with
  | zero => intro _; rfl
  | succ N ih =>
    intro h
    have e := ih (fun i hi => h i (by omega))
    by_cases p : P N
    · rw [cnt_t p, cnt_t ((h N (Nat.lt_succ_self _)).mp p), e]
    · rw [cnt_f p, cnt_f (fun z => p ((h N (Nat.lt_succ_self _)).mpr z)), e]
theorem cnt_le {P : Nat → Prop} : ∀ N, cnt P N ≤ N := by
  intro N
  induction N with
  | zero => exact Nat.le_refl _
  | succ N ih => by_cases p : P N
                 · rw [cnt_t p]; omega
                 · rw [cnt_f p]; omega
/-! the best: most stones, then most weight, then the lowest; the fewest -/
def btr (W : Int32 → Int32) (b s : Int32) : Prop := sz s < sz b ∨ (sz s = sz b ∧ ((W s).toInt < (W b).toInt ∨ ((W s).toInt = (W b).toInt ∧ b.toInt < s.toInt)))
def isBest (W : Int32 → Int32) (P : Int32 → Prop) (b : Int32) : Prop := P b ∧ ∀ s, P s → s ≠ b → btr W b s
theorem i_ext {a b : Int32} (h : a.toInt = b.toInt) : a = b := Int32.toInt_inj.mp h
theorem btr_no {W : Int32 → Int32} {a b : Int32} (p : btr W a b) (q : btr W b a) : False := by unfold btr at p q; omega
theorem btr_tr {W : Int32 → Int32} {a b c : Int32} (p : btr W a b) (q : btr W b c) : btr W a c := by unfold btr at *; omega
theorem btr_tot {W : Int32 → Int32} {a b : Int32} (n : ¬ btr W a b) (ne : a ≠ b) : btr W b a := by
  have : a.toInt ≠ b.toInt := fun z => ne (i_ext z)
  unfold btr at *; omega
theorem best_one {W : Int32 → Int32} {P : Int32 → Prop} {a b : Int32} (p : isBest W P a) (q : isBest W P b) : a = b :=
  Classical.byContradiction fun n => btr_no (p.2 b q.1 fun z => n z.symm) (q.2 a p.1 n)
theorem best_first {W : Int32 → Int32} {P R : Int32 → Prop} {s : Int32} (hP : ∀ x, ¬ P x) (hR : ∀ x, R x ↔ P x ∨ x = s) : isBest W R s :=
  ⟨(hR s).mpr (Or.inr rfl), fun x rx ne => (((hR x).mp rx).elim (fun z => absurd z (hP x)) (fun z => absurd z ne))⟩
theorem best_new {W : Int32 → Int32} {P R : Int32 → Prop} {b s : Int32} (q : isBest W P b) (n : btr W s b) (hR : ∀ x, R x ↔ P x ∨ x = s) : isBest W R s :=
  ⟨(hR s).mpr (Or.inr rfl), fun x rx ne => (((hR x).mp rx).elim (fun z => by
    by_cases e : x = b
    · rw [e]; exact n
    · exact btr_tr n (q.2 x z e)) (fun z => absurd z ne))⟩
theorem best_old {W : Int32 → Int32} {P R : Int32 → Prop} {b s : Int32} (q : isBest W P b) (n : ¬ btr W s b) (hR : ∀ x, R x ↔ P x ∨ x = s) : isBest W R b :=
  ⟨(hR b).mpr (Or.inl q.1), fun x rx ne => (((hR x).mp rx).elim (fun z => q.2 x z ne) (fun z => by subst z; exact btr_tot n ne))⟩
theorem best_cg {W : Int32 → Int32} {P R : Int32 → Prop} {b : Int32} (q : isBest W P b) (e : ∀ x, P x ↔ R x) : isBest W R b := ⟨(e b).mp q.1, fun x rx ne => q.2 x ((e x).mpr rx) ne⟩
def fwr (b s : Int32) : Prop := sz b < sz s ∨ (sz b = sz s ∧ b.toInt < s.toInt)
def isFew (P : Int32 → Prop) (b : Int32) : Prop := P b ∧ ∀ s, P s → s ≠ b → fwr b s
theorem few_one {P : Int32 → Prop} {a b : Int32} (p : isFew P a) (q : isFew P b) : a = b := Classical.byContradiction fun n => by
  have h1 := p.2 b q.1 fun z => n z.symm
  have h2 := q.2 a p.1 n
  unfold fwr at h1 h2; omega
theorem few_first {P R : Int32 → Prop} {s : Int32} (hP : ∀ x, ¬ P x) (hR : ∀ x, R x ↔ P x ∨ x = s) : isFew R s :=
  ⟨(hR s).mpr (Or.inr rfl), fun x rx ne => (((hR x).mp rx).elim (fun z => absurd z (hP x)) (fun z => absurd z ne))⟩
theorem few_new {P R : Int32 → Prop} {b s : Int32} (q : isFew P b) (n : fwr s b) (hR : ∀ x, R x ↔ P x ∨ x = s) : isFew R s :=
  ⟨(hR s).mpr (Or.inr rfl), fun x rx ne => (((hR x).mp rx).elim (fun z => by
    by_cases e : x = b
    · rw [e]; exact n
    · have := q.2 x z e; unfold fwr at *; omega) (fun z => absurd z ne))⟩
theorem few_old {P R : Int32 → Prop} {b s : Int32} (q : isFew P b) (n : ¬ fwr s b) (hR : ∀ x, R x ↔ P x ∨ x = s) : isFew R b :=
  ⟨(hR b).mpr (Or.inl q.1), fun x rx ne => (((hR x).mp rx).elim (fun z => q.2 x z ne) (fun z => by
    subst z
    have : x.toInt ≠ b.toInt := fun z => ne (i_ext z)
    unfold fwr at *; omega))⟩
theorem few_cg {P R : Int32 → Prop} {b : Int32} (q : isFew P b) (e : ∀ x, P x ↔ R x) : isFew R b := ⟨(e b).mp q.1, fun x rx ne => q.2 x ((e x).mpr rx) ne⟩
end T65
