/-! the stretch of code is sound -/
theorem g1i_ok {st : List Value} {k : Int32 → List Value → Prop} (H : g1i st k) : ∃ (x : Int32) (r : List Value), st = .int x :: r ∧ k x r := by
  unfold g1i at H; split at H
  · exact ⟨_, _, rfl, H⟩
  · exact H.elim
theorem g2i_ok {st : List Value} {k : Int32 → Int32 → List Value → Prop} (H : g2i st k) : ∃ (x : Int32) (y : Int32) (r : List Value), st = .int y :: .int x :: r ∧ k x y r := by
  unfold g2i at H; split at H
  · exact ⟨_, _, _, rfl, H⟩
  · exact H.elim
theorem g1l_ok {st : List Value} {k : Int64 → List Value → Prop} (H : g1l st k) : ∃ (x : Int64) (r : List Value), st = .long x :: r ∧ k x r := by
  unfold g1l at H; split at H
  · exact ⟨_, _, rfl, H⟩
  · exact H.elim
theorem g2l_ok {st : List Value} {k : Int64 → Int64 → List Value → Prop} (H : g2l st k) : ∃ (x : Int64) (y : Int64) (r : List Value), st = .long y :: .long x :: r ∧ k x y r := by
  unfold g2l at H; split at H
  · exact ⟨_, _, _, rfl, H⟩
  · exact H.elim
theorem gil_ok {st : List Value} {k : Int64 → Int32 → List Value → Prop} (H : gil st k) : ∃ (x : Int64) (y : Int32) (r : List Value), st = .int y :: .long x :: r ∧ k x y r := by
  unfold gil at H; split at H
  · exact ⟨_, _, _, rfl, H⟩
  · exact H.elim
theorem g1r_ok {st : List Value} {k : Nat → List Value → Prop} (H : g1r st k) : ∃ (x : Nat) (r : List Value), st = .ref x :: r ∧ k x r := by
  unfold g1r at H; split at H
  · exact ⟨_, _, rfl, H⟩
  · exact H.elim
theorem gir_ok {st : List Value} {k : Int32 → Nat → List Value → Prop} (H : gir st k) : ∃ (i : Int32) (x : Nat) (r : List Value), st = .int i :: .ref x :: r ∧ k i x r := by
  unfold gir at H; split at H
  · exact ⟨_, _, _, rfl, H⟩
  · exact H.elim
theorem giir_ok {st : List Value} {k : Int32 → Int32 → Nat → List Value → Prop} (H : giir st k) : ∃ (v : Int32) (i : Int32) (x : Nat) (r : List Value), st = .int v :: .int i :: .ref x :: r ∧ k v i x r := by
  unfold giir at H; split at H
  · exact ⟨_, _, _, _, rfl, H⟩
  · exact H.elim
theorem glir_ok {st : List Value} {k : Int64 → Int32 → Nat → List Value → Prop} (H : glir st k) : ∃ (v : Int64) (i : Int32) (x : Nat) (r : List Value), st = .long v :: .int i :: .ref x :: r ∧ k v i x r := by
  unfold glir at H; split at H
  · exact ⟨_, _, _, _, rfl, H⟩
  · exact H.elim
theorem ga_ok {st : List Value} {k : Value → List Value → Prop} (H : ga st k) : ∃ (v : Value) (r : List Value), st = v :: r ∧ ((∃ x, v = .ref x) ∧ k v r ∨ v = .null ∧ k v r) := by
  unfold ga at H; split at H
  · exact ⟨_, _, rfl, Or.inl ⟨⟨_, rfl⟩, H⟩⟩
  · exact ⟨_, _, rfl, Or.inr ⟨rfl, H⟩⟩
  · exact H.elim
theorem gv_ok {st : List Value} {k : Value → List Value → Prop} (H : gv st k) : ∃ (v : Value) (r : List Value), st = v :: r ∧ v.category = 1 ∧ ((∃ x, v = .int x) ∨ (∃ x, v = .ref x) ∨ v = .null) ∧ k v r := by
  unfold gv at H; split at H
  · exact ⟨_, _, rfl, rfl, Or.inl ⟨_, rfl⟩, H⟩
  · exact ⟨_, _, rfl, rfl, Or.inr (Or.inl ⟨_, rfl⟩), H⟩
  · exact ⟨_, _, rfl, rfl, Or.inr (Or.inr rfl), H⟩
  · exact H.elim
theorem lI_ok {loc : Lc} {i : Nat} {k : Int32 → Prop} (H : lI loc i k) : ∃ x, lnth loc i = some (.int x) ∧ k x := by
  unfold lI at H; split at H
  · rename_i x e; exact ⟨x, e, H⟩
  · exact H.elim
theorem lJ_ok {loc : Lc} {i : Nat} {k : Int64 → Prop} (H : lJ loc i k) : ∃ x, lnth loc i = some (.long x) ∧ k x := by
  unfold lJ at H; split at H
  · rename_i x e; exact ⟨x, e, H⟩
  · exact H.elim
theorem lA_ok {loc : Lc} {i : Nat} {k : Value → Prop} (H : lA loc i k) : (∃ x, lnth loc i = some (.ref x) ∧ k (.ref x)) ∨ (lnth loc i = some .null ∧ k .null) := by
  unfold lA at H; split at H
  · rename_i x e; exact Or.inl ⟨x, e, H⟩
  · rename_i e; exact Or.inr ⟨e, H⟩
  · exact H.elim
theorem chk_cons {j pc x y z : Nat} {ins : Instr} {c : Int32} {r : List Ins} (hs : isSw ins = false) (hC : chk j ((ins, x, y, z, c) :: r) pc = true) : decode (mcode j) pc = .ok (ins, ilen ins) ∧ chk1 j pc ins x y z c = true ∧ chk j r (pc + ilen ins) = true := by
  simp only [chk, hs, Bool.and_eq_true] at hC
  exact ⟨dec1_ok hC.1.1, hC.1.2, hC.2⟩
theorem beq_sk {o x : Nat} (h : Nat.beq (ly_sk o) x = true) : ly_sk o = x := Nat.eq_of_beq_eq_true h
theorem sw_ok {cx : Cx} {j d a pc : Nat} {loc : Lc} {st : List Value} {h : Hp} {Q : Option Value → Hp → Prop} {v : Int32} : ∀ (ts : List Int) (k : Nat), sw cx j d a loc st h Q v pc k ts → ∀ (i : Nat) (t : Int), ts[i]? = some t → v = Int32.ofNat (k + i) → E cx j d a ((pc : Int) + t).toNat loc st h Q
  | [], k, _, i, t, hi, _ => by simp at hi
  | s :: ts, k, H, 0, t, hi, hv => by
    simp at hi; subst hi
    exact H.1 (by simpa using hv)
  | s :: ts, k, H, i + 1, t, hi, hv => by
    simp at hi
    exact sw_ok ts (k + 1) H.2 i t hi (by rw [hv, show k + (i + 1) = k + 1 + i by omega])
theorem fk3 : ly_fk 3 0 = true ∧ ly_fk 3 1 = true := by decide +kernel
theorem fk3b {y : Nat} (hy : y < 3) (h2 : ¬ y = 2) : ly_fk 3 y = true := by
  have h : y = 0 ∨ y = 1 := by omega
  rcases h with rfl | rfl
  · exact fk3.1
  · exact fk3.2
set_option maxHeartbeats 4000000 in
theorem wp_ok {cx : Cx} {j d : Nat} {Q : Option Value → Hp → Prop} (L : List Ins) : ∀ (pc a : Nat) (loc : Lc) (st : List Value) (h : Hp), chk j L pc = true → wp cx j d Q L pc a loc st h → E cx j d a pc loc st h Q := by
  induction L with
  | nil => intro pc a loc st h _ H; exact H
  | cons e r ih =>
    intro pc a loc st h hC H
    obtain ⟨ins, x, y, z, c⟩ := e
    cases ins
    case iadd =>
      replace H : g2i st fun p q st => wp cx j d Q r (pc + 1) a loc (.int (p + q) :: st) h := H
      obtain ⟨hd, h1, h2⟩ := chk_cons rfl hC
      obtain ⟨p, q, st, rfl, K⟩ := g2i_ok H
      exact e_iadd hd (ih _ _ _ _ _ h2 K)
    case isub =>
      replace H : g2i st fun p q st => wp cx j d Q r (pc + 1) a loc (.int (p - q) :: st) h := H
      obtain ⟨hd, h1, h2⟩ := chk_cons rfl hC
      obtain ⟨p, q, st, rfl, K⟩ := g2i_ok H
      exact e_isub hd (ih _ _ _ _ _ h2 K)
    case imul =>
      replace H : g2i st fun p q st => wp cx j d Q r (pc + 1) a loc (.int (p * q) :: st) h := H
      obtain ⟨hd, h1, h2⟩ := chk_cons rfl hC
      obtain ⟨p, q, st, rfl, K⟩ := g2i_ok H
      exact e_imul hd (ih _ _ _ _ _ h2 K)
    case iand =>
      replace H : g2i st fun p q st => wp cx j d Q r (pc + 1) a loc (.int (p &&& q) :: st) h := H
      obtain ⟨hd, h1, h2⟩ := chk_cons rfl hC
      obtain ⟨p, q, st, rfl, K⟩ := g2i_ok H
      exact e_iand hd (ih _ _ _ _ _ h2 K)
    case ior =>
      replace H : g2i st fun p q st => wp cx j d Q r (pc + 1) a loc (.int (p ||| q) :: st) h := H
      obtain ⟨hd, h1, h2⟩ := chk_cons rfl hC
      obtain ⟨p, q, st, rfl, K⟩ := g2i_ok H
      exact e_ior hd (ih _ _ _ _ _ h2 K)
    case ixor =>
      replace H : g2i st fun p q st => wp cx j d Q r (pc + 1) a loc (.int (p ^^^ q) :: st) h := H
      obtain ⟨hd, h1, h2⟩ := chk_cons rfl hC
      obtain ⟨p, q, st, rfl, K⟩ := g2i_ok H
      exact e_ixor hd (ih _ _ _ _ _ h2 K)
    case ishl =>
      replace H : g2i st fun p q st => wp cx j d Q r (pc + 1) a loc (.int (p <<< (q &&& 31)) :: st) h := H
      obtain ⟨hd, h1, h2⟩ := chk_cons rfl hC
      obtain ⟨p, q, st, rfl, K⟩ := g2i_ok H
      exact e_ishl hd (ih _ _ _ _ _ h2 K)
    case ishr =>
      replace H : g2i st fun p q st => wp cx j d Q r (pc + 1) a loc (.int (p >>> (q &&& 31)) :: st) h := H
      obtain ⟨hd, h1, h2⟩ := chk_cons rfl hC
      obtain ⟨p, q, st, rfl, K⟩ := g2i_ok H
      exact e_ishr hd (ih _ _ _ _ _ h2 K)
    case iushr =>
      replace H : g2i st fun p q st => wp cx j d Q r (pc + 1) a loc (.int ((p.toUInt32 >>> (q.toUInt32 &&& Int32.toUInt32 31)).toInt32) :: st) h := H
      obtain ⟨hd, h1, h2⟩ := chk_cons rfl hC
      obtain ⟨p, q, st, rfl, K⟩ := g2i_ok H
      exact e_iushr hd (ih _ _ _ _ _ h2 K)
    case idiv =>
      replace H : g2i st fun p q st => ¬ q = 0 ∧ wp cx j d Q r (pc + 1) a loc (.int (p / q) :: st) h := H
      obtain ⟨hd, h1, h2⟩ := chk_cons rfl hC
      obtain ⟨p, q, st, rfl, K0, K⟩ := g2i_ok H
      exact e_idiv hd K0 (ih _ _ _ _ _ h2 K)
    case irem =>
      replace H : g2i st fun p q st => ¬ q = 0 ∧ wp cx j d Q r (pc + 1) a loc (.int (p - p / q * q) :: st) h := H
      obtain ⟨hd, h1, h2⟩ := chk_cons rfl hC
      obtain ⟨p, q, st, rfl, K0, K⟩ := g2i_ok H
      exact e_irem hd K0 (ih _ _ _ _ _ h2 K)
    case ladd =>
      replace H : g2l st fun p q st => wp cx j d Q r (pc + 1) a loc (.long (p + q) :: st) h := H
      obtain ⟨hd, h1, h2⟩ := chk_cons rfl hC
      obtain ⟨p, q, st, rfl, K⟩ := g2l_ok H
      exact e_ladd hd (ih _ _ _ _ _ h2 K)
    case lsub =>
      replace H : g2l st fun p q st => wp cx j d Q r (pc + 1) a loc (.long (p - q) :: st) h := H
      obtain ⟨hd, h1, h2⟩ := chk_cons rfl hC
      obtain ⟨p, q, st, rfl, K⟩ := g2l_ok H
      exact e_lsub hd (ih _ _ _ _ _ h2 K)
    case lmul =>
      replace H : g2l st fun p q st => wp cx j d Q r (pc + 1) a loc (.long (p * q) :: st) h := H
      obtain ⟨hd, h1, h2⟩ := chk_cons rfl hC
      obtain ⟨p, q, st, rfl, K⟩ := g2l_ok H
      exact e_lmul hd (ih _ _ _ _ _ h2 K)
    case land =>
      replace H : g2l st fun p q st => wp cx j d Q r (pc + 1) a loc (.long (p &&& q) :: st) h := H
      obtain ⟨hd, h1, h2⟩ := chk_cons rfl hC
      obtain ⟨p, q, st, rfl, K⟩ := g2l_ok H
      exact e_land hd (ih _ _ _ _ _ h2 K)
    case lor =>
      replace H : g2l st fun p q st => wp cx j d Q r (pc + 1) a loc (.long (p ||| q) :: st) h := H
      obtain ⟨hd, h1, h2⟩ := chk_cons rfl hC
      obtain ⟨p, q, st, rfl, K⟩ := g2l_ok H
      exact e_lor hd (ih _ _ _ _ _ h2 K)
    case lcmp =>
      replace H : g2l st fun p q st => wp cx j d Q r (pc + 1) a loc (.int (lg_cmp p q) :: st) h := H
      obtain ⟨hd, h1, h2⟩ := chk_cons rfl hC
      obtain ⟨p, q, st, rfl, K⟩ := g2l_ok H
      exact e_lcmp hd (ih _ _ _ _ _ h2 K)
    case ldiv =>
      replace H : g2l st fun p q st => ¬ q = 0 ∧ wp cx j d Q r (pc + 1) a loc (.long (p / q) :: st) h := H
      obtain ⟨hd, h1, h2⟩ := chk_cons rfl hC
      obtain ⟨p, q, st, rfl, K0, K⟩ := g2l_ok H
      exact e_ldiv hd K0 (ih _ _ _ _ _ h2 K)
    case lrem =>
      replace H : g2l st fun p q st => ¬ q = 0 ∧ wp cx j d Q r (pc + 1) a loc (.long (p - p / q * q) :: st) h := H
      obtain ⟨hd, h1, h2⟩ := chk_cons rfl hC
      obtain ⟨p, q, st, rfl, K0, K⟩ := g2l_ok H
      exact e_lrem hd K0 (ih _ _ _ _ _ h2 K)
    case lshl =>
      replace H : gil st fun p q st => wp cx j d Q r (pc + 1) a loc (.long (p <<< (q.toInt64 &&& 63)) :: st) h := H
      obtain ⟨hd, h1, h2⟩ := chk_cons rfl hC
      obtain ⟨p, q, st, rfl, K⟩ := gil_ok H
      exact e_lshl hd (ih _ _ _ _ _ h2 K)
    case lshr =>
      replace H : gil st fun p q st => wp cx j d Q r (pc + 1) a loc (.long (p >>> (q.toInt64 &&& 63)) :: st) h := H
      obtain ⟨hd, h1, h2⟩ := chk_cons rfl hC
      obtain ⟨p, q, st, rfl, K⟩ := gil_ok H
      exact e_lshr hd (ih _ _ _ _ _ h2 K)
    case ineg =>
      replace H : g1i st fun p st => wp cx j d Q r (pc + 1) a loc (.int (-p) :: st) h := H
      obtain ⟨hd, h1, h2⟩ := chk_cons rfl hC
      obtain ⟨p, st, rfl, K⟩ := g1i_ok H
      exact e_ineg hd (ih _ _ _ _ _ h2 K)
    case i2l =>
      replace H : g1i st fun p st => wp cx j d Q r (pc + 1) a loc (.long p.toInt64 :: st) h := H
      obtain ⟨hd, h1, h2⟩ := chk_cons rfl hC
      obtain ⟨p, st, rfl, K⟩ := g1i_ok H
      exact e_i2l hd (ih _ _ _ _ _ h2 K)
    case i2b =>
      replace H : g1i st fun p st => wp cx j d Q r (pc + 1) a loc (.int p.toInt8.toInt32 :: st) h := H
      obtain ⟨hd, h1, h2⟩ := chk_cons rfl hC
      obtain ⟨p, st, rfl, K⟩ := g1i_ok H
      exact e_i2b hd (ih _ _ _ _ _ h2 K)
    case l2i =>
      replace H : g1l st fun p st => wp cx j d Q r (pc + 1) a loc (.int p.toInt32 :: st) h := H
      obtain ⟨hd, h1, h2⟩ := chk_cons rfl hC
      obtain ⟨p, st, rfl, K⟩ := g1l_ok H
      exact e_l2i hd (ih _ _ _ _ _ h2 K)
    case iload_n n =>
      replace H : lI loc n fun v => wp cx j d Q r (pc + 1) a loc (.int v :: st) h := H
      obtain ⟨hd, h1, h2⟩ := chk_cons rfl hC
      obtain ⟨v, hv, K⟩ := lI_ok H
      exact e_iload_n hd hv (ih _ _ _ _ _ h2 K)
    case iload n =>
      replace H : lI loc n fun v => wp cx j d Q r (pc + 2) a loc (.int v :: st) h := H
      obtain ⟨hd, h1, h2⟩ := chk_cons rfl hC
      obtain ⟨v, hv, K⟩ := lI_ok H
      exact e_iload hd hv (ih _ _ _ _ _ h2 K)
    case lload_n n =>
      replace H : lJ loc n fun v => wp cx j d Q r (pc + 1) a loc (.long v :: st) h := H
      obtain ⟨hd, h1, h2⟩ := chk_cons rfl hC
      obtain ⟨v, hv, K⟩ := lJ_ok H
      exact e_lload_n hd hv (ih _ _ _ _ _ h2 K)
    case lload n =>
      replace H : lJ loc n fun v => wp cx j d Q r (pc + 2) a loc (.long v :: st) h := H
      obtain ⟨hd, h1, h2⟩ := chk_cons rfl hC
      obtain ⟨v, hv, K⟩ := lJ_ok H
      exact e_lload hd hv (ih _ _ _ _ _ h2 K)
    case aload_n n =>
      replace H : lA loc n fun v => wp cx j d Q r (pc + 1) a loc (v :: st) h := H
      obtain ⟨hd, h1, h2⟩ := chk_cons rfl hC
      rcases lA_ok H with ⟨v, hv, K⟩ | ⟨hv, K⟩
      · exact e_aload_n hd hv (ih _ _ _ _ _ h2 K)
      · exact e_aload_nN hd hv (ih _ _ _ _ _ h2 K)
    case aload n =>
      replace H : lA loc n fun v => wp cx j d Q r (pc + 2) a loc (v :: st) h := H
      obtain ⟨hd, h1, h2⟩ := chk_cons rfl hC
      rcases lA_ok H with ⟨v, hv, K⟩ | ⟨hv, K⟩
      · exact e_aload hd hv (ih _ _ _ _ _ h2 K)
      · exact e_aloadN hd hv (ih _ _ _ _ _ h2 K)
    case istore_n n =>
      replace H : g1i st fun v st => wp cx j d Q r (pc + 1) a (lsto loc n (.int v)) st h := H
      obtain ⟨hd, h1, h2⟩ := chk_cons rfl hC
      obtain ⟨v, st, rfl, K⟩ := g1i_ok H
      simp only [chk1, decide_eq_true_eq] at h1
      exact e_istore_n hd h1 (ih _ _ _ _ _ h2 K)
    case istore n =>
      replace H : g1i st fun v st => wp cx j d Q r (pc + 2) a (lsto loc n (.int v)) st h := H
      obtain ⟨hd, h1, h2⟩ := chk_cons rfl hC
      obtain ⟨v, st, rfl, K⟩ := g1i_ok H
      simp only [chk1, decide_eq_true_eq] at h1
      exact e_istore hd h1 (ih _ _ _ _ _ h2 K)
    case lstore_n n =>
      replace H : g1l st fun v st => wp cx j d Q r (pc + 1) a (lst2 loc n (.long v)) st h := H
      obtain ⟨hd, h1, h2⟩ := chk_cons rfl hC
      obtain ⟨v, st, rfl, K⟩ := g1l_ok H
      simp only [chk1, decide_eq_true_eq] at h1
      exact e_lstore_n hd h1 (ih _ _ _ _ _ h2 K)
    case lstore n =>
      replace H : g1l st fun v st => wp cx j d Q r (pc + 2) a (lst2 loc n (.long v)) st h := H
      obtain ⟨hd, h1, h2⟩ := chk_cons rfl hC
      obtain ⟨v, st, rfl, K⟩ := g1l_ok H
      simp only [chk1, decide_eq_true_eq] at h1
      exact e_lstore hd h1 (ih _ _ _ _ _ h2 K)
    case astore_n n =>
      replace H : ga st fun v st => wp cx j d Q r (pc + 1) a (lsto loc n v) st h := H
      obtain ⟨hd, h1, h2⟩ := chk_cons rfl hC
      simp only [chk1, decide_eq_true_eq] at h1
      obtain ⟨v, st, rfl, K⟩ := ga_ok H
      rcases K with ⟨⟨w, rfl⟩, K⟩ | ⟨rfl, K⟩
      · exact e_astore_n hd h1 (ih _ _ _ _ _ h2 K)
      · exact e_astore_nN hd h1 (ih _ _ _ _ _ h2 K)
    case astore n =>
      replace H : ga st fun v st => wp cx j d Q r (pc + 2) a (lsto loc n v) st h := H
      obtain ⟨hd, h1, h2⟩ := chk_cons rfl hC
      simp only [chk1, decide_eq_true_eq] at h1
      obtain ⟨v, st, rfl, K⟩ := ga_ok H
      rcases K with ⟨⟨w, rfl⟩, K⟩ | ⟨rfl, K⟩
      · exact e_astore hd h1 (ih _ _ _ _ _ h2 K)
      · exact e_astoreN hd h1 (ih _ _ _ _ _ h2 K)
    case iinc n k =>
      replace H : lI loc n fun v => wp cx j d Q r (pc + 3) a (lsto loc n (.int (v + c))) st h := H
      obtain ⟨hd, h1, h2⟩ := chk_cons rfl hC
      obtain ⟨v, hv, K⟩ := lI_ok H
      simp only [chk1, Bool.and_eq_true, decide_eq_true_eq] at h1
      exact e_iinc hd h1.1 hv (by rw [h1.2]) (ih _ _ _ _ _ h2 K)
    case iconst n =>
      replace H : wp cx j d Q r (pc + 1) a loc (.int c :: st) h := H
      obtain ⟨hd, h1, h2⟩ := chk_cons rfl hC
      simp only [chk1, decide_eq_true_eq] at h1
      exact e_iconst hd h1 (ih _ _ _ _ _ h2 H)
    case bipush n =>
      replace H : wp cx j d Q r (pc + 2) a loc (.int c :: st) h := H
      obtain ⟨hd, h1, h2⟩ := chk_cons rfl hC
      simp only [chk1, decide_eq_true_eq] at h1
      exact e_bipush hd h1 (ih _ _ _ _ _ h2 H)
    case sipush n =>
      replace H : wp cx j d Q r (pc + 3) a loc (.int c :: st) h := H
      obtain ⟨hd, h1, h2⟩ := chk_cons rfl hC
      simp only [chk1, decide_eq_true_eq] at h1
      exact e_sipush hd h1 (ih _ _ _ _ _ h2 H)
    case lconst n =>
      replace H : wp cx j d Q r (pc + 1) a loc (.long (kl x 0) :: st) h := H
      obtain ⟨hd, h1, h2⟩ := chk_cons rfl hC
      simp only [chk1, decide_eq_true_eq] at h1
      exact e_lconst hd (by rw [h1]; rfl) (ih _ _ _ _ _ h2 H)
    case aconst_null =>
      replace H : wp cx j d Q r (pc + 1) a loc (.null :: st) h := H
      obtain ⟨hd, h1, h2⟩ := chk_cons rfl hC
      exact e_null hd (ih _ _ _ _ _ h2 H)
    case ldc idx =>
      unfold wp at H
      dsimp only at H
      obtain ⟨hd, h1, h2⟩ := chk_cons rfl hC
      match y, h1, H with
      | 0, h1, H =>
        obtain ⟨hint, hk⟩ := chI_ok h1
        exact e_ldcI hd hk (ih _ _ _ _ _ h2 H)
      | y + 1, h1, H =>
        simp only [chk1, Bool.and_eq_true, decide_eq_true_eq] at h1
        obtain ⟨⟨s1, s2⟩, s3⟩ := h1
        have hx : x < tb_S.length := s2
        refine e_ldcS hd s3 (n := x) (tx := (tb_S.getD x (0, "")).2) ?_ s2 (ih _ _ _ _ _ h2 H)
        rw [List.getD_eq_getElem?_getD, List.getElem?_eq_getElem hx] at s1 ⊢
        simp only [Option.getD_some] at s1 ⊢; rw [← s1]
    case ldc_w idx =>
      replace H : wp cx j d Q r (pc + 3) a loc (.int c :: st) h := H
      obtain ⟨hd, h1, h2⟩ := chk_cons rfl hC
      obtain ⟨hint, hk⟩ := chI_ok h1
      exact e_ldcW hd hk (ih _ _ _ _ _ h2 H)
    case ldc2_w idx =>
      replace H : wp cx j d Q r (pc + 3) a loc (.long (kl x y) :: st) h := H
      obtain ⟨hd, h1, h2⟩ := chk_cons rfl hC
      obtain ⟨hint, hk⟩ := chL_ok h1
      exact e_ldcL hd hk (ih _ _ _ _ _ h2 H)
    case dup =>
      replace H : gv st fun v st => wp cx j d Q r (pc + 1) a loc (v :: v :: st) h := H
      obtain ⟨hd, h1, h2⟩ := chk_cons rfl hC
      obtain ⟨v, st, rfl, hv, -, K⟩ := gv_ok H
      exact e_dup hd hv (ih _ _ _ _ _ h2 K)
    case pop =>
      replace H : gv st fun _ st => wp cx j d Q r (pc + 1) a loc st h := H
      obtain ⟨hd, h1, h2⟩ := chk_cons rfl hC
      obtain ⟨v, st, rfl, hv, -, K⟩ := gv_ok H
      exact e_pop hd hv (ih _ _ _ _ _ h2 K)
    case dup2 =>
      replace H : gir st fun v w st => wp cx j d Q r (pc + 1) a loc (.int v :: .ref w :: .int v :: .ref w :: st) h := H
      obtain ⟨hd, h1, h2⟩ := chk_cons rfl hC
      obtain ⟨v, w, st, rfl, K⟩ := gir_ok H
      exact e_dup2 hd rfl rfl (ih _ _ _ _ _ h2 K)
    case getfield idx =>
      unfold wp at H
      dsimp only at H
      obtain ⟨hd, h1, h2⟩ := chk_cons rfl hC
      obtain ⟨o, st, rfl, K⟩ := g1r_ok H
      obtain ⟨hint, hF⟩ := chF_ok h1
      split at K
      · obtain ⟨hl, K⟩ := K
        have hk := lawp_kd hl
        split at K
        · exact e_get hd hF (by have := hl.1; omega) hl.2.1 hk (.int (hI h o 2)) (fun ad => rfl) (ih _ _ _ _ _ h2 K)
        · have hy : y < 3 := (tb_F_use hF).2.1
          exact e_get hd hF (by have := hl.1; omega) hl.2.1 hk (.ref (o + 1 + y)) (fun ad => by
            have hy2 : ¬ y = 2 := by assumption
            have hf : ly_fk 3 y = true := fk3b hy hy2
            unfold fv; rw [hf, rf_d hl.1]; rfl) (ih _ _ _ _ _ h2 K)
      · split at K
        · rename_i hb
          have hx := (tb_F_use hF).2.2
          obtain ⟨s1, s2, s3⟩ := sk_use (beq_sk hb) (by omega)
          split at K
          · rename_i hf
            exact e_get hd hF s1 (by omega) s3 (.ref (ly_rf o y)) (fun ad => by unfold fv; rw [hf]; rfl) (ih _ _ _ _ _ h2 K)
          · rename_i hf
            exact e_get hd hF s1 (by omega) s3 (.int (hI h o y)) (fun ad => by unfold fv; rw [hf]; rfl) (ih _ _ _ _ _ h2 K)
        · exact K.elim
    case putfield idx =>
      unfold wp at H
      dsimp only at H
      obtain ⟨hd, h1, h2⟩ := chk_cons rfl hC
      split at H
      · rename_i v o st
        split at H
        · rename_i hb
          simp only [chk1, Bool.and_eq_true, Bool.not_eq_true'] at h1
          obtain ⟨⟨⟨q1, q2⟩, q3⟩, q4⟩ := h1
          obtain ⟨hint, hF⟩ := chF_ok q1
          have hx := (tb_F_use hF).2.2
          obtain ⟨s1, s2, s3⟩ := sk_use (beq_sk hb) (by omega)
          split at H
          · simp only [decide_eq_true_eq] at q4
            exact e_put hd hF s1 (by omega) s3 q2 q3 (by rw [q4]; rfl) (by rw [q4]; rfl) (ih _ _ _ _ _ h2 H)
          · obtain ⟨hB, H⟩ := H
            have q4 : tb_ty x y = .boolean := by
              revert q4; split
              · intro; contradiction
              · intro q4; simpa using q4
            exact e_put hd hF s1 (by omega) s3 q2 q3 (by rw [q4]; exact (nar_b hB).1) (by rw [q4]; exact (nar_b hB).2) (ih _ _ _ _ _ h2 H)
        · exact H.elim
      · exact H.elim
    case iaload =>
      unfold wp at H
      dsimp only at H
      obtain ⟨hd, h1, h2⟩ := chk_cons rfl hC
      obtain ⟨i, o, st, rfl, K⟩ := gir_ok H
      split at K
      · split at K
        · rename_i hb
          obtain ⟨s1, s2, s3⟩ := sk_use (beq_sk hb) (by omega)
          exact e_iald hd s1 (by omega) s3 (by rw [ln_s s2]; exact K.1) (ih _ _ _ _ _ h2 K.2)
        · exact K.elim
      · obtain ⟨l1, l2, K⟩ := K
        exact e_iald hd (by have := l1.1; omega) l1.2.1 (lawa_kd l1) (by rw [ln_d l1.1]; exact l2) (ih _ _ _ _ _ h2 K)
      · split at K
        · exact e_sld hd K.1 (ih _ _ _ _ _ h2 K.2)
        · exact K.elim
    case baload =>
      unfold wp at H
      dsimp only at H
      obtain ⟨hd, h1, h2⟩ := chk_cons rfl hC
      obtain ⟨i, o, st, rfl, K⟩ := gir_ok H
      split at K
      · rename_i hb
        obtain ⟨s1, s2, s3⟩ := sk_use hb (by omega)
        exact e_zald hd s1 (by omega) s3 (by rw [ln_s s2]; exact K.1) (ih _ _ _ _ _ h2 K.2)
      · rename_i hb
        obtain ⟨s1, s2, s3⟩ := sk_use hb (by omega)
        exact e_bald hd s1 (by omega) s3 (by rw [ln_s s2]; exact K.1) (ih _ _ _ _ _ h2 K.2)
      · exact K.elim
    case laload =>
      unfold wp at H
      dsimp only at H
      obtain ⟨hd, h1, h2⟩ := chk_cons rfl hC
      obtain ⟨i, o, st, rfl, K⟩ := gir_ok H
      split at K
      · rename_i hb
        obtain ⟨s1, s2, s3⟩ := sk_use (beq_sk hb) (by omega)
        exact e_lald hd s1 (by omega) s3 (by rw [ln_s s2]; exact K.1) (ih _ _ _ _ _ h2 K.2)
      · exact K.elim
    case aaload =>
      unfold wp at H
      dsimp only at H
      obtain ⟨hd, h1, h2⟩ := chk_cons rfl hC
      obtain ⟨i, o, st, rfl, K⟩ := gir_ok H
      split at K
      · rename_i hb
        obtain ⟨s1, s2, s3⟩ := sk_use hb (by omega)
        exact e_aald hd s1 (by omega) (Or.inl s3) (by rw [ln_s s2]; exact K.1) (ih _ _ _ _ _ h2 K.2)
      · rename_i hb
        obtain ⟨s1, s2, s3⟩ := sk_use hb (by omega)
        exact e_aald hd s1 (by omega) (Or.inr s3) (by rw [ln_s s2]; exact K.1) (ih _ _ _ _ _ h2 K.2)
      · exact K.elim
    case iastore =>
      unfold wp at H
      dsimp only at H
      obtain ⟨hd, h1, h2⟩ := chk_cons rfl hC
      obtain ⟨v, i, o, st, rfl, K⟩ := giir_ok H
      split at K
      · rename_i hb
        obtain ⟨s1, s2, s3⟩ := sk_use (beq_sk hb) (by omega)
        exact e_iast hd s1 (by omega) s3 (by rw [ln_s s2]; exact K.1) (ih _ _ _ _ _ h2 K.2)
      · exact K.elim
    case bastore =>
      unfold wp at H
      dsimp only at H
      obtain ⟨hd, h1, h2⟩ := chk_cons rfl hC
      obtain ⟨v, i, o, st, rfl, K⟩ := giir_ok H
      split at K
      · rename_i hb
        obtain ⟨s1, s2, s3⟩ := sk_use hb (by omega)
        exact e_zast hd s1 (by omega) s3 (by rw [ln_s s2]; exact K.1) (ih _ _ _ _ _ h2 K.2)
      · rename_i hb
        obtain ⟨s1, s2, s3⟩ := sk_use hb (by omega)
        exact e_bast hd s1 (by omega) s3 (by rw [ln_s s2]; exact K.1) (ih _ _ _ _ _ h2 K.2)
      · exact K.elim
    case lastore =>
      unfold wp at H
      dsimp only at H
      obtain ⟨hd, h1, h2⟩ := chk_cons rfl hC
      obtain ⟨v, i, o, st, rfl, K⟩ := glir_ok H
      split at K
      · rename_i hb
        obtain ⟨s1, s2, s3⟩ := sk_use (beq_sk hb) (by omega)
        exact e_last hd s1 (by omega) s3 (by rw [ln_s s2]; exact K.1) (ih _ _ _ _ _ h2 K.2)
      · exact K.elim
    case aastore =>
      unfold wp at H
      dsimp only at H
      obtain ⟨hd, h1, h2⟩ := chk_cons rfl hC
      split at H
      · rename_i v i o st
        split at H
        · rename_i hb
          obtain ⟨s1, s2, s3⟩ := sk_use (beq_sk hb) (by omega)
          obtain ⟨k1, k2, K⟩ := H
          exact e_aast hd s1 (by omega) s3 (by rw [ln_s s2]; exact k1) (by have := k2.1; omega) k2.2.1 (lawp_kd k2) (ih _ _ _ _ _ h2 K)
        · exact H.elim
      · rename_i i o st
        split at H
        · rename_i hb
          obtain ⟨s1, s2, s3⟩ := sk_use (beq_sk hb) (by omega)
          exact e_aastN hd s1 (by omega) s3 (by rw [ln_s s2]; exact H.1) (ih _ _ _ _ _ h2 H.2)
        · exact H.elim
      · exact H.elim
    case arraylength =>
      unfold wp at H
      dsimp only at H
      obtain ⟨hd, h1, h2⟩ := chk_cons rfl hC
      obtain ⟨o, st, rfl, K⟩ := g1r_ok H
      split at K
      · split at K
        · rename_i hb
          obtain ⟨s1, s2, s3⟩ := sk_use hb (by omega)
          exact e_alen hd s1 (by omega) (Or.inl s3) (by rw [ln_s s2]; exact ih _ _ _ _ _ h2 K)
        · rename_i hb
          obtain ⟨s1, s2, s3⟩ := sk_use hb (by omega)
          exact e_alen hd s1 (by omega) (Or.inr (Or.inl s3)) (by rw [ln_s s2]; exact ih _ _ _ _ _ h2 K)
        · rename_i hb
          obtain ⟨s1, s2, s3⟩ := sk_use hb (by omega)
          exact e_alen hd s1 (by omega) (Or.inr (Or.inr s3)) (by rw [ln_s s2]; exact ih _ _ _ _ _ h2 K)
        · exact K.elim
      · obtain ⟨l1, K⟩ := K
        exact e_alen hd (by have := l1.1; omega) l1.2.1 (Or.inl (lawa_kd l1)) (by rw [ln_d l1.1]; exact ih _ _ _ _ _ h2 K)
      · split at K
        · exact e_slen hd (ih _ _ _ _ _ h2 K)
        · exact K.elim
    case ifCond b off =>
      unfold wp at H
      dsimp only at H
      obtain ⟨hd, h1, h2⟩ := chk_cons rfl hC
      obtain ⟨v, st, rfl, K⟩ := g1i_ok H
      simp only [chk1, tgt, decide_eq_true_eq] at h1
      cases b
      case eq => exact e_if_eq hd h1 K.1 (fun q => ih _ _ _ _ _ h2 (K.2 q))
      case ne => exact e_if_ne hd h1 K.1 (fun q => ih _ _ _ _ _ h2 (K.2 q))
      case lt => exact e_if_lt hd h1 K.1 (fun q => ih _ _ _ _ _ h2 (K.2 q))
      case ge => exact e_if_ge hd h1 K.1 (fun q => ih _ _ _ _ _ h2 (K.2 q))
      case gt => exact e_if_gt hd h1 K.1 (fun q => ih _ _ _ _ _ h2 (K.2 q))
      case le => exact e_if_le hd h1 K.1 (fun q => ih _ _ _ _ _ h2 (K.2 q))
    case if_icmp b off =>
      unfold wp at H
      dsimp only at H
      obtain ⟨hd, h1, h2⟩ := chk_cons rfl hC
      obtain ⟨v, w, st, rfl, K⟩ := g2i_ok H
      simp only [chk1, tgt, decide_eq_true_eq] at h1
      cases b
      case eq => exact e_icmp_eq hd h1 K.1 (fun q => ih _ _ _ _ _ h2 (K.2 q))
      case ne => exact e_icmp_ne hd h1 K.1 (fun q => ih _ _ _ _ _ h2 (K.2 q))
      case lt => exact e_icmp_lt hd h1 K.1 (fun q => ih _ _ _ _ _ h2 (K.2 q))
      case ge => exact e_icmp_ge hd h1 K.1 (fun q => ih _ _ _ _ _ h2 (K.2 q))
      case gt => exact e_icmp_gt hd h1 K.1 (fun q => ih _ _ _ _ _ h2 (K.2 q))
      case le => exact e_icmp_le hd h1 K.1 (fun q => ih _ _ _ _ _ h2 (K.2 q))
    case ifnull off =>
      unfold wp at H
      dsimp only at H
      obtain ⟨hd, h1, h2⟩ := chk_cons rfl hC
      simp only [chk1, tgt, decide_eq_true_eq] at h1
      split at H
      · exact e_ifnull hd (ih _ _ _ _ _ h2 H)
      · exact e_ifnullN hd h1 H
      · exact H.elim
    case ifnonnull off =>
      unfold wp at H
      dsimp only at H
      obtain ⟨hd, h1, h2⟩ := chk_cons rfl hC
      simp only [chk1, tgt, decide_eq_true_eq] at h1
      split at H
      · exact e_ifnonnull hd h1 H
      · exact e_ifnonnullN hd (ih _ _ _ _ _ h2 H)
      · exact H.elim
    case goto off =>
      replace H : E cx j d a x loc st h Q := H
      obtain ⟨hd, h1, h2⟩ := chk_cons rfl hC
      simp only [chk1, tgt, decide_eq_true_eq] at h1
      exact e_goto hd h1 H
    case tableswitch dflt lo hi offs =>
      replace H : g1i st fun v st => ((∀ k : Nat, k < offs.size → v ≠ Int32.ofNat k) → E cx j d a x loc st h Q) ∧ sw cx j d a loc st h Q v pc 0 offs.toList := H
      obtain ⟨v, st, rfl, K⟩ := g1i_ok H
      simp only [chk, isSw, chk1, tgt, Bool.and_eq_true, decide_eq_true_eq, if_true] at hC
      obtain ⟨⟨hd, ⟨⟨⟨t1, t2⟩, t3⟩, t4⟩, t5⟩, -⟩ := hC
      obtain ⟨n, hd⟩ := dec2_ok hd
      subst t2
      refine e_table hd t1 (fun i => ((pc : Int) + offs[i]?.getD 0).toNat) (fun i hi => ?_) (fun hv => K.1 (fun k hk e => ?_)) (fun i hv hi => ?_)
      · have hi2 : i < offs.size := by omega
        refine ⟨offs[i], Array.getElem?_eq_getElem hi2, ?_⟩
        have := List.all_eq_true.mp t4 offs[i] (Array.getElem_mem_toList hi2)
        simp only [decide_eq_true_eq] at this
        rw [Array.getElem?_eq_getElem hi2, Option.getD_some]; omega
      · have : v.toInt = (k : Int) := by rw [e]; exact nI_toInt (n := k) (by omega)
        omega
      · have hi2 : i < offs.size := by omega
        have hs := sw_ok _ _ K.2 i offs[i] (by rw [Array.getElem?_toList, Array.getElem?_eq_getElem hi2]) (by
          rw [Nat.zero_add]; apply Int32.toInt_inj.mp; rw [hv, show Int32.ofNat i = nI i from rfl, nI_toInt (by omega)]; omega)
        show E cx j d a ((pc : Int) + offs[i]?.getD 0).toNat loc st h Q
        rw [Array.getElem?_eq_getElem hi2, Option.getD_some]; exact hs
    case ireturn =>
      unfold wp at H
      dsimp only at H
      obtain ⟨hd, h1, h2⟩ := chk_cons rfl hC
      split at H
      · match x, h1, H with
        | 0, h1, H => simp only [chk1, decide_eq_true_eq] at h1; exact e_iret hd h1 H
        | x + 1, h1, H => simp only [chk1, decide_eq_true_eq] at h1; exact e_zret hd h1 (nar_b H.1).1 H.2
      · exact H.elim
    case lreturn =>
      unfold wp at H
      dsimp only at H
      obtain ⟨hd, h1, h2⟩ := chk_cons rfl hC
      simp only [chk1, decide_eq_true_eq] at h1
      split at H
      · exact e_lret hd h1 H
      · exact H.elim
    case return_ =>
      unfold wp at H
      dsimp only at H
      obtain ⟨hd, h1, h2⟩ := chk_cons rfl hC
      simp only [chk1, decide_eq_true_eq] at h1
      split at H
      · exact e_vret hd h1 H
      · exact H.elim
    case areturn =>
      unfold wp at H
      dsimp only at H
      obtain ⟨hd, h1, h2⟩ := chk_cons rfl hC
      have h1 : ∃ n, mret j = some (.object n) := by
        revert h1; unfold chk1; dsimp only; split
        · rename_i e; intro _; exact ⟨_, e⟩
        · intro q; cases q
      obtain ⟨n, h1⟩ := h1
      split at H
      · exact e_aret hd h1 (Or.inr ⟨_, rfl⟩) H
      · exact e_aret hd h1 (Or.inl rfl) H
      · exact H.elim
    case invokevirtual idx =>
      unfold wp at H
      dsimp only at H
      obtain ⟨hd, h1, h2⟩ := chk_cons rfl hC
      obtain ⟨vs, st1, e1, hl, K⟩ := popn_ok _ _ _ _ H
      obtain ⟨o, st, rfl, K0, ks, kd0, a1, Q1, ka, kr, kM, kk⟩ := g1r_ok K
      simp only [chk1, Bool.and_eq_true, decide_eq_true_eq] at h1
      obtain ⟨⟨⟨q1, q2⟩, q3⟩, q4⟩ := h1
      obtain ⟨hint, hCt⟩ := chC_ok q1
      obtain ⟨m1, m2, m3⟩ := use_v (by omega) hCt
      have ho : 64 ≤ o ∧ o < 126 + 3 * hN h ∧ kd o = mcn x := by
        split at K0
        · exact ⟨by have := K0.1; omega, K0.2.1, by rw [lawp_kd K0, q2]⟩
        · obtain ⟨s1, s2, s3⟩ := sk_use (beq_sk K0) (by omega)
          exact ⟨s1, by omega, by rw [s3, q2]⟩
      subst e1
      rw [List.append_nil] at kM
      exact e_callV hd hCt m1 m2 (by rw [use_np m3, q4, hl]) ho.1 ho.2.1 ho.2.2 ks kd0 ka kr kM (fun r h' q => ih _ _ _ _ _ h2 (kk r h' q))
    case invokestatic idx =>
      unfold wp at H
      dsimp only at H
      obtain ⟨hd, h1, h2⟩ := chk_cons rfl hC
      match z, h1, H with
      | 0, h1, H =>
        obtain ⟨vs, st1, e1, hl, ks, kd0, a1, Q1, ka, kr, kM, kk⟩ := popn_ok _ _ _ _ H
        simp only [chk1, Bool.and_eq_true, Bool.or_eq_true, decide_eq_true_eq] at h1
        obtain ⟨⟨q1, q3⟩, q4⟩ := h1
        subst e1
        rw [List.append_nil] at kM
        have mk : ∀ t hint, (t = 1 ∨ t = 2) → (mcn j, idx, x, t, hint) ∈ tb_C → mk_ok x = true ∧ mk_s x = true ∧ x < 252 := fun t hint ht hq => by
          rcases q3 with q3 | q3
          · exact use_s ht q3 hq
          · subst q3; have := jk_236; simp only [Bool.and_eq_true] at this; exact ⟨this.1, this.2, by decide⟩
        rcases q1 with q1 | q1
        · obtain ⟨hint, hCt⟩ := chC_ok q1
          obtain ⟨m1, m2, m3⟩ := mk _ _ (Or.inl rfl) hCt
          exact e_callS hd hCt m1 m2 (by rw [use_np m3, q4, hl]) ks kd0 ka kr kM (fun r h' q => ih _ _ _ _ _ h2 (kk r h' q))
        · obtain ⟨hint, hCt⟩ := chC_ok q1
          obtain ⟨m1, m2, m3⟩ := mk _ _ (Or.inr rfl) hCt
          exact e_callN hd hCt m1 m2 (by rw [use_np m3, q4, hl]) ks kd0 ka kr kM (fun r h' q => ih _ _ _ _ _ h2 (kk r h' q))
      | z + 1, h1, H =>
        obtain ⟨hint, hCt⟩ := chC_ok (show chC j idx x 1 = true from h1)
        split at H
        · exact absurd ‹z + 1 = 0› (by omega)
        · split at H
          · obtain ⟨p, q, st, rfl, K0, K⟩ := g2i_ok H; exact e_mmax hd hCt K0.1 K0.2 (ih _ _ _ _ _ h2 K)
          · obtain ⟨p, q, st, rfl, K0, K⟩ := g2i_ok H; exact e_mmin hd hCt K0.1 K0.2 (ih _ _ _ _ _ h2 K)
          · obtain ⟨p, q, st, rfl, K0, K⟩ := g2l_ok H; exact e_lmax hd hCt K0.1 K0.2 (ih _ _ _ _ _ h2 K)
          · obtain ⟨p, q, st, rfl, K0, K⟩ := g2l_ok H; exact e_lmin hd hCt K0.1 K0.2 (ih _ _ _ _ _ h2 K)
          · exact H.elim
    all_goals exact False.elim H
