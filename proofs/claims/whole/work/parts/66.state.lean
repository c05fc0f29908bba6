/-! the state that both sides stand for: A 0 the wall (as the model keeps it), A 1, A 2 its images, A 3 which are kept, A 4 the bytes fed, A 5: 0 how many, 1 the fault, 2 the rubble, 3 the status; A 6 the refusals, A 7 the winters, A 8 0 how many -/
abbrev Ab : Type := Nat → Nat → Int32
def inR (lo hi : Nat) (v : Int32) : Prop := ∃ k, lo ≤ k ∧ k ≤ hi ∧ v = nI k
def box (w : Wd) (i : Nat) : Prop := ∃ x y A B : Nat, w (7 * i + 0) = nI x ∧ w (7 * i + 1) = nI y ∧ w (7 * i + 2) = nI A ∧ w (7 * i + 3) = nI B ∧ 0 < A ∧ A ≤ 6 ∧ 0 < B ∧ B ≤ 6 ∧ x + A ≤ 12 ∧ y + B ≤ 8
def nOf (w : Wd) (f : Nat) : Nat := (w (162 + f)).toNatClampNeg
def cOf (w : Wd) (f : Nat) : Nat → Int32 := fun k => if k < nOf w f then w (168 + (400 * f + k)) else 0
def vOf (w : Wd) (f : Nat) : Nat → Int32 := fun k => if k < nOf w f then w (2568 + (400 * f + k)) else 0
noncomputable def csOf (w : Wd) (f : Nat) : List CS := (pLaw (cOf w f) (vOf w f) (nOf w f)).2.2
noncomputable def lawOf (w : Wd) : Option (List CS) := if w 161 = -1 then none else some (csOf w (w 161).toNatClampNeg)
def wfS (w : Wd) (n s t : Nat) : Prop := n ≤ 14 ∧ s ≤ 8 ∧ t ≤ 6 ∧ w 157 = nI n ∧ w 158 = nI s ∧ low n (w 159) ∧ w 160 = nI t ∧ (w 161 = -1 ∨ ∃ f, f < t ∧ w 161 = nI f)
def wfT (w : Wd) : Prop := inR 0 12 (w 154) ∧ inR 0 9 (w 155) ∧ inR 0 9 (w 156)
def bX (w : Wd) (i f : Nat) : Nat := (w (7 * i + f)).toNatClampNeg
/-- two oblongs have no cell together -/
def dsj (w : Wd) (i j : Nat) : Prop := bX w i 0 + bX w i 2 ≤ bX w j 0 ∨ bX w j 0 + bX w j 2 ≤ bX w i 0 ∨ bX w i 1 + bX w i 3 ≤ bX w j 1 ∨ bX w j 1 + bX w j 3 ≤ bX w i 1
def wfI (w : Wd) : Prop := (∀ i, i < 22 → cItem w i → box w i) ∧ ∀ i j, i < 22 → j < 22 → i ≠ j → cItem w i → cItem w j → dsj w i j
def wfL (w : Wd) (t : Nat) : Prop := ∀ f, f < t → lawTok w f (nOf w f) (cOf w f) (vOf w f)
def wfW (w : Wd) : Prop := ∃ n s t : Nat, wfS w n s t ∧ wfT w ∧ wfI w ∧ wfL w t
/-- all that a state must keep -/
def wfA (A : Ab) : Prop := wfW (A 0) ∧ (∀ k, k < 2 → isB (A 3 k) ∧ (A 3 k = 1 → wfW (A (1 + k)))) ∧ (∃ t, t ≤ 400 ∧ A 5 0 = nI t) ∧ (∀ k, ∃ b, b < 256 ∧ A 4 k = nI b) ∧ (∃ m, m ≤ 40 ∧ A 8 0 = nI m)
def sg (x : Int32) : Int32 := x.toInt8.toInt32
/-- the model's words, letter by letter -/
def wdB : List Int32 := [110, 101, 101, 100, 115, 32, 98, 111, 117, 110, 100, 32, 105, 102, 32, 111, 114, 32, 97, 110, 100, 32, 110, 111, 116, 32, 115, 116, 111, 110, 101, 32, 120, 32, 121, 32, 119, 105, 100, 101, 32, 116, 97, 108, 108, 32, 119, 101, 105, 103, 104, 116, 32, 102, 97, 114, 109, 32, 102, 114, 111, 115, 116, 32]
/-- the model's cells hold the state -/
def RMd (A : Ab) (h : Hp) : Prop := kW h = A 0 ∧ (∀ k i, k < 2 → i < 4968 → hI h o_m_images (4968 * k + i) = A (1 + k) i) ∧ (∀ k, k < 2 → hI h o_m_hasImage k = A 3 k) ∧ (∀ k, k < 400 → hI h o_m_tape k = sg (A 4 k)) ∧ hI h o_m 10 = A 5 0 ∧ hI h o_m 11 = A 5 1 ∧ hI h o_m 6 = A 5 2 ∧ hI h o_m 0 = A 5 3 ∧ (∀ k, k < 7 → hI h o_m_refused k = A 6 k) ∧ (∀ k, k < 40 → hI h o_m_winterRow k = A 7 k) ∧ hI h o_m 37 = A 8 0 ∧ (∀ k, k < 64 → hI h o_m_words k = wdB.getD k 0)
/-- the tables over all sets -/
def stOk (w : Wd) (L : Option (List CS)) (g : Hp) : Prop := ∀ n, w 157 = nI n → n ≤ 14 → ∀ m, m < 2 ^ n → hI g o_m_lawful m = b2i (lwf (aU w L) (nI m)) ∧ hI g o_m_fallTo m = fallA (aU w L) (nI m) ∧ hI g o_m_wins m = b2i (winA (aU w L) (nI m)) ∧ hI g o_m_comes m = b2i (comA (aU w L) (w 159) (nI m))
def vLe (h : Hp) (v k : Nat) : Prop := hI h o_m k = -1 ∨ ∃ l, l ≤ v ∧ hI h o_m k = nI l
/-- the model's tables are as its version says -/
def mC (c : Nat) (w : Wd) (h : Hp) : Prop := isB (hI h o_m 21) ∧ (∃ v, v ≤ c ∧ hI h o_m 1 = nI v ∧ vLe h v 27 ∧ vLe h v 32) ∧ (hI h o_m 27 = hI h o_m 1 → lkOk w (lawOf w) h) ∧ (hI h o_m 32 = hI h o_m 1 → stOk w (lawOf w) h)
def RM (c : Nat) (A : Ab) (h : Hp) : Prop := RMd A h ∧ mC c (A 0) h
/-- nothing but the model's cells has changed -/
def keepC (h g : Hp) : Prop := g.2 = h.2 ∧ ∀ o k, ¬ (104 ≤ o ∧ o ≤ 125) → hI g o k = hI h o k
def mQ (c : Nat) (A : Ab) (r : Int32) (h : Hp) : Option Value → Hp → Prop := fun q g => q = some (.int r) ∧ RM c A g ∧ keepC h g
section T66
variable {cx : Cx} {d a c : Nat} {h g f : Hp} {w : Wd} {A : Ab}
theorem M_mono {j : Nat} {vs : List Value} {Q Q' : Option Value → Hp → Prop} (k : M cx j d a vs h Q) (m : ∀ r g, Q r g → Q' r g) : M cx j d a vs h Q' := by
  intro l ad sz p e ha hc hk s mm args below hf happ hP hK
  obtain ⟨n, o, h1, h2, h3, ⟨⟨⟨r, h', ad', q1, q2, q3⟩, s4⟩, s5⟩⟩ := k l ad sz p e ha hc hk s mm args below hf happ hP hK
  exact ⟨n, o, h1, h2, h3, ⟨⟨⟨r, h', ad', q1, m _ _ q2, q3⟩, s4⟩, s5⟩⟩
theorem keepC_r : keepC h h := ⟨rfl, fun _ _ _ => rfl⟩
theorem keepC_t (p : keepC h g) (q : keepC g f) : keepC h f := ⟨q.1.trans p.1, fun o k n => (q.2 o k n).trans (p.2 o k n)⟩
theorem keepC_w {o k : Nat} {v : Int32} (ho : 104 ≤ o ∧ o ≤ 125) : keepC h (wI h o k v) := ⟨rfl, fun p q n => rd_o (fun e => n (by rw [e]; exact ho))⟩
theorem keepM_C (p : keepM h g) : keepC h g := ⟨p.1, fun o k n => p.2 o k (fun z => n (by omega)) (fun z => n (by omega))⟩
theorem keepC_N (p : keepC h g) : hN g = hN h := congrArg (fun z => z.2.2.2) p.1
theorem keepM_o (p : keepM h g) {o k : Nat} (n1 : o ≠ 104) (n2 : o < 115 ∨ 124 < o) : hI g o k = hI h o k := p.2 o k (fun z => n1 z.1) (by omega)
theorem keepM_m (p : keepM h g) {k : Nat} (n : ¬ (k = 19 ∨ k = 20 ∨ k = 21 ∨ k = 27 ∨ k = 32 ∨ k = 33 ∨ k = 34)) : hI g o_m k = hI h o_m k := p.2 o_m k (fun z => n z.2) (by decide)
theorem RMd_keep (p : RMd A h) (q : keepM h g) : RMd A g := by
  obtain ⟨p1, p2, p3, p4, p5, p6, p7, p8, p9, p10, p11, p12⟩ := p
  refine ⟨(keepM_W q).trans p1, fun k i hk hi => ?_, fun k hk => ?_, fun k hk => ?_, ?_, ?_, ?_, ?_, fun k hk => ?_, fun k hk => ?_, ?_, fun k hk => ?_⟩
  · rw [keepM_o q (by decide) (by decide)]; exact p2 k i hk hi
  · rw [keepM_o q (by decide) (by decide)]; exact p3 k hk
  · rw [keepM_o q (by decide) (by decide)]; exact p4 k hk
  · rw [keepM_m q (by decide)]; exact p5
  · rw [keepM_m q (by decide)]; exact p6
  · rw [keepM_m q (by decide)]; exact p7
  · rw [keepM_m q (by decide)]; exact p8
  · rw [keepM_o q (by decide) (by decide)]; exact p9 k hk
  · rw [keepM_o q (by decide) (by decide)]; exact p10 k hk
  · rw [keepM_m q (by decide)]; exact p11
  · rw [keepM_o q (by decide) (by decide)]; exact p12 k hk
theorem vLe_le {v v' k : Nat} (q : vLe h v k) (l : v ≤ v') : vLe h v' k := q.elim Or.inl (fun ⟨l', h1, h2⟩ => Or.inr ⟨l', by omega, h2⟩)
theorem mC_le {c' : Nat} (q : mC c w h) (l : c ≤ c') : mC c' w h := by
  obtain ⟨q1, ⟨v, h1, h2, h3, h4⟩, q3, q4⟩ := q
  exact ⟨q1, ⟨v, by omega, h2, h3, h4⟩, q3, q4⟩
theorem RM_le {c' : Nat} (q : RM c A h) (l : c ≤ c') : RM c' A h := ⟨q.1, mC_le q.2 l⟩
theorem lawIn_of {n s t : Nat} (q : wfS w n s t) (ql : wfL w t) : lawIn w (lawOf w) := by
  obtain ⟨-, -, h6, -, -, -, -, hf⟩ := q
  unfold lawOf
  rcases hf with hf | ⟨f, hf, ef⟩
  · rw [if_pos hf]; exact Or.inl ⟨rfl, hf⟩
  · have e1 : ¬ nI f = -1 := fun z => by have := congrArg Int32.toInt z; rw [nI_toInt (by omega)] at this; have : (-1 : Int32).toInt = -1 := rfl; omega
    rw [ef, if_neg e1, nI_clamp (by omega)]
    exact Or.inr ⟨f, _, _, _, by omega, ef, ql f hf, rfl⟩
theorem sizes_of (q : wfI w) : sizes w := fun i hi ci => by
  obtain ⟨x, y, A, B, -, -, h3, h4, h5, h6, h7, h8, -, -⟩ := q.1 i hi ci
  exact ⟨A, B, h3, h4, h5, h6, h7, h8⟩
theorem lk_keep {L : Option (List CS)} (p : lkOk w L h) (e : ∀ o k, 116 ≤ o → o ≤ 119 → hI g o k = hI h o k) : lkOk w L g := fun i hi ci => by
  unfold lrow; rw [e _ _ (by decide) (by decide), e _ _ (by decide) (by decide), e _ _ (by decide) (by decide), e _ _ (by decide) (by decide)]; exact p i hi ci
theorem st_keep {L : Option (List CS)} (p : stOk w L h) (e : ∀ o k, 120 ≤ o → o ≤ 123 → hI g o k = hI h o k) : stOk w L g := fun n en hn m hm => by
  rw [e _ _ (by decide) (by decide), e _ _ (by decide) (by decide), e _ _ (by decide) (by decide), e _ _ (by decide) (by decide)]; exact p n en hn m hm
/-- behind a look -/
theorem n_looksC (hd : 61 ≤ d) (eW : kW h = w) (wf : wfW w) (q : mC c w h) : M cx jX12_looks d 0 [.ref o_m] h (fun r g => r = none ∧ keepL h g ∧ mC c w g ∧ lkOk w (lawOf w) g ∧ hI g o_m 27 = hI g o_m 1) := by
  obtain ⟨n, s, t, w1, w2, w3, w4⟩ := wf
  obtain ⟨q1, ⟨v, v1, v2, v3, v4⟩, q3, q4⟩ := q
  have := n_looks (cx := cx) (h := h) (L := lawOf w) hd q1 (by rw [eW]; exact lawIn_of w1 w4) (by rw [eW]; exact sizes_of w3) (by rw [eW]; exact q3)
  refine M_mono this ?_
  rintro r g ⟨rfl, k, lk, e27, b⟩
  rw [eW] at lk
  have f1 : hI g o_m 1 = hI h o_m 1 := k.2 o_m 1 (by decide) (by decide)
  have f32 : hI g o_m 32 = hI h o_m 32 := k.2 o_m 32 (by decide) (by decide)
  refine ⟨rfl, k, ⟨b, ⟨v, v1, by rw [f1]; exact v2, Or.inr ⟨v, Nat.le_refl _, by rw [e27, f1]; exact v2⟩, ?_⟩, fun _ => lk, fun z => ?_⟩, lk, e27⟩
  · unfold vLe; rw [f32]; exact v4
  · rw [f32, f1] at z
    exact st_keep (q4 z) (fun o k' h1 h2 => k.2 o k' (fun y => by omega) (by omega))
end T66
