/-! the model looks: the whole method -/
section T58
variable {cx : Cx} {d a : Nat} {h g : Hp}
def mNeed (w : Wd) (L : Option (List CS)) (i : Nat) : Int32 := match L with | none => w 154 | some cs => needS (envW w i) cs (w 154)
def mBnd (w : Wd) (L : Option (List CS)) (i : Nat) : Bool := match L with | none => false | some cs => bndA (envW w i) cs
def nearP (w : Wd) (i k : Nat) : Prop := k ≠ i ∧ cItem w k ∧ tch w i k
noncomputable def mNear (w : Wd) (i : Nat) : Int32 := bitsR (nearP w i) 22
def mFirm (w : Wd) (i : Nat) : Int32 := (if w (7 * i + 1) = 0 then w 155 else 0) + (if w (7 * i + 0) = 0 then w 156 else 0) + (if w (7 * i + 0) + w (7 * i + 2) = 12 then w 156 else 0)
/-- the law in force means L -/
def lawIn (w : Wd) (L : Option (List CS)) : Prop := (L = none ∧ w 161 = -1) ∨ (∃ f N C V, f < 6 ∧ w 161 = nI f ∧ lawTok w f N C V ∧ L = some (pLaw C V N).2.2)
def lrow (w : Wd) (L : Option (List CS)) (g : Hp) (i : Nat) : Prop := hI g o_m_needs i = mNeed w L i ∧ hI g o_m_bound i = bI (mBnd w L i) ∧ hI g o_m_near i = mNear w i ∧ hI g o_m_firm i = mFirm w i
def lkOk (w : Wd) (L : Option (List CS)) (g : Hp) : Prop := ∀ i, i < 22 → cItem w i → lrow w L g i
def keepL (h g : Hp) : Prop := g.2 = h.2 ∧ ∀ o k, ¬ (o = 104 ∧ (k = 19 ∨ k = 20 ∨ k = 21 ∨ k = 27)) → ¬ (115 ≤ o ∧ o ≤ 119) → hI g o k = hI h o k
theorem keepL_r : keepL h h := ⟨rfl, fun _ _ _ _ => rfl⟩
theorem keepL_t {f : Hp} (p : keepL h g) (q : keepL g f) : keepL h f := ⟨q.1.trans p.1, fun o k n1 n2 => (q.2 o k n1 n2).trans (p.2 o k n1 n2)⟩
theorem keepL_W (p : keepL h g) : kW g = kW h := funext fun k => p.2 o_m_kept k (fun z => absurd z.1 (by decide)) (by decide)
theorem keepL_w {o k : Nat} {v : Int32} (ho : (o = 104 ∧ (k = 19 ∨ k = 20 ∨ k = 21 ∨ k = 27)) ∨ (115 ≤ o ∧ o ≤ 119)) : keepL h (wI h o k v) := ⟨rfl, fun o' k' n1 n2 => by rw [rd_any, if_neg]; rintro ⟨rfl, rfl⟩; exact ho.elim n1 n2⟩
theorem asR_keep {i : Nat} {nd : Int32} {bd : Bool} (q : asR h i nd bd g) : keepL h g := ⟨q.1, fun o k n1 n2 => q.2.2.2.2 o k (fun z => n1 ⟨z.1, by rcases z.2 with z | z | z <;> simp [z]⟩) (fun z => n2 (by omega)) (fun z => n2 (by omega)) (fun z => n2 (by omega))⟩
theorem n_asks (hd : 60 ≤ d) {i : Nat} {L : Option (List CS)} (hi : i < 22) (hb : isB (hI h o_m 21)) (hL : lawIn (kW h) L) : M cx jX12_asksOf d 0 [.ref o_m, .int (nI i)] h (fun r g => r = none ∧ asR h i (mNeed (kW h) L i) (mBnd (kW h) L i) g) := by
  rcases hL with ⟨rfl, hf⟩ | ⟨f, N, C, V, hf6, hf, lt, rfl⟩
  · exact n_asks_none hi hf hb
  · exact n_asks_law hd hi hf hf6 hb lt
def sizes (w : Wd) : Prop := ∀ i, i < 22 → cItem w i → ∃ A B, sizeOk w i A B
def lkQ (h : Hp) (L : Option (List CS)) : Option Value → Hp → Prop := fun r g => r = none ∧ keepL h g ∧ lkOk (kW h) L g ∧ hI g o_m 27 = hI g o_m 1 ∧ isB (hI g o_m 21)
theorem lrow_o {w : Wd} {L : Option (List CS)} {G : Hp} {i k o : Nat} {v : Int32} (q : lrow w L G i) (n : ¬ (116 ≤ o ∧ o ≤ 119 ∧ k = i)) : lrow w L (wI G o k v) i := by
  have f : ∀ p, 116 ≤ p → p ≤ 119 → hI (wI G o k v) p i = hI G p i := fun p h1 h2 => by rw [rd_any, if_neg]; rintro ⟨rfl, e⟩; exact n ⟨h1, h2, e.symm⟩
  unfold lrow; rw [f 116 (by decide) (by decide), f 117 (by decide) (by decide), f 118 (by decide) (by decide), f 119 (by decide) (by decide)]; exact q
theorem n_looks (hd : 61 ≤ d) {L : Option (List CS)} (hb : isB (hI h o_m 21)) (hL : lawIn (kW h) L) (hs : sizes (kW h)) (hc : hI h o_m 27 = hI h o_m 1 → lkOk (kW h) L h) : M cx jX12_looks d 0 [.ref o_m] h (lkQ h L) := by
  have loop : ∀ n i, n + i = 22 → ∀ l2 G, keepL h G → isB (hI G o_m 21) → hI G o_m 27 = hI G o_m 1 → (∀ k, k < i → cItem (kW h) k → lrow (kW h) L G k) → E cx jX12_looks d 0 22 [some (.ref o_m), some (.int (nI i)), l2] [] G (lkQ h L) := by
    intro n
    induction n with
    | zero =>
      intro i hi l2 G k1 k2 k3 k4
      obtain rfl : i = 22 := by omega
      exact eX12_looks (And.intro (fun _ => eX12_looks ⟨rfl, k1, k4, k3, k2⟩) (fun q => absurd (nI_le (a := 22) (b := 22) (Nat.le_refl _) (by decide)) q))
    | succ n ih =>
      intro i hi l2 G k1 k2 k3 k4
      have vi : vp_in (nI i) 22 := vp_in_nI (by omega) (by decide)
      have ci : (nI i).toNatClampNeg = i := nI_clamp (by omega)
      have eW := keepL_W k1
      have next : ∀ l2 G, keepL h G → isB (hI G o_m 21) → hI G o_m 27 = hI G o_m 1 → (∀ k, k < i + 1 → cItem (kW h) k → lrow (kW h) L G k) → E cx jX12_looks d 0 183 [some (.ref o_m), some (.int (nI i)), l2] [] G (lkQ h L) := fun l2 G k1 k2 k3 k4 => by
        have := ih (i + 1) (by omega) l2 G k1 k2 k3 k4
        rw [nI_succ] at this
        exact eX12_looks this
      refine eX12_looks (And.intro (fun q => absurd q (nI_ge (a := i) (b := 22) (by omega) (by decide))) (fun _ => wcV (n_isItem (by omega) rfl (by omega)) (And.intro (fun q1 => eX12_looks (wcQ (n_asks (by omega) (by omega) k2 (by rw [eW]; exact hL)) (fun v F z => ?_) (fun v F z => congrArg (fun z => z.2.2.2) z.2.1))) (fun q1 => next _ _ k1 k2 k3 fun k hk ck => ?_))))
      · obtain ⟨rfl, ar⟩ := z
        have it : cItem (kW h) i := by have := b2i_n q1; rw [eW] at this; exact this
        obtain ⟨A, B, sz⟩ := hs i (by omega) it
        rw [eW] at ar
        have kF : keepL h F := keepL_t k1 (asR_keep ar)
        have eF := keepL_W kF
        have rF : ∀ k, k < i → cItem (kW h) k → lrow (kW h) L F k := fun k hk ck => by
          have := k4 k hk ck
          have f : ∀ p, 116 ≤ p → p ≤ 119 → hI F p k = hI G p k := fun p h1 h2 => ar.2.2.2.2 p k (by omega) (by omega) (by omega) (by omega)
          unfold lrow; rw [f 116 (by decide) (by decide), f 117 (by decide) (by decide), f 118 (by decide) (by decide), f 119 (by decide) (by decide)]; exact this
        have F27 : hI F o_m 27 = hI F o_m 1 := by rw [ar.2.2.2.2 o_m 27 (by decide) (by decide) (fun z => absurd z.1 (by decide)) (fun z => absurd z.1 (by decide)), ar.2.2.2.2 o_m 1 (by decide) (by decide) (fun z => absurd z.1 (by decide)) (fun z => absurd z.1 (by decide))]; exact k3
        have knear : ∀ v, keepL h (wI F o_m_near i v) := fun v => keepL_t kF (keepL_w (Or.inr (by decide)))
        have fin : ∀ v u, v + u = mFirm (kW h) i → E cx jX12_looks d 0 181 [some (.ref o_m), some (.int (nI i)), some (.int (nI 22))] [.int u, .int v, .int (nI i), .ref o_m_firm] (wI F o_m_near i (mNear (kW h) i)) (lkQ h L) := fun v u ev => by
          refine eX12_looks (And.intro vi ?_)
          refine e_eq (next _ (wI (wI F o_m_near i (mNear (kW h) i)) o_m_firm i (mFirm (kW h) i)) (keepL_t (knear _) (keepL_w (Or.inr (by decide)))) ?_ ?_ ?_) rfl rfl ?_
          · rw [rd_o (by decide), rd_o (by decide)]; exact ar.2.2.2.1
          · rw [rd_o (by decide), rd_o (by decide), rd_o (by decide), rd_o (by decide)]; exact F27
          · intro k hk ck
            rcases Nat.lt_succ_iff_lt_or_eq.mp hk with hk | rfl
            · exact lrow_o (lrow_o (rF k hk ck) (by omega)) (by omega)
            · refine ⟨?_, ?_, ?_, rd_same⟩
              · rw [rd_o (by decide), rd_o (by decide)]; exact ar.2.1
              · rw [rd_o (by decide), rd_o (by decide)]; exact ar.2.2.1
              · rw [rd_o (by decide), rd_same]
          · rw [ci, ev]
        have fN : ∀ (n : Nat) (q : Int32) (v : Int32), q = nI n → n < 7 → M cx jX12_factOf (d - 1) 0 [.ref o_m, .int (nI i), .int q] (wI F o_m_near i v) (RQ (.int (kW h (7 * i + n))) (wI F o_m_near i v)) := fun n q v eq hn => by
          have := n_factOf (cx := cx) (d := d - 1) (a := 0) (h := wI F o_m_near i v) (p := nI i) (q := q) rfl eq (show i < 22 by omega) hn
          rw [keepL_W (knear v)] at this; exact this
        have kN : ∀ n v, hI (wI F o_m_near i v) o_m_kept n = kW h n := fun n v => congrFun (keepL_W (knear v)) n
        have e150 : ∀ v1 v2, v1 + v2 + (if kW h (7 * i + 0) + kW h (7 * i + 2) = 12 then kW h 156 else 0) = mFirm (kW h) i → E cx jX12_looks d 0 150 [some (.ref o_m), some (.int (nI i)), some (.int (nI 22))] [.int v2, .int v1, .int (nI i), .ref o_m_firm] (wI F o_m_near i (mNear (kW h) i)) (lkQ h L) := fun v1 v2 e => by
          refine eX12_looks (wcV (fN 0 _ _ rfl (by decide)) (wcV (fN 2 _ _ rfl (by decide)) (And.intro (fun q3 => eX12_looks (fin _ _ ?_)) (fun q3 => And.intro (vp_in_nI (n := 156) (by decide) (by decide)) (fin _ _ ?_)))))
          · rw [if_neg q3] at e; exact e
          · rw [if_pos q3] at e; rw [← e]; congr 1; exact kN 156 _
        have e129 : ∀ v1, v1 = (if kW h (7 * i + 1) = 0 then kW h 155 else 0) → E cx jX12_looks d 0 129 [some (.ref o_m), some (.int (nI i)), some (.int (nI 22))] [.int v1, .int (nI i), .ref o_m_firm] (wI F o_m_near i (mNear (kW h) i)) (lkQ h L) := fun v1 e => by
          refine eX12_looks (wcV (fN 0 _ _ rfl (by decide)) (And.intro (fun q3 => eX12_looks (e150 _ _ ?_)) (fun q3 => And.intro (vp_in_nI (n := 156) (by decide) (by decide)) (e150 _ _ ?_))))
          · unfold mFirm; rw [e, if_neg q3]
          · have z : hI (wI F o_m_near i (mNear (kW h) i)) o_m_kept 156 = kW h 156 := kN 156 _
            unfold mFirm; rw [e, if_pos q3]; congr 2
        have inner : ∀ m k, m + k = 22 → E cx jX12_looks d 0 53 [some (.ref o_m), some (.int (nI i)), some (.int (nI k))] [] (wI F o_m_near i (bitsR (nearP (kW h) i) k)) (lkQ h L) := by
          intro m
          induction m with
          | zero =>
            intro k hk
            obtain rfl : k = 22 := by omega
            refine eX12_looks (And.intro (fun _ => eX12_looks (wcV (fN 1 _ _ rfl (by decide)) (And.intro (fun q3 => eX12_looks (e129 _ ?_)) (fun q3 => And.intro (vp_in_nI (n := 155) (by decide) (by decide)) (e129 _ ?_))))) (fun q => absurd (nI_le (a := 22) (b := 22) (Nat.le_refl _) (by decide)) q))
            · rw [if_neg q3]
            · rw [if_pos q3]; exact kN 155 _
          | succ m ih2 =>
            intro k hk
            have eN := keepL_W (knear (bitsR (nearP (kW h) i) k))
            have rd : hI (wI F o_m_near i (bitsR (nearP (kW h) i) k)) o_m_near (nI i).toNatClampNeg = bitsR (nearP (kW h) i) k := by rw [ci]; exact rd_same
            have st : ∀ w, bitsR (nearP (kW h) i) k ||| w = bitsR (nearP (kW h) i) (k + 1) → E cx jX12_looks d 0 95 [some (.ref o_m), some (.int (nI i)), some (.int (nI k))] [.int w, .int (hI (wI F o_m_near i (bitsR (nearP (kW h) i) k)) o_m_near (nI i).toNatClampNeg), .int (nI i), .ref o_m_near] (wI F o_m_near i (bitsR (nearP (kW h) i) k)) (lkQ h L) := fun w ew => by
              refine eX12_looks (And.intro vi ?_)
              have := ih2 (k + 1) (by omega)
              rw [nI_succ] at this
              refine e_eq this rfl rfl ?_
              rw [rd, ew, ci, wI_wI]
            have no : ¬ nearP (kW h) i k → E cx jX12_looks d 0 94 [some (.ref o_m), some (.int (nI i)), some (.int (nI k))] [.int (hI (wI F o_m_near i (bitsR (nearP (kW h) i) k)) o_m_near (nI i).toNatClampNeg), .int (nI i), .ref o_m_near] (wI F o_m_near i (bitsR (nearP (kW h) i) k)) (lkQ h L) := fun z => eX12_looks (st 0 (by rw [bitsR_f z, or_0]))
            refine eX12_looks (And.intro (fun q => absurd q (nI_ge (a := k) (b := 22) (by omega) (by decide))) (fun _ => And.intro vi (And.intro (fun q3 => no fun z => z.1 ?_) (fun q3 => wcV (n_isItem (by omega) rfl (by omega)) (And.intro (fun q4 => no fun z => b2i_0.mp q4 (by rw [eN]; exact z.2.1)) (fun q4 => wcV (n_touch (by omega) (by omega) (by omega) (by rw [eN]; exact sz)) (And.intro (fun q5 => no fun z => b2i_0.mp q5 (by rw [eN]; exact z.2.2)) (fun q5 => st _ (bitsR_t ⟨?_, ?_, ?_⟩).symm))))))))
            · have := congrArg Int32.toNatClampNeg q3
              rw [nI_clamp (by omega), nI_clamp (by omega)] at this; exact this
            · intro z; subst z; exact q3 rfl
            · have := b2i_n q4; rw [eN] at this; exact this
            · have := b2i_n q5; rw [eN] at this; exact this
        refine And.intro vi ?_
        refine e_eq (inner 22 0 rfl) rfl rfl ?_
        rw [ci]; rfl
      · rcases Nat.lt_succ_iff_lt_or_eq.mp hk with hk | rfl
        · exact k4 k hk ck
        · exact absurd (by rw [eW]; exact ck) (b2i_0.mp q1)
  refine sX12_looks rfl (And.intro (fun q1 => eX12_looks ?_) (fun q1 => ⟨rfl, keepL_r, hc q1, q1, hb⟩))
  refine loop 22 0 rfl none _ (keepL_w (Or.inl ⟨rfl, by decide⟩)) ?_ ?_ (fun k hk => by omega)
  · show isB (hI (wI h o_m 27 _) o_m 21); rw [rd_k (by decide)]; exact hb
  · show hI (wI h o_m 27 (hI h o_m 1)) o_m 27 = hI (wI h o_m 27 (hI h o_m 1)) o_m 1
    rw [rd_same, rd_k (by decide)]
end T58
