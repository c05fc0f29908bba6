/-! the model asks: the whole method -/
section T56
variable {cx : Cx} {d a : Nat} {h g : Hp} {N : Nat} {C V : Nat → Int32} {e : Env}
theorem ev_self {G : Hp} {k : Nat} {b : Bool} (h1 : hI G o_m 19 = nI k) (h2 : hI G o_m 21 = bI b) : ev G k b = G := by
  unfold ev; rw [← h1, wI_self, ← h2, wI_self]
theorem aH_self {G : Hp} {i : Nat} {nd bd : Int32} (h1 : hI G o_m_needs i = nd) (h2 : hI G o_m_bound i = bd) : aH G i nd bd = G := by
  unfold aH; rw [← h1, wI_self, ← h2, wI_self]
def akH (h : Hp) (i : Nat) : Nat → Hp
  | 0 => wI h o_m_asked 0 (nI i)
  | k + 1 => wI (akH h i k) o_m_asked (1 + k) (kW h (7 * i + k))
theorem akH_o {i n o k : Nat} (ne : o ≠ 115) : hI (akH h i n) o k = hI h o k := by
  induction n with
  | zero => exact rd_o ne
  | succ n ih => rw [akH, rd_o ne, ih]
theorem akH_2 {i n : Nat} : (akH h i n).2 = h.2 := by
  induction n with
  | zero => rfl
  | succ n ih => exact ih
theorem akH_env {i : Nat} : ∀ n k, k ≤ n → hI (akH h i n) o_m_asked k = envW (kW h) i k := by
  intro n
  induction n with
  | zero => intro k hk; obtain rfl : k = 0 := by omega
            exact rd_same
  | succ n ih =>
    intro k hk
    rw [akH]
    by_cases e : k = 1 + n
    · subst e; rw [rd_same]; unfold envW; rw [if_neg (by omega)]; congr 1; omega
    · rw [rd_k e]; exact ih k (by omega)
/-- the tokens of law f -/
def lawTok (w : Wd) (f N : Nat) (C V : Nat → Int32) : Prop := w (162 + f) = nI N ∧ N ≤ 400 ∧ (∀ k, k < N → w (168 + (400 * f + k)) = C k ∧ w (2568 + (400 * f + k)) = V k) ∧ (∀ k, N ≤ k → C k = 0) ∧ (pLaw C V N).1 = true
/-- what asking leaves -/
def asR (h : Hp) (i : Nat) (nd : Int32) (bd : Bool) (g : Hp) : Prop := g.2 = h.2 ∧ hI g o_m_needs i = nd ∧ hI g o_m_bound i = bI bd ∧ isB (hI g o_m 21) ∧ ∀ o k, ¬ (o = 104 ∧ (k = 19 ∨ k = 20 ∨ k = 21)) → o ≠ 115 → ¬ (o = 116 ∧ k = i) → ¬ (o = 117 ∧ k = i) → hI g o k = hI h o k
theorem aH_r {G : Hp} {i o k : Nat} {nd bd : Int32} (n1 : ¬ (o = 116 ∧ k = i)) (n2 : ¬ (o = 117 ∧ k = i)) : hI (aH G i nd bd) o k = hI G o k := by
  unfold aH; rw [rd_any, if_neg n2, rd_any, if_neg n1]
theorem aH_n {G : Hp} {i : Nat} {nd bd : Int32} : hI (aH G i nd bd) o_m_needs i = nd := by unfold aH; rw [rd_o (by decide), rd_same]
theorem aH_b {G : Hp} {i : Nat} {nd bd : Int32} : hI (aH G i nd bd) o_m_bound i = bd := by unfold aH; rw [rd_same]
theorem isB_bI {v : Int32} (q : isB v) : ∃ b, v = bI b := by rcases q with q | q; exact ⟨false, q⟩; exact ⟨true, q⟩
theorem n_asks_none {i : Nat} (hi : i < 22) (hf : kW h 161 = -1) (hb : isB (hI h o_m 21)) : M cx jX12_asksOf d a [.ref o_m, .int (nI i)] h (fun r g => r = none ∧ asR h i (kW h 154) false g) := by
  have vi : vp_in (nI i) 22 := vp_in_nI hi (by decide)
  have ci : (nI i).toNatClampNeg = i := nI_clamp (by omega)
  refine sX12_asksOf rfl (And.intro (vp_in_nI (n := 154) (by decide) (by decide)) (And.intro vi (And.intro vi (And.intro (vp_in_nI (n := 161) (by decide) (by decide)) (And.intro (fun z => absurd ?_ z) (fun _ => ⟨rfl, ?_⟩))))))
  · show hI (wI (wI h o_m_needs _ _) o_m_bound _ _) o_m_kept 161 = -1
    rw [rd_o (by decide), rd_o (by decide)]; exact hf
  · have : wI (wI h o_m_needs (nI i).toNatClampNeg (kW h 154)) o_m_bound (nI i).toNatClampNeg (vp_nar .boolean 0) = aH h i (kW h 154) 0 := by rw [ci]; rfl
    show asR h i (kW h 154) false (wI (wI h o_m_needs (nI i).toNatClampNeg (kW h 154)) o_m_bound (nI i).toNatClampNeg (vp_nar .boolean 0))
    rw [this]
    exact ⟨rfl, aH_n, aH_b, by rw [aH_o (by decide) (by decide)]; exact hb, fun o k _ _ n3 n4 => aH_r n3 n4⟩
theorem n_asks_law (hd : 60 ≤ d) {i f : Nat} (hi : i < 22) (hf : kW h 161 = nI f) (hf6 : f < 6) (hb : isB (hI h o_m 21)) (lt : lawTok (kW h) f N C V) : M cx jX12_asksOf d 0 [.ref o_m, .int (nI i)] h (fun r g => r = none ∧ asR h i (needS (envW (kW h) i) (pLaw C V N).2.2 (kW h 154)) (bndA (envW (kW h) i) (pLaw C V N).2.2) g) := by
  have vi : vp_in (nI i) 22 := vp_in_nI hi (by decide)
  have ci : (nI i).toNatClampNeg = i := nI_clamp (by omega)
  have hw0 : wI (wI h o_m_needs (nI i).toNatClampNeg (kW h 154)) o_m_bound (nI i).toNatClampNeg (vp_nar .boolean 0) = aH h i (kW h 154) 0 := by rw [ci]; rfl
  have hkA : ∀ k, kW (aH h i (kW h 154) 0) k = kW h k := fun k => aH_o (by decide) (by decide)
  have hkK : ∀ n k, kW (akH (aH h i (kW h 154) 0) i n) k = kW h k := fun n k => (akH_o (by decide)).trans (hkA k)
  -- from 69 on
  have e69 : ∀ l2 l3 l4 l5 l6, E cx jX12_asksOf d 0 69 [some (.ref o_m), some (.int (nI i)), l2, l3, l4, l5, l6] [] (akH (aH h i (kW h 154) 0) i 7) (fun r g => r = none ∧ asR h i (needS (envW (kW h) i) (pLaw C V N).2.2 (kW h 154)) (bndA (envW (kW h) i) (pLaw C V N).2.2) g) := by
    intro l2 l3 l4 l5 l6
    obtain ⟨b, eb⟩ := isB_bI hb
    have G : ∃ G, G = wI (wI (akH (aH h i (kW h 154) 0) i 7) o_m 19 (nI (400 * f))) o_m 20 (nI (400 * f + N)) := ⟨_, rfl⟩
    obtain ⟨G, eG⟩ := G
    have g19 : hI G o_m 19 = nI (400 * f + 0) := by rw [eG, rd_k (by decide), rd_same]; rfl
    have g20 : hI G o_m 20 = nI (400 * f + N) := by rw [eG, rd_same]
    have g21 : hI G o_m 21 = bI b := by rw [eG, rd_k (by decide), rd_k (by decide), akH_o (by decide), aH_o (by decide) (by decide)]; exact eb
    have gk : ∀ k, kW G k = kW h k := fun k => by show hI G o_m_kept k = _; rw [eG, rd_o (by decide), rd_o (by decide)]; exact hkK 7 k
    have gn : hI G o_m_needs i = kW h 154 := by rw [eG, rd_o (by decide), rd_o (by decide), akH_o (by decide)]; exact aH_n
    have gb : hI G o_m_bound i = bI false := by rw [eG, rd_o (by decide), rd_o (by decide), akH_o (by decide)]; exact aH_b
    have ge : ∀ k, k < 8 → hI G o_m_asked k = envW (kW h) i k := fun k hk => by
      rw [eG, rd_o (by decide), rd_o (by decide), akH_env 7 k (by omega)]
      unfold envW; split
      · rfl
      · exact hkA _
    have tk : tokE G (400 * f) N C V (envW (kW h) i) := ⟨g20, lt.2.1, by omega, fun k hk => by rw [gk, gk]; exact lt.2.2.1 k hk, lt.2.2.2.1, ge⟩
    have cl := (law_CLs lt.2.2.2.1 lt.2.2.2.2).1
    have lp := e_asksLoop (cx := cx) (d := d) tk hd hi (pLaw C V N).2.2 0 (kW h 154) false b l2 l3 l4 l5 l6 cl
    rw [aH_self gn gb, ev_self g19 g21] at lp
    have e1 : (400 : Int32) * hI (akH (aH h i (kW h 154) 0) i 7) o_m_kept 161 = nI (400 * f) := by
      have := hkK 7 161
      rw [show hI (akH (aH h i (kW h 154) 0) i 7) o_m_kept 161 = kW h 161 from this, hf, show (400 : Int32) = nI 400 from rfl, pk_mul]
    refine eX12_asksOf (And.intro (vp_in_nI (n := 161) (by decide) (by decide)) (And.intro (vp_in_nI (n := 161) (by decide) (by decide)) (And.intro ?_ ?_)))
    · show vp_in ((162 : Int32) + hI (wI (akH (aH h i (kW h 154) 0) i 7) o_m 19 _) o_m_kept 161) 4968
      rw [rd_o (by decide), show hI (akH (aH h i (kW h 154) 0) i 7) o_m_kept 161 = kW h 161 from hkK 7 161, hf, show (162 : Int32) = nI 162 from rfl, nI_add]
      exact vp_in_nI (by omega) (by decide)
    · refine e_eq (Q := _) (E_mono lp ?_) rfl rfl ?_
      · rintro r g ⟨rfl, k, b2, rfl⟩
        refine ⟨rfl, ?_, ?_, ?_, ?_, ?_⟩
        · show G.2 = h.2
          rw [eG]; exact akH_2
        · rw [ev_o (by decide)]; exact aH_n
        · rw [ev_o (by decide)]; exact aH_b
        · rw [ev_br]; exact bI_B
        · intro o q n1 n2 n3 n4
          have m1 : hI (ev (aH G i (needS (envW (kW h) i) (pLaw C V N).2.2 (kW h 154)) (bI (false || bndA (envW (kW h) i) (pLaw C V N).2.2))) k b2) o q = hI G o q := by
            by_cases ho : o = 104
            · subst ho
              rw [ev_k (fun z => n1 ⟨rfl, Or.inl z⟩) (fun z => n1 ⟨rfl, Or.inr (Or.inr z)⟩), aH_r n3 n4]
            · rw [ev_o ho, aH_r n3 n4]
          rw [m1, eG]
          by_cases ho : o = 104
          · subst ho
            rw [rd_k (fun z => n1 ⟨rfl, Or.inr (Or.inl z)⟩), rd_k (fun z => n1 ⟨rfl, Or.inl z⟩), akH_o n2, aH_r n3 n4]
          · rw [rd_o ho, rd_o ho, akH_o n2, aH_r n3 n4]
      · rw [eG]
        show wI (wI (akH (aH h i (kW h 154) 0) i 7) o_m 19 ((400 : Int32) * hI (akH (aH h i (kW h 154) 0) i 7) o_m_kept 161)) o_m 20 (hI (wI (akH (aH h i (kW h 154) 0) i 7) o_m 19 ((400 : Int32) * hI (akH (aH h i (kW h 154) 0) i 7) o_m_kept 161)) o_m 19 + hI (wI (akH (aH h i (kW h 154) 0) i 7) o_m 19 ((400 : Int32) * hI (akH (aH h i (kW h 154) 0) i 7) o_m_kept 161)) o_m_kept ((162 : Int32) + hI (wI (akH (aH h i (kW h 154) 0) i 7) o_m 19 ((400 : Int32) * hI (akH (aH h i (kW h 154) 0) i 7) o_m_kept 161)) o_m_kept 161).toNatClampNeg) = _
        rw [e1, rd_same, rd_o (by decide), rd_o (by decide), show hI (akH (aH h i (kW h 154) 0) i 7) o_m_kept 161 = kW h 161 from hkK 7 161, hf, show (162 : Int32) = nI 162 from rfl, nI_add, nI_clamp (by omega), show hI (akH (aH h i (kW h 154) 0) i 7) o_m_kept (162 + f) = kW h (162 + f) from hkK 7 _, lt.1, nI_add]
  have loop : ∀ n k, n + k = 7 → ∀ l3 l4 l5 l6, E cx jX12_asksOf d 0 43 [some (.ref o_m), some (.int (nI i)), some (.int (nI k)), l3, l4, l5, l6] [] (akH (aH h i (kW h 154) 0) i k) (fun r g => r = none ∧ asR h i (needS (envW (kW h) i) (pLaw C V N).2.2 (kW h 154)) (bndA (envW (kW h) i) (pLaw C V N).2.2) g) := by
    intro n
    induction n with
    | zero =>
      intro k hk l3 l4 l5 l6
      obtain rfl : k = 7 := by omega
      exact eX12_asksOf (And.intro (fun _ => e69 _ _ _ _ _) (fun q => absurd (nI_le (a := 7) (b := 7) (Nat.le_refl _) (by decide)) q))
    | succ n ih =>
      intro k hk l3 l4 l5 l6
      have e1 : (1 : Int32) + nI k = nI (1 + k) := nI_add 1 k
      refine eX12_asksOf (And.intro (fun q => absurd q (nI_ge (a := k) (b := 7) (by omega) (by decide))) (fun _ => wcV (n_factOf rfl rfl hi (by omega)) (And.intro ?_ ?_)))
      · show vp_in ((1 : Int32) + nI k) 8
        rw [e1]; exact vp_in_nI (by omega) (by decide)
      · have := ih (k + 1) (by omega) l3 l4 l5 l6
        rw [nI_succ] at this
        refine e_eq this rfl rfl ?_
        show wI (akH (aH h i (kW h 154) 0) i k) o_m_asked ((1 : Int32) + nI k).toNatClampNeg (kW (akH (aH h i (kW h 154) 0) i k) (7 * i + k)) = wI (akH (aH h i (kW h 154) 0) i k) o_m_asked (1 + k) (kW (aH h i (kW h 154) 0) (7 * i + k))
        rw [e1, nI_clamp (by omega)]
        congr 1
        exact (hkK k _).trans (hkA _).symm
  refine sX12_asksOf rfl (And.intro (vp_in_nI (n := 154) (by decide) (by decide)) (And.intro vi (And.intro vi (And.intro (vp_in_nI (n := 161) (by decide) (by decide)) (And.intro (fun z => eX12_asksOf (And.intro (vp_in_nI (n := 0) (by decide) (by decide)) ?_)) (fun z => absurd z ?_))))))
  · refine e_eq (loop 7 0 rfl none none none none) rfl rfl ?_
    show wI (wI (wI h o_m_needs (nI i).toNatClampNeg (kW h 154)) o_m_bound (nI i).toNatClampNeg (vp_nar .boolean 0)) o_m_asked 0 (nI i) = _
    rw [hw0]; rfl
  · show ¬ hI (wI (wI h o_m_needs _ _) o_m_bound _ _) o_m_kept 161 = -1
    rw [rd_o (by decide), rd_o (by decide), show hI h o_m_kept 161 = nI f from hf]
    intro z
    have := congrArg Int32.toInt z
    rw [show nI f = Int32.ofNat f from rfl, show (Int32.ofNat f).toInt = (f : Int) from by rw [Int32.toInt_ofNat_of_lt (by omega)]] at this
    exact absurd this (by show (f : Int) ≠ -1; omega)
end T56
