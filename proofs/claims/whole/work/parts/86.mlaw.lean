/-! the model keeps a law -/
def lawP (w : Wd) (t N : Nat) (C V : Nat → Int32) (k : Nat) : Wd := fun i => if i = 162 + t then nI N else if 168 + 400 * t ≤ i ∧ i < 168 + 400 * t + k then C (i - (168 + 400 * t)) else if 2568 + 400 * t ≤ i ∧ i < 2568 + 400 * t + k then V (i - (2568 + 400 * t)) else w i
def lawW (w : Wd) (t N : Nat) (C V : Nat → Int32) : Wd := updW (lawP w t N C V N) 160 (nI (t + 1))
section T86
variable {cx : Cx} {d a : Nat} {h g f : Hp} {w : Wd}
theorem n_law_full (hd : 1 ≤ d) (z : kW h 160 = 6) : M cx jX12_law d 0 [.ref o_m] h (RQ (.int (-5)) (nrefH (wI h o_m 10 0) (-5) 5)) :=
  sX12_law rfl (And.intro (vp_in_nI (n := 160) (by decide) (by decide)) (And.intro (fun q1 => absurd z q1) (fun q1 => (wcV (n_refuses rfl (by decide)) ⟨rfl, rfl⟩))))
/-- what reading leaves -/
def rdH (h : Hp) (b : Nat → Int32) (n N : Nat) (G : Hp) : Prop := G.2 = h.2 ∧ (∀ o k, ¬ (112 ≤ o ∧ o ≤ 114) → ¬ (o = 104 ∧ (k = 10 ∨ k = 11 ∨ k = 15 ∨ k = 16 ∨ k = 17 ∨ k = 18)) → hI G o k = hI h o k) ∧ hI G o_m 10 = 0 ∧ hI G o_m 11 = lwB (tC b n) (tV b n) N (tkS b n) ∧ hI G o_m 15 = nI N ∧ N ≤ n ∧ tkS b n N = n ∧ (∀ t, t < N → tkS b n t < n) ∧ tokP G N (tC b n) (tV b n) (tkS b n)
theorem rdH_of {b : Nat → Int32} {n N : Nat} {g1 G : Hp} {r : Option Value} (kt : keepT h g1) (hN : N ≤ n) (tN : tkS b n N = n) (tl : ∀ t, t < N → tkS b n t < n) (e15 : hI g1 o_m 15 = nI N) (tk : tokP g1 N (tC b n) (tV b n) (tkS b n)) (z : rdQ (wI g1 o_m 10 0) (tC b n) (tV b n) N (tkS b n) r G) : r = some (.int (bI (pLaw (tC b n) (tV b n) N).1)) ∧ rdH h b n N G := by
  obtain ⟨e, t2, lv2, eG⟩ := z
  refine ⟨e, ?_⟩
  subst eG
  refine ⟨kt.1, fun o k n1 n2 => ?_, ?_, rd_same, ?_, hN, tN, tl, tk.1, fun k hk => ?_, tk.2.2⟩
  · by_cases ho : o = 104
    · subst ho
      have : k ≠ 10 ∧ k ≠ 11 ∧ k ≠ 15 ∧ k ≠ 16 ∧ k ≠ 17 ∧ k ≠ 18 := by omega
      rw [rd_k this.2.1, ps_k this.2.2.2.1 this.2.2.2.2.1 this.2.2.2.2.2, rd_k this.1]
      exact kt.2 _ _ n1 (fun z => this.2.2.1 z.2)
    · rw [rd_o ho, ps_o ho, rd_o ho]
      exact kt.2 _ _ n1 (fun z => ho z.1)
  · rw [rd_k (by decide), ps_k (by decide) (by decide) (by decide), rd_same]
  · rw [rd_k (by decide), ps_k (by decide) (by decide) (by decide), rd_k (by decide)]; exact e15
  · rw [rd_o (by decide), ps_o (by decide), rd_o (by decide), rd_o (by decide), ps_o (by decide), rd_o (by decide), rd_o (by decide), ps_o (by decide), rd_o (by decide)]
    exact tk.2.1 k hk
theorem rdH_W {b : Nat → Int32} {n N : Nat} {G : Hp} (q : rdH h b n N G) : kW G = kW h := funext fun k => q.2.1 _ k (by decide) (fun z => absurd z.1 (by decide))
theorem n_law (hd : 54 ≤ d) {b : Nat → Int32} {n t : Nat} (et : kW h 160 = nI t) (ht : t < 6) (hn : n ≤ 400) (e10 : hI h o_m 10 = nI n) (hb : isBy b) (tp : ∀ k, k < 400 → hI h o_m_tape k = sg (b k)) (wd : ∀ k, k < 64 → hI h o_m_words k = wdB.getD k 0) : M cx jX12_law d 0 [.ref o_m] h (fun r g => ∃ N G, rdH h b n N G ∧ (((pLaw (tC b n) (tV b n) N).1 = false ∧ r = some (.int (-6)) ∧ g = nrefH G (-6) 6) ∨ ((pLaw (tC b n) (tV b n) N).1 = true ∧ r = some (.int (nI t)) ∧ ∃ G', G'.2 = G.2 ∧ (∀ o k, o ≠ 106 → hI G' o k = hI G o k) ∧ kW G' = lawW (kW h) t N (tC b n) (tV b n) ∧ g = ngoodH G'))) := by
  have ne : ¬ kW h 160 = 6 := fun z => by rw [et] at z; have := (nI_eq (b := 6) (by omega) (by decide)).mp z; omega
  have rd := n_reads (cx := cx) (d := d - 1) (h := h) (by omega) hn e10 hb tp wd
  refine sX12_law rfl (And.intro (vp_in_nI (n := 160) (by decide) (by decide)) (And.intro (fun q1 => (eX12_law (wcQ rd (fun v G z => ?_) (fun v G z => ?_)))) (fun q1 => absurd q1 ne)))
  · obtain ⟨g1, N, kt, hN, tN, tl, e15, tk, z⟩ := z
    obtain ⟨rfl, rh⟩ := rdH_of kt hN tN tl e15 tk z
    have eW := rdH_W rh
    have h4 : N ≤ 400 := by omega
    obtain ⟨-, -, -, -, f15, -, -, -, -, toks, -⟩ := id rh
    generalize eC : tC b n = C at *
    generalize eV : tV b n = V at *
    have e160 : hI G (ly_rf o_m 3) (160 : Int32).toNatClampNeg = nI t := by show kW G 160 = _; rw [eW, et]
    refine And.intro (fun q2 => (eX12_law ?_)) (fun q2 => (wcV (n_refuses rfl (by decide)) ⟨N, G, rh, Or.inl ⟨bI_0.mp q2, rfl, rfl⟩⟩))
    have ok : (pLaw C V N).1 = true := bI_n.mp q2
    have v162 : vp_in ((162 : Int32) + nI t) 4968 := by rw [show (162 : Int32) = nI 162 from rfl, nI_add]; exact vp_in_nI (by omega) (by decide)
    have c162 : ((162 : Int32) + nI t).toNatClampNeg = 162 + t := by rw [show (162 : Int32) = nI 162 from rfl, nI_add, nI_clamp (by omega)]
    have loop : ∀ r k, r + k = N → ∀ g, g.2 = G.2 → (∀ o k, o ≠ 106 → hI g o k = hI G o k) → kW g = lawP (kW h) t N C V k → E cx jX12_law d 0 64 [some (.ref o_m), some (.int (nI t)), some (.int (nI k))] [] g (fun r g => ∃ N G, rdH h b n N G ∧ (((pLaw C V N).1 = false ∧ r = some (.int (-6)) ∧ g = nrefH G (-6) 6) ∨ ((pLaw C V N).1 = true ∧ r = some (.int (nI t)) ∧ ∃ G', G'.2 = G.2 ∧ (∀ o k, o ≠ 106 → hI G' o k = hI G o k) ∧ kW G' = lawW (kW h) t N C V ∧ g = ngoodH G'))) := by
      intro r
      induction r with
      | zero =>
        intro k hk g e2 eo ew
        obtain rfl : k = N := by omega
        have g15 : hI g o_m 15 = nI k := by rw [eo _ _ (by decide)]; exact f15
        have v160 : vp_in (160 : Int32) 4968 := vp_in_nI (n := 160) (by decide) (by decide)
        refine eX12_law (And.intro (fun _ => (eX12_law (And.intro v160 (And.intro v160 (wcV n_good ⟨k, G, rh, Or.inr ⟨ok, rfl, wI g o_m_kept 160 (hI g (ly_rf o_m 3) (160 : Int32).toNatClampNeg + 1), e2, fun o j no => (rd_o no).trans (eo o j no), ?_, rfl⟩⟩))))) (fun q => absurd (by rw [g15]; exact Int32.le_refl _) q))
        have e : hI g (ly_rf o_m 3) (160 : Int32).toNatClampNeg + 1 = nI (t + 1) := by
          show kW g 160 + 1 = _
          rw [ew]
          unfold lawP
          rw [if_neg (by omega), if_neg (by omega), if_neg (by omega), et, nI_succ]
        show kW (wI g o_m_kept 160 (hI g (ly_rf o_m 3) (160 : Int32).toNatClampNeg + 1)) = _
        rw [e, kW_w, ew]; rfl
      | succ r ih =>
        intro k hk g e2 eo ew
        have g15 : hI g o_m 15 = nI N := by rw [eo _ _ (by decide)]; exact f15
        have vk : vp_in (nI k) 401 := vp_in_nI (by omega) (by decide)
        have ck : (nI k).toNatClampNeg = k := nI_clamp (by omega)
        have i1 : (168 : Int32) + 400 * nI t + nI k = nI (168 + 400 * t + k) := by rw [show (168 : Int32) = nI 168 from rfl, show (400 : Int32) = nI 400 from rfl, pk_mul, nI_add, nI_add]
        have i2 : (2568 : Int32) + 400 * nI t + nI k = nI (2568 + 400 * t + k) := by rw [show (2568 : Int32) = nI 2568 from rfl, show (400 : Int32) = nI 400 from rfl, pk_mul, nI_add, nI_add]
        have v1 : vp_in ((168 : Int32) + 400 * nI t + nI k) 4968 := by rw [i1]; exact vp_in_nI (by omega) (by decide)
        have v2 : vp_in ((2568 : Int32) + 400 * nI t + nI k) 4968 := by rw [i2]; exact vp_in_nI (by omega) (by decide)
        have c1 : ((168 : Int32) + 400 * nI t + nI k).toNatClampNeg = 168 + 400 * t + k := by rw [i1, nI_clamp (by omega)]
        have c2 : ((2568 : Int32) + 400 * nI t + nI k).toNatClampNeg = 2568 + 400 * t + k := by rw [i2, nI_clamp (by omega)]
        have rc : hI g o_m_code k = C k := by rw [eo _ _ (by decide)]; exact (toks k (by omega)).1
        have rv : hI (wI g o_m_kept (168 + 400 * t + k) (C k)) o_m_value k = V k := by rw [rd_o (by decide), eo _ _ (by decide)]; exact (toks k (by omega)).2.1
        have i' := ih (k + 1) (by omega) (wI (wI g o_m_kept (168 + 400 * t + k) (C k)) o_m_kept (2568 + 400 * t + k) (V k)) e2 (fun o j no => by rw [rd_o no, rd_o no]; exact eo o j no) ?_
        · rw [nI_succ] at i'
          refine eX12_law (And.intro (fun q => absurd q (by rw [g15]; exact nI_ge (by omega) (by omega))) (fun _ => (And.intro vk (And.intro v1 (wp_hp (h := wI g (ly_rf o_m 3) ((168 : Int32) + 400 * nI t + nI k).toNatClampNeg (hI g (ly_rf o_m 12) (nI k).toNatClampNeg)) (g := wI g o_m_kept (168 + 400 * t + k) (C k)) (by rw [c1, ck]; exact congrArg (wI g o_m_kept (168 + 400 * t + k)) rc) (And.intro vk (And.intro v2 (e_eq i' rfl rfl ?_))))))))
          rw [c2, ck]; exact congrArg (wI (wI g o_m_kept (168 + 400 * t + k) (C k)) o_m_kept (2568 + 400 * t + k)) rv
        · rw [kW_w, kW_w, ew]
          funext i
          unfold updW lawP
          by_cases e1 : i = 2568 + 400 * t + k
          · rw [if_pos e1, if_neg (by omega), if_neg (by omega), if_pos (by omega)]; congr 1; omega
          · rw [if_neg e1]
            by_cases e2 : i = 168 + 400 * t + k
            · rw [if_pos e2, if_neg (by omega), if_pos (by omega)]; congr 1; omega
            · rw [if_neg e2]
              by_cases a1 : i = 162 + t
              · rw [if_pos a1, if_pos a1]
              · rw [if_neg a1, if_neg a1]
                by_cases a2 : 168 + 400 * t ≤ i ∧ i < 168 + 400 * t + k
                · rw [if_pos a2, if_pos (by omega)]
                · rw [if_neg a2, if_neg (show ¬ (168 + 400 * t ≤ i ∧ i < 168 + 400 * t + (k + 1)) by omega)]
                  by_cases a3 : 2568 + 400 * t ≤ i ∧ i < 2568 + 400 * t + k
                  · rw [if_pos a3, if_pos (show 2568 + 400 * t ≤ i ∧ i < 2568 + 400 * t + (k + 1) by omega)]
                  · rw [if_neg a3, if_neg (show ¬ (2568 + 400 * t ≤ i ∧ i < 2568 + 400 * t + (k + 1)) by omega)]
    refine And.intro (vp_in_nI (n := 160) (by decide) (by decide)) ?_
    have go : E cx jX12_law d 0 64 [some (.ref o_m), some (.int (nI t)), some (.int (nI 0))] [] (wI G o_m_kept (162 + t) (nI N)) _ := loop N 0 rfl _ rfl (fun o k no => rd_o no) (by
      rw [kW_w, eW]
      funext i
      unfold updW lawP
      by_cases a1 : i = 162 + t
      · rw [if_pos a1, if_pos a1]
      · rw [if_neg a1, if_neg a1, if_neg (by omega), if_neg (by omega)])
    have vE : vp_in ((162 : Int32) + hI G (ly_rf o_m 3) (160 : Int32).toNatClampNeg) 4968 := by rw [e160]; exact v162
    refine And.intro vE (e_eq go ?_ rfl ?_)
    · rw [e160]; rfl
    · rw [e160, c162, ← f15]; rfl
  · obtain ⟨g1, N, kt, -, -, -, -, -, e, t2, lv2, eG⟩ := z
    rw [eG]; exact congrArg (fun z => z.2.2.2) kt.1
end T86
