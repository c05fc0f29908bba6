/-! the model splits a text -/
def keepT (h g : Hp) : Prop := g.2 = h.2 ∧ ∀ o k, ¬ (112 ≤ o ∧ o ≤ 114) → ¬ (o = 104 ∧ k = 15) → hI g o k = hI h o k
def spT (b : Nat → Int32) (n t : Nat) (g : Hp) : Prop := ∀ j, j < t → hI g o_m_code j = tC b n j ∧ hI g o_m_value j = tV b n j ∧ hI g o_m_placed j = nI (tkS b n j) ∧ tkS b n j < n
section T84
variable {cx : Cx} {d a : Nat} {h g f : Hp} {b : Nat → Int32} {n : Nat}
theorem keepT_r : keepT h h := ⟨rfl, fun _ _ _ _ => rfl⟩
theorem keepT_t (p : keepT h g) (q : keepT g f) : keepT h f := ⟨q.1.trans p.1, fun o k n1 n2 => (q.2 o k n1 n2).trans (p.2 o k n1 n2)⟩
theorem keepT_w {o k : Nat} {v : Int32} (ho : 112 ≤ o ∧ o ≤ 114) : keepT h (wI h o k v) := ⟨rfl, fun p q n _ => rd_o (fun e => n (by rw [e]; exact ho))⟩
theorem keepT_15 {v : Int32} : keepT h (wI h o_m 15 v) := ⟨rfl, fun o k _ n2 => by rw [rd_any, if_neg n2]⟩
theorem run_all {p : Int32 → Prop} : ∀ f k, ∀ i, k ≤ i → i < run p b n f k → p (b i) := by
  intro f
  induction f with
  | zero => intro k i h1 h2; exact absurd h2 (by show ¬ i < k; omega)
  | succ f ih =>
    intro k i h1 h2
    by_cases y : k < n ∧ p (b k)
    · rw [run_yes y] at h2
      by_cases e : i = k
      · rw [e]; exact y.2
      · exact ih (k + 1) i (by omega) h2
    · rw [run_no y] at h2; omega
theorem ltr_sg (hb : isBy b) (k : Nat) : ltr (sg (b k)) ↔ ltr (b k) := sg_in (lo := 97) (hi := 122) (hb k) (by decide) (by decide) (by decide)
theorem dig_sg (hb : isBy b) (k : Nat) : dig (sg (b k)) ↔ dig (b k) := sg_in (lo := 48) (hi := 57) (hb k) (by decide) (by decide) (by decide)
theorem dig_sg2 (hb : isBy b) {k : Nat} (y : dig (b k)) : sg (b k) = b k := by
  obtain ⟨v, hv, e⟩ := hb k
  refine sg_can ⟨v, hv, e⟩ (Or.inr ?_)
  have y1 := Int32.le_iff_toInt_le.mp y.1
  have y2 := Int32.le_iff_toInt_le.mp y.2
  have e48 : (48 : Int32).toInt = 48 := rfl
  have e57 : (57 : Int32).toInt = 57 := rfl
  rw [Int32.le_iff_toInt_le, Int32.lt_iff_toInt_lt]
  have e0 : (0 : Int32).toInt = 0 := rfl
  have e128 : (128 : Int32).toInt = 128 := rfl
  omega
theorem ltr_dig {x : Int32} (y : ltr x) (z : dig x) : False := by
  have y1 := Int32.le_iff_toInt_le.mp y.1
  have z2 := Int32.le_iff_toInt_le.mp z.2
  have e97 : (97 : Int32).toInt = 97 := rfl
  have e57 : (57 : Int32).toInt = 57 := rfl
  omega
theorem e_spLet {Q : Option Value → Hp → Prop} {k : Nat} {x : Int32} {l5 : Option Value} (hn : n ≤ 400) (hb : isBy b) (tp : ∀ k, k < 400 → hI g o_m_tape k = sg (b k)) (hd : 1 ≤ d) :
    ∀ r to, r + to = n → to ≤ n → (E cx jX12_splits d a 68 [some (.ref o_m), some (.int (nI n)), some (.int (nI k)), some (.int x), some (.int (nI (run ltr b n 401 to))), l5] [] g Q) → E cx jX12_splits d a 43 [some (.ref o_m), some (.int (nI n)), some (.int (nI k)), some (.int x), some (.int (nI to)), l5] [] g Q := by
  intro r
  induction r with
  | zero =>
    intro to h1 h2 K
    obtain rfl : to = n := by omega
    rw [run_stop (fun z => absurd z.1 (Nat.lt_irrefl _))] at K
    exact eX12_splits (And.intro (fun _ => K) (fun q => absurd (Int32.le_refl _) q))
  | succ r ih =>
    intro to h1 h2 K
    have vt : vp_in (nI to) 400 := vp_in_nI (by omega) (by decide)
    have ct : hI g (ly_rf o_m 8) (nI to).toNatClampNeg = sg (b to) := by rw [nI_clamp (by omega)]; exact tp to (by omega)
    refine eX12_splits (And.intro (fun q => absurd q (nI_ge (by omega) (by omega))) (fun _ => And.intro vt (wcS n_isSmall (And.intro (fun q => ?_) (fun q => ?_)))))
    · have : ¬ ltr (b to) := fun z => b2i_0.mp q (by rw [ct]; exact (ltr_sg hb to).mpr z)
      rw [run_stop (fun z => this z.2)] at K
      exact K
    · have : ltr (b to) := (ltr_sg hb to).mp (by have := b2i_n q; rw [ct] at this; exact this)
      rw [run_step hn ⟨by omega, this⟩] at K
      have i := ih (to + 1) (by omega) (by omega) K
      rw [nI_succ] at i
      exact i
theorem e_spDig {Q : Option Value → Hp → Prop} {k : Nat} {x : Int32} {l5 : Option Value} (hn : n ≤ 400) (hb : isBy b) (tp : ∀ k, k < 400 → hI g o_m_tape k = sg (b k)) (hd : 1 ≤ d) :
    ∀ r to, r + to = n → to ≤ n → (E cx jX12_splits d a 100 [some (.ref o_m), some (.int (nI n)), some (.int (nI k)), some (.int x), some (.int (nI (run dig b n 401 to))), l5] [] g Q) → E cx jX12_splits d a 75 [some (.ref o_m), some (.int (nI n)), some (.int (nI k)), some (.int x), some (.int (nI to)), l5] [] g Q := by
  intro r
  induction r with
  | zero =>
    intro to h1 h2 K
    obtain rfl : to = n := by omega
    rw [run_stop (fun z => absurd z.1 (Nat.lt_irrefl _))] at K
    exact eX12_splits (And.intro (fun _ => K) (fun q => absurd (Int32.le_refl _) q))
  | succ r ih =>
    intro to h1 h2 K
    have vt : vp_in (nI to) 400 := vp_in_nI (by omega) (by decide)
    have ct : hI g (ly_rf o_m 8) (nI to).toNatClampNeg = sg (b to) := by rw [nI_clamp (by omega)]; exact tp to (by omega)
    refine eX12_splits (And.intro (fun q => absurd q (nI_ge (by omega) (by omega))) (fun _ => And.intro vt (wcS n_isDigit (And.intro (fun q => ?_) (fun q => ?_)))))
    · have : ¬ dig (b to) := fun z => b2i_0.mp q (by rw [ct]; exact (dig_sg hb to).mpr z)
      rw [run_stop (fun z => this z.2)] at K
      exact K
    · have : dig (b to) := (dig_sg hb to).mp (by have := b2i_n q; rw [ct] at this; exact this)
      rw [run_step hn ⟨by omega, this⟩] at K
      have i := ih (to + 1) (by omega) (by omega) K
      rw [nI_succ] at i
      exact i
theorem vlF_s {k i : Nat} : vlF b k (i + 1) = if vlF b k i ≤ 1000000 then 10 * vlF b k i + b (k + i) - 48 else vlF b k i := rfl
/-- the number's digits -/
theorem e_spVal {Q : Option Value → Hp → Prop} {k e t : Nat} {G : Hp} (hd : 1 ≤ d) (hb : isBy b) (he : e ≤ 400) (ht : t ≤ 400) (tp : ∀ k, k < 400 → hI G o_m_tape k = sg (b k)) (e15 : hI G o_m 15 = nI t) (hk : k < e) (dg : dig (b k) → ∀ i, k ≤ i → i < e → dig (b i))
    (K : ∀ l5, E cx jX12_splits d a 247 [some (.ref o_m), some (.int (nI n)), some (.int (nI k)), some (.int (sg (b k))), some (.int (nI e)), l5] [] (wI G o_m_value t (vlT b k e)) Q) :
    E cx jX12_splits d a 169 [some (.ref o_m), some (.int (nI n)), some (.int (nI k)), some (.int (sg (b k))), some (.int (nI e)), some (.int (nI k))] [] (wI G o_m_value t 0) Q := by
  have vt : ∀ v, vp_in (hI (wI G o_m_value t v) o_m 15) 401 := fun v => by rw [rd_o (by decide), e15]; exact vp_in_nI (by omega) (by decide)
  have ct : ∀ v, (hI (wI G o_m_value t v) o_m 15).toNatClampNeg = t := fun v => by rw [rd_o (by decide), e15, nI_clamp (by omega)]
  by_cases dk : dig (b k)
  · have K := K
    unfold vlT at K
    rw [if_pos dk] at K
    have loop : ∀ r i, r + i = e - k → E cx jX12_splits d a 169 [some (.ref o_m), some (.int (nI n)), some (.int (nI k)), some (.int (sg (b k))), some (.int (nI e)), some (.int (nI (k + i)))] [] (wI G o_m_value t (vlF b k i)) Q := by
      intro r
      induction r with
      | zero =>
        intro i hi
        obtain rfl : i = e - k := by omega
        rw [show k + (e - k) = e by omega]
        exact eX12_splits (And.intro (fun _ => K _) (fun q => absurd (Int32.le_refl _) q))
      | succ r ih =>
        intro i hi
        have i' := ih (i + 1) (by omega)
        rw [← Nat.add_assoc, nI_succ, vlF_s] at i'
        have own : hI (wI G o_m_value t (vlF b k i)) (ly_rf o_m 13) (hI (wI G o_m_value t (vlF b k i)) o_m 15).toNatClampNeg = vlF b k i := by rw [ct]; exact rd_same
        have tpi : hI (wI G o_m_value t (vlF b k i)) (ly_rf o_m 8) (nI (k + i)).toNatClampNeg = b (k + i) := by
          rw [nI_clamp (by omega)]
          show hI (wI G o_m_value t (vlF b k i)) o_m_tape (k + i) = _
          rw [rd_o (by decide), tp _ (by omega), dig_sg2 hb (dg dk _ (by omega) (by omega))]
        have vti : vp_in (nI (k + i)) 400 := vp_in_nI (by omega) (by decide)
        have j240 : ∀ v, v = (if vlF b k i ≤ 1000000 then 10 * vlF b k i + b (k + i) - 48 else vlF b k i) → E cx jX12_splits d a 240 [some (.ref o_m), some (.int (nI n)), some (.int (nI k)), some (.int (sg (b k))), some (.int (nI e)), some (.int (nI (k + i)))] [.int v, .int (hI (wI G o_m_value t (vlF b k i)) o_m 15), .ref o_m_value] (wI G o_m_value t (vlF b k i)) Q := fun v ev => by
          subst ev
          refine eX12_splits (And.intro (vt _) (e_eq i' rfl rfl ?_))
          rw [ct, wI_wI]
        refine eX12_splits (And.intro (fun q => absurd q (nI_ge (by omega) (by omega))) (fun _ => (wcS n_isDigit (And.intro (fun q => absurd ((dig_sg hb k).mpr dk) (b2i_0.mp q)) (fun _ => ?_)))))
        refine And.intro (vt _) (And.intro (fun q => (eX12_splits (And.intro (vt _) (And.intro vti (j240 _ ?_))))) (fun q => (And.intro (vt _) (j240 _ ?_))))
        · rw [own] at q ⊢
          rw [if_pos q, tpi]
        · rw [own] at q ⊢
          rw [if_neg q]
    exact loop (e - k) 0 rfl
  · have K := K
    unfold vlT at K
    rw [if_neg dk] at K
    exact eX12_splits (And.intro (fun q => absurd q (nI_ge (by omega) (by omega))) (fun _ => (wcS n_isDigit (And.intro (fun q => K _) (fun q => absurd ((dig_sg hb k).mp (b2i_n q)) dk)))))
theorem n_splits (hd : 2 ≤ d) (hn : n ≤ 400) (hb : isBy b) (tp : ∀ k, k < 400 → hI h o_m_tape k = sg (b k)) (wd : ∀ k, k < 64 → hI h o_m_words k = wdB.getD k 0) : M cx jX12_splits d a [.ref o_m, .int (nI n)] h (fun r g => r = none ∧ keepT h g ∧ ∃ N, N ≤ n ∧ tkS b n N = n ∧ (∀ t, t < N → tkS b n t < n) ∧ hI g o_m 15 = nI N ∧ tokP g N (tC b n) (tV b n) (tkS b n)) := by
  have loop : ∀ r k, r + k = n → ∀ t l3 l4 l5 g, t ≤ k → keepT h g → hI g o_m 15 = nI t → spT b n t g → run blk b n 401 k = tkS b n t → E cx jX12_splits d a 7 [some (.ref o_m), some (.int (nI n)), some (.int (nI k)), l3, l4, l5] [] g (fun r g => r = none ∧ keepT h g ∧ ∃ N, N ≤ n ∧ tkS b n N = n ∧ (∀ t, t < N → tkS b n t < n) ∧ hI g o_m 15 = nI N ∧ tokP g N (tC b n) (tV b n) (tkS b n)) := by
    intro r
    induction r using Nat.strongRecOn with
    | ind r ih =>
      intro k hk t l3 l4 l5 g htk kt e15 sp rb
      have tpg : ∀ k, k < 400 → hI g o_m_tape k = sg (b k) := fun k hk => by rw [kt.2 _ _ (by decide) (fun z => absurd z.1 (by decide))]; exact tp k hk
      have wdg : ∀ k, k < 64 → hI g o_m_words k = wdB.getD k 0 := fun k hk => by rw [kt.2 _ _ (by decide) (fun z => absurd z.1 (by decide))]; exact wd k hk
      have vt : vp_in (nI t) 401 := vp_in_nI (by omega) (by decide)
      have ct : (nI t).toNatClampNeg = t := nI_clamp (by omega)
      by_cases kn : k = n
      · subst kn
        rw [run_stop (fun z => absurd z.1 (Nat.lt_irrefl _))] at rb
        have v15 : ∀ g', hI g' o_m 15 = nI t → vp_in (hI g' o_m 15) 401 := fun g' e => by rw [e]; exact vt
        have q0 : hI (wI g o_m_placed t (nI k)) o_m 15 = nI t := by rw [rd_o (by decide)]; exact e15
        have q1 : hI (wI (wI g o_m_placed t (nI k)) o_m_code t 0) o_m 15 = nI t := by rw [rd_o (by decide)]; exact q0
        have fin : ∀ g', g' = wI (wI (wI g o_m_placed t (nI k)) o_m_code t 0) o_m_value t 0 → keepT h g' ∧ ∃ N, N ≤ k ∧ tkS b k N = k ∧ (∀ t, t < N → tkS b k t < k) ∧ hI g' o_m 15 = nI N ∧ tokP g' N (tC b k) (tV b k) (tkS b k) := fun g' eg => by
          subst eg
          refine ⟨keepT_t kt (keepT_t (keepT_w (by decide)) (keepT_t (keepT_w (by decide)) (keepT_w (by decide)))), t, htk, rb.symm, fun j hj => (sp j hj).2.2.2, by rw [rd_o (by decide)]; exact q1, by omega, fun j hj => ?_, fun j hj => ?_, fun j => by have := tkS_le (b := b) (n := k) j; omega⟩
          · by_cases ej : j = t
            · subst ej
              have eC : tC b k j = 0 := if_neg (by omega)
              have eV : tV b k j = 0 := if_neg (by omega)
              rw [rd_o (by decide), rd_same, rd_same, rd_o (by decide), rd_o (by decide), rd_same, eC, eV, ← rb]
              exact ⟨rfl, rfl, rfl⟩
            · obtain ⟨s1, s2, s3, s4⟩ := sp j (by omega)
              rw [rd_k ej, rd_k ej, rd_k ej, rd_k ej, rd_k ej, rd_k ej, rd_k ej, rd_k ej, rd_k ej]
              exact ⟨s1, s2, s3⟩
          · have : tkS b k j = k := by
              have := tkS_end (b := b) (n := k) (t := t) rb.symm (j - t)
              rw [show t + (j - t) = j by omega] at this; exact this
            exact if_neg (by omega)
        refine eX12_splits (And.intro (fun _ => (eX12_splits (And.intro (v15 _ e15) (wp_hp (h := wI g (ly_rf o_m 14) (hI g o_m 15).toNatClampNeg (nI k)) (g := wI g o_m_placed t (nI k)) (by rw [e15, ct]; rfl) ?_)))) (fun q => absurd (Int32.le_refl _) q))
        refine And.intro (v15 _ q0) (wp_hp (h := wI (wI g o_m_placed t (nI k)) (ly_rf o_m 12) (hI (wI g o_m_placed t (nI k)) o_m 15).toNatClampNeg 0) (g := wI (wI g o_m_placed t (nI k)) o_m_code t 0) (by rw [q0, ct]; rfl) ?_)
        refine And.intro (v15 _ q1) ⟨rfl, fin _ ?_⟩
        rw [q1, ct]; rfl
      · have kn : k < n := by have := hk; omega
        have vk : vp_in (nI k) 400 := vp_in_nI (by omega) (by decide)
        have ck : hI g (ly_rf o_m 8) (nI k).toNatClampNeg = sg (b k) := by rw [nI_clamp (by omega)]; exact tpg k (by omega)
        obtain ⟨v, hv, ev⟩ := hb k
        refine eX12_splits (And.intro (fun q => absurd q (nI_ge (by omega) (by omega))) (fun _ => And.intro vk (And.intro (fun q1 => (eX12_splits ?_)) (fun q1 => ?_))))
        · have nb : ¬ b k = 32 := fun z => q1 (by rw [ck, z]; decide)
          rw [run_stop (fun z => nb z.2)] at rb
          have te := tend_le (b := b) kn
          have eE : tkE b n (tkS b n t) = tend b n k := by rw [← rb]; exact if_pos kn
          have tSlt : tkS b n t < n := by omega
          -- behind the token's end
          have body : ∀ l5, E cx jX12_splits d a 100 [some (.ref o_m), some (.int (nI n)), some (.int (nI k)), some (.int (sg (b k))), some (.int (nI (tend b n k))), l5] [] g (fun r g => r = none ∧ keepT h g ∧ ∃ N, N ≤ n ∧ tkS b n N = n ∧ (∀ t, t < N → tkS b n t < n) ∧ hI g o_m 15 = nI N ∧ tokP g N (tC b n) (tV b n) (tkS b n)) := fun l5 => by
            have v15 : ∀ g', hI g' o_m 15 = nI t → vp_in (hI g' o_m 15) 401 := fun g' e => by rw [e]; exact vt
            have q0 : hI (wI g o_m_placed t (nI k)) o_m 15 = nI t := by rw [rd_o (by decide)]; exact e15
            have q1 : hI (wI (wI g o_m_placed t (nI k)) o_m_value t 0) o_m 15 = nI t := by rw [rd_o (by decide)]; exact q0
            generalize eg1 : wI (wI g o_m_placed t (nI k)) o_m_value t 0 = g1 at q1
            have kt1 : keepT h g1 := by rw [← eg1]; exact keepT_t kt (keepT_t (keepT_w (by decide)) (keepT_w (by decide)))
            have tp1 : ∀ k, k < 400 → hI g1 o_m_tape k = sg (b k) := fun k hk => by rw [kt1.2 _ _ (by decide) (fun z => absurd z.1 (by decide))]; exact tp k hk
            have wd1 : ∀ k, k < 64 → hI g1 o_m_words k = wdB.getD k 0 := fun k hk => by rw [kt1.2 _ _ (by decide) (fun z => absurd z.1 (by decide))]; exact wd k hk
            have j165 : ∀ c l5, c = cdT b k (tend b n k) → E cx jX12_splits d a 165 [some (.ref o_m), some (.int (nI n)), some (.int (nI k)), some (.int (sg (b k))), some (.int (nI (tend b n k))), l5] [.int c, .int (nI t), .ref o_m_code] g1 (fun r g => r = none ∧ keepT h g ∧ ∃ N, N ≤ n ∧ tkS b n N = n ∧ (∀ t, t < N → tkS b n t < n) ∧ hI g o_m 15 = nI N ∧ tokP g N (tC b n) (tV b n) (tkS b n)) := fun c l5 ec => by
              subst ec
              generalize eG : wI (wI g o_m_placed t (nI k)) o_m_code t (cdT b k (tend b n k)) = G
              have sw : wI g1 o_m_code t (cdT b k (tend b n k)) = wI G o_m_value t 0 := by rw [← eg1, ← eG]; exact wI_commO (by decide)
              have kG : keepT h G := by rw [← eG]; exact keepT_t kt (keepT_t (keepT_w (by decide)) (keepT_w (by decide)))
              have G15 : hI G o_m 15 = nI t := by rw [← eG, rd_o (by decide)]; exact q0
              have tpG : ∀ k, k < 400 → hI G o_m_tape k = sg (b k) := fun k hk => by rw [kG.2 _ _ (by decide) (fun z => absurd z.1 (by decide))]; exact tp k hk
              refine eX12_splits (And.intro vt (wp_hp (h := wI g1 o_m_code (nI t).toNatClampNeg (cdT b k (tend b n k))) (g := wI G o_m_value t 0) (by rw [ct]; exact sw) ?_))
              refine e_spVal (by omega) hb (by omega) (by omega) tpG G15 te.1 (fun dk i h1 h2 => ?_) (fun l5 => ?_)
              · by_cases ei : i = k
                · rw [ei]; exact dk
                · unfold tend at h2
                  rw [if_neg (fun z => ltr_dig z dk), if_pos dk] at h2
                  exact run_all 401 (k + 1) i (by omega) h2
              · have q15 : hI (wI G o_m_value t (vlT b k (tend b n k))) o_m 15 = nI t := by rw [rd_o (by decide)]; exact G15
                refine eX12_splits (wp_hp (h := wI (wI G o_m_value t (vlT b k (tend b n k))) o_m 15 (hI (wI G o_m_value t (vlT b k (tend b n k))) o_m 15 + 1)) (g := wI (wI G o_m_value t (vlT b k (tend b n k))) o_m 15 (nI (t + 1))) (by rw [q15, nI_succ]) ?_)
                refine ih (n - tend b n k) (by omega) (tend b n k) (by omega) (t + 1) _ _ l5 _ (by omega) (keepT_t kG (keepT_t (keepT_w (by decide)) keepT_15)) rd_same (fun j hj => ?_) ?_
                · by_cases ej : j = t
                  · subst ej
                    have eC : tC b n j = cdT b k (tend b n k) := by unfold tC; rw [if_pos tSlt, eE, ← rb]
                    have eV : tV b n j = vlT b k (tend b n k) := by unfold tV; rw [if_pos tSlt, eE, ← rb]
                    rw [rd_o (by decide), rd_o (by decide), rd_o (by decide), rd_same, rd_o (by decide), rd_o (by decide), ← eG, rd_same, rd_o (by decide), rd_same, eC, eV, ← rb]
                    exact ⟨rfl, rfl, rfl, kn⟩
                  · obtain ⟨s1, s2, s3, s4⟩ := sp j (by omega)
                    rw [rd_o (by decide), rd_o (by decide), rd_o (by decide), rd_k ej, rd_o (by decide), rd_o (by decide), ← eG, rd_k ej, rd_k ej, rd_k ej, rd_k ej, rd_k ej, rd_k ej]
                    exact ⟨s1, s2, s3, s4⟩
                · rw [← eE]; rfl
            refine eX12_splits (And.intro (v15 _ e15) (wp_hp (h := wI g (ly_rf o_m 14) (hI g o_m 15).toNatClampNeg (nI k)) (g := wI g o_m_placed t (nI k)) (by rw [e15, ct]; rfl) ?_))
            refine And.intro (v15 _ q0) (wp_hp (h := wI (wI g o_m_placed t (nI k)) (ly_rf o_m 13) (hI (wI g o_m_placed t (nI k)) o_m 15).toNatClampNeg 0) (g := g1) (by rw [q0, ct, ← eg1]; rfl) ?_)
            have wo := n_wordOf (cx := cx) (d := d - 1) (a := 0) (h := g1) (k := k) (e := tend b n k) te.1 (by omega) hb tp1 wd1
            have j165' : ∀ c l5, c = cdT b k (tend b n k) → E cx jX12_splits d a 165 [some (.ref o_m), some (.int (nI n)), some (.int (nI k)), some (.int (sg (b k))), some (.int (nI (tend b n k))), l5] [.int c, .int (hI g1 o_m 15), .ref o_m_code] g1 (fun r g => r = none ∧ keepT h g ∧ ∃ N, N ≤ n ∧ tkS b n N = n ∧ (∀ t, t < N → tkS b n t < n) ∧ hI g o_m 15 = nI N ∧ tokP g N (tC b n) (tV b n) (tkS b n)) := by rw [q1]; exact j165
            refine wcS n_isSmall (And.intro (fun z1 => (eX12_splits (wcS n_isDigit (And.intro (fun z2 => (eX12_splits (j165' _ _ ?_))) (fun z2 => (j165' _ _ ?_)))))) (fun z1 => (wcV wo (j165' _ _ ?_))))
            · have y1 : ¬ ltr (b k) := fun z => b2i_0.mp z1 ((ltr_sg hb k).mpr z)
              have y2 : ¬ dig (b k) := fun z => b2i_0.mp z2 ((dig_sg hb k).mpr z)
              unfold cdT; rw [if_neg y1, if_neg y2, ev, sg_255 v hv]
            · have y1 : ¬ ltr (b k) := fun z => b2i_0.mp z1 ((ltr_sg hb k).mpr z)
              unfold cdT; rw [if_neg y1, if_pos ((dig_sg hb k).mp (b2i_n z2))]
            · unfold cdT; rw [if_pos ((ltr_sg hb k).mp (b2i_n z1))]
          rw [ck]
          have e68 : ∀ to l5, (ltr (b k) → to = tend b n k) → (¬ ltr (b k) → to = k + 1) → E cx jX12_splits d a 68 [some (.ref o_m), some (.int (nI n)), some (.int (nI k)), some (.int (sg (b k))), some (.int (nI to)), l5] [] g (fun r g => r = none ∧ keepT h g ∧ ∃ N, N ≤ n ∧ tkS b n N = n ∧ (∀ t, t < N → tkS b n t < n) ∧ hI g o_m 15 = nI N ∧ tokP g N (tC b n) (tV b n) (tkS b n)) := fun to l5 h1 h2 => by
            refine eX12_splits (wcS n_isDigit (And.intro (fun z => ?_) (fun z => ?_)))
            · have y2 : ¬ dig (b k) := fun y => b2i_0.mp z ((dig_sg hb k).mpr y)
              by_cases y1 : ltr (b k)
              · rw [h1 y1]; exact body l5
              · have et : to = tend b n k := by rw [h2 y1]; unfold tend; rw [if_neg y1, if_neg y2]
                rw [et]; exact body l5
            · have y2 : dig (b k) := (dig_sg hb k).mp (b2i_n z)
              have y1 : ¬ ltr (b k) := fun y => ltr_dig y y2
              rw [h2 y1]
              have et : tend b n k = run dig b n 401 (k + 1) := by unfold tend; rw [if_neg y1, if_pos y2]
              refine e_spDig hn hb tpg (by omega) (n - (k + 1)) (k + 1) (by omega) (by omega) ?_
              rw [← et]; exact body l5
          have n1 : nI k + 1 = nI (k + 1) := (nI_succ k).symm
          refine wcS n_isSmall (And.intro (fun z => e_eq (e68 (k + 1) l5 (fun y => absurd ((ltr_sg hb k).mpr y) (b2i_0.mp z)) (fun _ => rfl)) (by rw [n1]; rfl) rfl rfl) (fun z => ?_))
          have y1 : ltr (b k) := (ltr_sg hb k).mp (b2i_n z)
          have et : tend b n k = run ltr b n 401 (k + 1) := by unfold tend; rw [if_pos y1]
          refine e_eq (e_spLet (l5 := l5) hn hb tpg (by omega) (n - (k + 1)) (k + 1) (by omega) (by omega) ?_) (by rw [n1]; rfl) rfl rfl
          rw [← et]
          exact e68 (tend b n k) l5 (fun _ => rfl) (fun y => absurd y1 y)
        · have yb : b k = 32 := (sg_eq (v := 32) ⟨v, hv, ev⟩ (by decide)).mp (ck.symm.trans q1)
          have i := ih (r - 1) (by omega) (k + 1) (by omega) t (some (.int (sg (b k)))) l4 l5 g (by omega) kt e15 sp (by rw [← rb]; exact (run_step hn ⟨kn, yb⟩).symm)
          rw [nI_succ, ← ck] at i
          exact i
  have k0 : keepT h (wI h o_m 15 0) := keepT_15
  exact sX12_splits rfl (loop n 0 rfl 0 none none none _ (Nat.le_refl _) k0 rd_same (fun j hj => absurd hj (Nat.not_lt_zero _)) rfl)
end T84
