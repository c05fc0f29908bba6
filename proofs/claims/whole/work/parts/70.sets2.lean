/-! the model's tables, whole -/
def st1 (U : Int32 → Int32) (m : Nat) (g : Hp) : Prop := ∀ j, j < m → hI g o_m_lawful j = b2i (lwf U (nI j)) ∧ hI g o_m_fallTo j = fallA U (nI j) ∧ hI g o_m_wins j = b2i (winA U (nI j))
section T70
variable {cx : Cx} {d a c : Nat} {h g f : Hp} {w : Wd}
theorem e_setsAll {Q : Option Value → Hp → Prop} {n : Nat} {L : Option (List CS)} {G0 : Hp} (hd : 3 ≤ d) (en : w 157 = nI n) (hn : n ≤ 14) (eG0 : kW G0 = w) (lk0 : lkOk w L G0)
    (K : ∀ g l3 l4, keepS G0 g → st1 (aU w L) (2 ^ n) g → E cx jX12_sets d a 179 [some (.ref o_m), some (.int (nI (2 ^ n))), some (.int (nI (2 ^ n))), l3, l4] [] g Q) :
    ∀ r m, r + m = 2 ^ n → ∀ g l3 l4, keepS G0 g → st1 (aU w L) m g → E cx jX12_sets d a 33 [some (.ref o_m), some (.int (nI (2 ^ n))), some (.int (nI m)), l3, l4] [] g Q := by
  have h14 := pow14 hn
  intro r
  induction r with
  | zero =>
    intro m hm g l3 l4 ks s1
    obtain rfl : m = 2 ^ n := by omega
    exact eX12_sets (And.intro (fun _ => K g l3 l4 ks s1) (fun q => absurd (Int32.le_refl _) q))
  | succ r ih =>
    intro m hm g l3 l4 ks s1
    have vm : vp_in (nI m) 16384 := vp_in_nI (by omega) (by decide)
    have cm : (nI m).toNatClampNeg = m := nI_clamp (by omega)
    have lm : low n (nI m) := nI_low (by omega)
    have eg : kW g = w := (keepS_W ks).trans eG0
    have lo : M cx jX12_loose (d - 1) 0 [.ref o_m, .int (nI m)] g (RQ (.int (aU w L (nI m))) g) := n_looseU (by omega) (keepS_lk ks lk0) (items_low en hn lm)
    generalize eu : aU w L (nI m) = u at lo
    have j86 : ∀ v, v = fallA (aU w L) (nI m) → E cx jX12_sets d a 86 [some (.ref o_m), some (.int (nI (2 ^ n))), some (.int (nI m)), some (.int u), l4] [.int v, .int (nI m), .ref o_m_fallTo] (wI g o_m_lawful m (b2i (lwf (aU w L) (nI m)))) Q := fun v ev => by
      subst ev
      refine eX12_sets (And.intro vm (And.intro vm ?_))
      rw [cm]
      have kG : keepS G0 (wI (wI g o_m_lawful m (b2i (lwf (aU w L) (nI m)))) o_m_fallTo m (fallA (aU w L) (nI m))) := keepS_t ks (keepS_t (keepS_w (by decide)) (keepS_w (by decide)))
      refine e_eq (e_setsWin (U := aU w L) (l3 := u) (G := wI (wI g o_m_lawful m (b2i (lwf (aU w L) (nI m)))) o_m_fallTo m (fallA (aU w L) (nI m))) (by omega) en hn (by omega) ((keepS_W kG).trans eG0) (fun j hj => ?_) ?_ n 0 rfl) rfl rfl ?_
      · obtain ⟨s1, s2, s3⟩ := s1 j hj
        rw [rd_k (by omega), rd_k (by omega), rd_k (by omega), rd_k (by omega)]
        exact ⟨s1, s3⟩
      · have i := ih (m + 1) (by omega) (wI (wI (wI g o_m_lawful m (b2i (lwf (aU w L) (nI m)))) o_m_fallTo m (fallA (aU w L) (nI m))) o_m_wins m (b2i (winP (aU w L) (nI m) n))) (some (.int u)) (some (.int (nI n))) (keepS_t kG (keepS_w (by decide))) (fun j hj => ?_)
        · rw [nI_succ] at i
          exact eX12_sets i
        · by_cases e : j = m
          · subst e
            rw [rd_o (by decide), rd_o (by decide), rd_same, rd_o (by decide), rd_same, rd_same, b2i_cg (winP_n hn lm)]
            exact ⟨rfl, rfl, rfl⟩
          · obtain ⟨s1, s2, s3⟩ := s1 j (by omega)
            rw [rd_k e, rd_k e, rd_k e, rd_k e, rd_k e, rd_k e, rd_k e, rd_k e, rd_k e]
            exact ⟨s1, s2, s3⟩
      · rw [b2i_f winP_0]; rfl
    have j62 : ∀ v, v = b2i (lwf (aU w L) (nI m)) → E cx jX12_sets d a 62 [some (.ref o_m), some (.int (nI (2 ^ n))), some (.int (nI m)), some (.int u), l4] [.int v, .int (nI m), .ref o_m_lawful] g Q := fun v ev => by
      subst ev
      refine eX12_sets (And.intro vm ?_)
      rw [cm, nar_b2i]
      refine (And.intro (fun q1 => (eX12_sets ?_)) (fun q1 => (j86 _ ?_)))
      · obtain ⟨j, hj, ej⟩ := dif_nI (m := m) u
        have hne : j ≠ m := fun z => by
          have hd := sz_drop (U := aU w L) Uok_aU (s := nI m) (by rw [eu]; exact q1)
          rw [eu, show nI m &&& (u ^^^ -1) = nI j from ej, z] at hd; omega
        have vj : vp_in (dif (nI m) u) 16384 := by rw [ej]; exact vp_in_nI (by omega) (by decide)
        have cj : (dif (nI m) u).toNatClampNeg = j := by rw [ej, nI_clamp (by omega)]
        refine And.intro vj (j86 _ ?_)
        show hI (wI g o_m_lawful m (b2i (lwf (aU w L) (nI m)))) o_m_fallTo (dif (nI m) u).toNatClampNeg = _
        rw [cj, rd_o (by decide), (s1 j (by omega)).2.1, fall_step Uok_aU (s := nI m) (by rw [eu]; exact q1), eu, ej]
      · rw [fall_id (eu.trans q1)]
    refine eX12_sets (And.intro (fun q => absurd q (nI_ge (by omega) (by omega))) (fun _ => (wcV lo (And.intro (fun q2 => (eX12_sets (j62 0 (b2i_f (fun z => z.1 q2)).symm))) (fun q2 => (And.intro (fun q3 => (eX12_sets (j62 0 (b2i_f (fun z => q3 (eu.symm.trans z.2))).symm))) (fun q3 => (j62 1 (b2i_t ⟨q2, eu.trans q3⟩).symm))))))))
theorem e_setsDown {n : Nat} {L : Option (List CS)} {G0 : Hp} (hd : 3 ≤ d) (en : w 157 = nI n) (hn : n ≤ 14) (lT : low n (w 159)) (eG0 : kW G0 = w) :
    ∀ m, m ≤ 2 ^ n → ∀ g l3 l4, keepS G0 g → st1 (aU w L) (2 ^ n) g → (∀ j, m ≤ j → j < 2 ^ n → hI g o_m_comes j = b2i (comA (aU w L) (w 159) (nI j))) → E cx jX12_sets d a 183 [some (.ref o_m), some (.int (nI (2 ^ n))), some (.int (nI m + (-1))), l3, l4] [] g (fun r g => r = none ∧ keepS G0 g ∧ stOk w L g) := by
  have h14 := pow14 hn
  intro m
  induction m with
  | zero =>
    intro _ g l3 l4 ks s1 s2
    refine eX12_sets (And.intro (fun _ => (eX12_sets ⟨rfl, ks, ?_⟩)) (fun q => absurd (by decide) q))
    intro n' en' hn' j hj
    obtain rfl : n' = n := (nI_eq (by omega) (by omega)).mp (en'.symm.trans en)
    exact ⟨(s1 j hj).1, (s1 j hj).2.1, (s1 j hj).2.2, s2 j (by omega) hj⟩
  | succ m ih =>
    intro hm g l3 l4 ks s1 s2
    have vm : vp_in (nI m) 16384 := vp_in_nI (by omega) (by decide)
    have cm : (nI m).toNatClampNeg = m := nI_clamp (by omega)
    have eg : kW g = w := (keepS_W ks).trans eG0
    have eT : hI g (ly_rf o_m 3) (159 : Int32).toNatClampNeg = w 159 := by show kW g 159 = _; rw [eg]
    have j218 : ∀ v, v = b2i (comP (aU w L) (w 159) (nI m) 0) → E cx jX12_sets d a 218 [some (.ref o_m), some (.int (nI (2 ^ n))), some (.int (nI m)), l3, l4] [.int v, .int (nI m), .ref o_m_comes] g (fun r g => r = none ∧ keepS G0 g ∧ stOk w L g) := fun v ev => by
      subst ev
      refine eX12_sets (And.intro vm ?_)
      rw [cm, nar_b2i]
      refine e_setsCom (U := aU w L) (G := g) (by omega) en hn (by omega) eg (s1 m (by omega)).1 (fun j h1 h2 => s2 j (by omega) h2) ?_ n 0 rfl
      have i := ih (by omega) (wI g o_m_comes m (b2i (comP (aU w L) (w 159) (nI m) n))) (some (.int (nI n))) l4 (keepS_t ks (keepS_w (by decide))) (fun j hj => ?_) (fun j h1 h2 => ?_)
      · exact eX12_sets i
      · rw [rd_o (by decide), rd_o (by decide), rd_o (by decide)]; exact s1 j hj
      · by_cases e : j = m
        · subst e; rw [rd_same, b2i_cg (comP_n hn lT)]
        · rw [rd_k e]; exact s2 j (by omega) h2
    rw [pk_m1]
    refine eX12_sets (And.intro (fun q => absurd q (nI_pos (by omega))) (fun q1 => (And.intro v159 (And.intro (fun q2 => (eX12_sets (j218 0 (b2i_f ?_).symm))) (fun q2 => (And.intro vm (And.intro (fun q3 => (eX12_sets (j218 0 (b2i_f ?_).symm))) (fun q3 => (j218 1 (b2i_t ?_).symm)))))))))
    · rw [comP_0]; rw [eT] at q2; exact fun z => q2 z.1
    · have q3 : hI g o_m_lawful (nI m).toNatClampNeg = 0 := q3
      rw [cm, (s1 m (by omega)).1] at q3
      rw [comP_0]; exact fun z => b2i_0.mp q3 z.2
    · have q3 : ¬ hI g o_m_lawful (nI m).toNatClampNeg = 0 := q3
      rw [cm, (s1 m (by omega)).1] at q3
      rw [eT] at q2
      rw [comP_0]; exact ⟨q2, b2i_n q3⟩
/-- behind the tables -/
def setQ (c : Nat) (w : Wd) (h : Hp) : Option Value → Hp → Prop := fun r g => r = none ∧ keepM h g ∧ mC c w g ∧ lkOk w (lawOf w) g ∧ stOk w (lawOf w) g
theorem n_sets (hd : 62 ≤ d) {n : Nat} (eW : kW h = w) (wf : wfW w) (cc : mC c w h) (en : w 157 = nI n) (hn : n ≤ 14) (lT : low n (w 159)) : M cx jX12_sets d a [.ref o_m] h (setQ c w h) := by
  refine sX12_sets rfl (wcQ (n_looksC (by omega) eW wf cc) (fun v G z => ?_) (fun v G z => keepL_N z.2.1))
  obtain ⟨rfl, kL, cG, lk, e27⟩ := z
  have eG : kW G = w := (keepL_W kL).trans eW
  refine (And.intro (fun q1 => (eX12_sets (wcV (st_of en (by rw [← eG]; exact funext fun i => rd_o (by decide))) ?_))) (fun q1 => ⟨rfl, keepL_M kL, cG, lk, cG.2.2.2 q1⟩))
  generalize eg0 : wI G o_m 32 (hI G o_m 1) = G0
  have eG0 : kW G0 = w := by rw [← eG, ← eg0]; exact funext fun i => rd_o (by decide)
  have lk0 : lkOk w (lawOf w) G0 := lk_keep lk fun o k h1 h2 => by rw [← eg0]; exact rd_o (by show o ≠ 104; omega)
  have p2 : (1 : Int32) <<< (nI n &&& 31) = nI (2 ^ n) := one_nI (by omega)
  have fin : ∀ r g, (r = none ∧ keepS G0 g ∧ stOk w (lawOf w) g) → setQ c w h r g := fun r g ⟨z1, z2, z3⟩ => by
    have km : keepM G G0 := by rw [← eg0]; exact keepM_w (Or.inl ⟨rfl, by decide⟩)
    have f1 : ∀ k, hI g o_m k = hI G0 o_m k := fun k => z2.2 _ _ (by decide)
    have f0 : ∀ k, k ≠ 32 → hI G0 o_m k = hI G o_m k := fun k nk => by rw [← eg0]; exact rd_k nk
    have f32 : hI G0 o_m 32 = hI G o_m 1 := by rw [← eg0]; exact rd_same
    obtain ⟨c1, ⟨v, v1, v2, v3, v4⟩, c3, c4⟩ := cG
    refine ⟨z1, keepM_t (keepL_M kL) (keepM_t km (keepS_M z2)), ⟨by rw [f1, f0 21 (by decide)]; exact c1, ⟨v, v1, by rw [f1, f0 1 (by decide)]; exact v2, ?_, Or.inr ⟨v, Nat.le_refl _, by rw [f1, f32]; exact v2⟩⟩, fun _ => keepS_lk z2 lk0, fun _ => z3⟩, keepS_lk z2 lk0, z3⟩
    unfold vLe; rw [f1, f0 27 (by decide)]; exact v3
  have go : E cx jX12_sets d a 33 [some (.ref o_m), some (.int (nI (2 ^ n))), some (.int (nI 0)), none, none] [] G0 (setQ c w h) := by
    refine e_setsAll (by omega) en hn eG0 lk0 (fun g l3 l4 ks s1 => ?_) (2 ^ n) 0 rfl G0 none none keepS_r (fun j hj => absurd hj (Nat.not_lt_zero _))
    refine eX12_sets (E_mono (e_eq (e_setsDown (G0 := G0) (by omega) en hn lT eG0 (2 ^ n) (Nat.le_refl _) g l3 l4 ks s1 (fun j h1 h2 => absurd h2 (by omega))) ?_ rfl rfl) fin)
    rw [← Int32.sub_eq_add_neg]; rfl
  refine e_eq go ?_ rfl ?_
  · rw [← p2]; rfl
  · rw [← eg0]
end T70
