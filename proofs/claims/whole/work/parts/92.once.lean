/-! at once, felling, mending, game: contracts in the state's words -/
def keepTh (h g : Hp) : Prop := (∀ o k, ¬ (91 ≤ o ∧ o ≤ 100) → hI g o k = hI h o k) ∧ g.2.2 = h.2.2 ∧ ∀ o k, o ≠ 93 → o ≠ 95 → hJ g o k = hJ h o k
section T92
variable {cx : Cx} {d a c : Nat} {h g f : Hp} {w : Wd} {n s t : Nat}
theorem keepTh_N (p : keepTh h g) : hN g = hN h := congrArg (fun z => z.2.2) p.2.1
theorem keepTh_t (p : keepTh h g) (q : keepTh g f) : keepTh h f := ⟨fun o k n => (q.1 o k n).trans (p.1 o k n), q.2.1.trans p.2.1, fun o k n1 n2 => (q.2.2 o k n1 n2).trans (p.2.2 o k n1 n2)⟩
theorem th_of {U : Int32 → Int32} {sp : Nat} {K : Int32} (q : thOk w U n sp h) (eK : hI g o_thieves 13 = hI h o_thieves 13 ||| K) (l1 : kb g 1 → lwX U (w 159) g)
    (l2 : (K &&& 2 = 0 ∧ ∀ k, hI g o_onceFound k = hI h o_onceFound k) ∨ moX w n (tmF w n (tkPr w U false) (2 ^ n)) o_onceFound g)
    (l4 : (K &&& 4 = 0 ∧ (∀ k, hI g o_stepsFound k = hI h o_stepsFound k) ∧ hI g o_thieves 9 = hI h o_thieves 9 ∧ ∀ k, hI g o_th_steps k = hI h o_th_steps k) ∨ (moX w n (tmF w n (tkPr w U true) (2 ^ n)) o_stepsFound g ∧ orX U (w 159) (tmF w n (tkPr w U true) (2 ^ n)).1 g))
    (l8 : (K &&& 8 = 0 ∧ ∀ k, hI g o_fellingFound k = hI h o_fellingFound k) ∨ feX (fewF (flP w U) (2 ^ n)) o_fellingFound g)
    (l16 : (K &&& 16 = 0 ∧ ∀ k, hI g o_mendingFound k = hI h o_mendingFound k) ∨ feX (fewF (mdP w U) (2 ^ sp)) o_mendingFound g)
    (l32 : (K &&& 32 = 0 ∧ hI g o_thieves 10 = hI h o_thieves 10 ∧ hI g o_thieves 11 = hI h o_thieves 11) ∨ gaX U (w 159) n g) : thOk w U n sp g := by
  obtain ⟨q1, q2, q4, q8, q16, q32⟩ := q
  refine ⟨l1, fun z => ?_, fun z => ?_, fun z => ?_, fun z => ?_, fun z => ?_⟩
  · rcases l2 with ⟨k0, e⟩ | y
    · exact moX_c (q2 (((kb_or eK).mp z).resolve_right fun y => y k0)) e
    · exact y
  · rcases l4 with ⟨k0, e, e2, e3⟩ | y
    · have := q4 (((kb_or eK).mp z).resolve_right fun y => y k0)
      exact ⟨moX_c this.1 e, orX_c this.2 e2 e3⟩
    · exact y
  · rcases l8 with ⟨k0, e⟩ | y
    · exact feX_c (q8 (((kb_or eK).mp z).resolve_right fun y => y k0)) e
    · exact y
  · rcases l16 with ⟨k0, e⟩ | y
    · exact feX_c (q16 (((kb_or eK).mp z).resolve_right fun y => y k0)) e
    · exact y
  · rcases l32 with ⟨k0, e, e2⟩ | y
    · exact gaX_c (q32 (((kb_or eK).mp z).resolve_right fun y => y k0)) e e2
    · exact y
theorem knw_o {K : Int32} {o q : Nat} (ne : o ≠ 91) : hI (knw h K) o q = hI h o q := knw_I (Or.inl ne)
theorem knw_k {K : Int32} {o q : Nat} (ne : q ≠ 13) : hI (knw h K) o q = hI h o q := knw_I (Or.inr ne)
theorem knw_13 {K : Int32} : hI (knw h K) o_thieves 13 = hI h o_thieves 13 ||| K := rd_same
theorem wX_knw {K : Int32} (q : wX w n s t h) : wX w n s t (knw h K) := wX_c q fun o k no => knw_o (by omega)
theorem lw_knw {K : Int32} {U : Int32 → Int32} {T : Int32} (e : K &&& 1 = 0) (q : kb h 1 → lwX U T h) : kb (knw h K) 1 → lwX U T (knw h K) := fun z => lwX_c (q (((kb_or knw_13).mp z).resolve_right fun y => y e)) (knw_k (by decide)) (fun _ => rfl)
/-- behind a search for lawful sets, marked with K -/
theorem fl_knw {K : Int32} (e : K &&& 1 = 0) (q : wX w n s t h) (k1 : kb h 1 → lwX (aU w (lawOf w)) (w 159) h) : wX w n s t (flA (knw h K)) ∧ lwX (aU w (lawOf w)) (w 159) (flA (knw h K)) ∧ (∀ k, k ≠ 12 → k ≠ 13 → hI (flA (knw h K)) o_thieves k = hI h o_thieves k) ∧ hI (flA (knw h K)) o_thieves 13 = hI h o_thieves 13 ||| (K ||| 1) ∧ keepTh h (flA (knw h K)) ∧ (∀ o k, o ≠ 91 → hI (flA (knw h K)) o k = hI h o k) := by
  obtain ⟨f1, f2, f3, f4⟩ := fl_ok (wX_knw (K := K) q) (lw_knw e k1)
  have i0 : ∀ o k, o ≠ 91 → hI (flA (knw h K)) o k = hI h o k := fun o k no => by rw [flA_I no]; exact knw_o no
  refine ⟨wX_c q fun o k no => i0 o k (by omega), f1, fun k n1 n2 => (f2 k n1 n2).trans (knw_k n2), ?_, ⟨fun o k no => i0 o k (by omega), by rw [flA_2]; rfl, fun o k n1 _ => f4 o k n1⟩, i0⟩
  rw [f3, knw_13]
  apply b_ext; intro i hi
  rw [b_or, b_or, b_or, b_or]
  cases bt (hI h o_thieves 13) i <;> cases bt K i <;> cases bt 1 i <;> rfl
theorem x_atOnce (hd : 5 ≤ d) {sp : Nat} (q : wX w n s t h) (th : thOk w (aU w (lawOf w)) n sp h) : M cx jX9_atOnce d a [.ref o_thieves] h (fun r g => r = some (.ref o_onceFound) ∧ keepTh h g ∧ thOk w (aU w (lawOf w)) n sp g ∧ moX w n (tmF w n (tkPr w (aU w (lawOf w)) false) (2 ^ n)) o_onceFound g) := by
  obtain ⟨m, hm, e1, e2, hm2⟩ := wX_core q
  obtain ⟨eT, lT, hn⟩ := wX_T q
  refine M_mono (m_atOnce hd e1 hm) ?_
  rintro r g ⟨rfl, rfl⟩
  unfold aoA
  by_cases z : hI h o_thieves 13 &&& 2 = 0
  · rw [if_pos z]
    obtain ⟨fw, f1, f2, f3, f4, f5⟩ := fl_knw (K := 2) (by decide) q th.1
    unfold aoD
    rw [f1.1, e2, (bcS_pow hm).2, eT]
    generalize eg : flA (knw h 2) = f at *
    have lw : ∀ j, j < 16384 → (inS (clrM f o_onceFound) o_lawful_words j ↔ lwf (aU w (lawOf w)) (nI j) ∧ sub (nI j) (nI m)) := fun j hj => by
      rw [← e2]; exact f1.2 j hj
    have ws : ∀ x f', sub x (w 159) → (∀ k, hI f' o_wall_facts k = hI (clrM f o_onceFound) o_wall_facts k) → wtR f' x 14 = nwt w x n := fun x f' sx ef => by
      rw [wtR_cong (g := f') (h := h) (fun k => by rw [ef, clrM_I (by decide), f5 _ _ (by decide)])]
      exact wt_eq q.1 hn (low_sub sx lT)
    have m0 : mI (fun x => nwt w x n) (fun _ => False) (clrM f o_onceFound) o_onceFound := by
      refine Or.inl ⟨?_, ?_, ?_, fun _ z => z⟩
      · unfold clrM; rw [rd_k (by decide), rd_same]
      · unfold clrM; rw [rd_k (by decide), rd_k (by decide), rd_k (by decide), rd_same]
      · unfold clrM; rw [rd_k (by decide), rd_k (by decide), rd_same]
    obtain ⟨i1, i2⟩ := ao_inv (g := clrM f o_onceFound) (W := fun x => nwt w x n) hm (low_le (by omega) lT) lw ws m0 (2 ^ pcn 32 m)
    have s0 : hI (clrM f o_onceFound) o_onceFound 3 = 0 := by unfold clrM; rw [rd_same]
    rw [s0, Int32.zero_add] at i2
    have mx := ao_most q rfl e2 hm2 i1 i2
    generalize eg2 : aoH (w 159) (nI m) (clrM f o_onceFound) (2 ^ pcn 32 m) = g at *
    have c96 : ∀ o k, o ≠ 96 → hI g o k = hI f o k := fun o k no => by rw [← eg2, aoH_I no, clrM_I no]
    have cJ : g.2 = f.2 := by rw [← eg2, aoH_2]; rfl
    have kg : keepTh h g := keepTh_t f4 ⟨fun o k no => c96 o k (by omega), by rw [cJ], fun o k _ _ => congrFun (congrFun (congrArg (fun z => z.1) cJ) o) k⟩
    refine ⟨rfl, kg, th_of (K := 2 ||| 1) th (by rw [c96 _ _ (by decide), f3]) (fun _ => lwX_c f1 (c96 _ _ (by decide)) (fun k => congrFun (congrFun (congrArg (fun z => z.1) cJ) _) k)) (Or.inr mx) (Or.inl ⟨by decide, fun k => by rw [c96 _ _ (by decide), f5 _ _ (by decide)], by rw [c96 _ _ (by decide), f2 9 (by decide) (by decide)], fun k => by rw [c96 _ _ (by decide), f5 _ _ (by decide)]⟩) (Or.inl ⟨by decide, fun k => by rw [c96 _ _ (by decide), f5 _ _ (by decide)]⟩) (Or.inl ⟨by decide, fun k => by rw [c96 _ _ (by decide), f5 _ _ (by decide)]⟩) (Or.inl ⟨by decide, by rw [c96 _ _ (by decide), f2 10 (by decide) (by decide)], by rw [c96 _ _ (by decide), f2 11 (by decide) (by decide)]⟩), mx⟩
  · rw [if_neg z]
    have mx := moX_c (g := knw h 2) (th.2.1 z) (fun k => knw_o (by decide))
    refine ⟨rfl, ⟨fun o k no => knw_o (by omega), rfl, fun _ _ _ _ => rfl⟩, th_of (K := 2) th knw_13 (lw_knw (by decide) th.1) (Or.inr mx) (Or.inl ⟨by decide, fun k => knw_o (by decide), knw_k (by decide), fun k => knw_o (by decide)⟩) (Or.inl ⟨by decide, fun k => knw_o (by decide)⟩) (Or.inl ⟨by decide, fun k => knw_o (by decide)⟩) (Or.inl ⟨by decide, knw_k (by decide), knw_k (by decide)⟩), mx⟩
end T92
