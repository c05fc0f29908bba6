/-! how a method begins: its contract out of its first stretch; s.. from the start, e.. at a place -/
def tb_mx : List Nat := [1, 9, 5, 5, 11, 8, 3, 1, 1, 1, 3, 2, 1, 4, 9, 3, 2, 2, 2, 3, 3, 4, 5, 6, 6, 7, 8, 6, 2, 2, 2, 1, 1, 5, 2, 2, 5, 2, 5, 5, 4, 4, 5, 5, 4, 5, 1, 3, 2, 1, 3, 3, 2, 1, 1, 7, 2, 5, 2, 8, 1, 2, 2, 2, 5, 5, 1, 3, 2, 3, 1, 3, 1, 4, 4, 1, 5, 8, 5, 2, 4, 3, 5, 4, 1, 3, 7, 7, 7, 5, 3, 2, 4, 3, 1, 2, 2, 1, 6, 6, 4, 1, 7, 7, 5, 3, 3, 6, 2, 3, 1, 3, 1, 3, 4, 3, 3, 1, 3, 5, 3, 3, 6, 2, 2, 2, 2, 8, 2, 2, 3, 3, 2, 2, 2, 2, 1, 3, 2, 8, 7, 1, 3, 2, 3, 2, 2, 2, 3, 1, 3, 3, 1, 1, 2, 3, 2, 4, 5, 7, 8, 7, 6, 7, 5, 3, 4, 5, 1, 7, 2, 1, 1, 8, 6, 1, 1, 3, 2, 1, 1, 1, 2, 2, 4, 2, 2, 3, 2, 3, 1, 3, 2, 3, 4, 7, 7, 4, 4, 4, 3, 7, 7, 6, 3, 3, 4, 3, 4, 4, 3, 1, 3, 2, 4, 6, 5, 3, 6, 5, 3, 4, 2, 2, 2, 6, 5, 9, 6, 6, 11, 2, 8, 2, 2, 1, 1, 2, 4, 2, 4, 1, 2, 1, 1, 2, 2, 2, 1, 2, 2, 3, 4]
def mx_f (j : Nat) : Bool := mmax j == tb_mx.getD j 0
theorem mx_ok_0 : ((rg 0).all mx_f) = true := by decide +kernel
theorem mx_ok_1 : ((rg 1).all mx_f) = true := by decide +kernel
theorem mx_ok_2 : ((rg 2).all mx_f) = true := by decide +kernel
theorem mx_ok_3 : ((rg 3).all mx_f) = true := by decide +kernel
theorem mx_ok_4 : ((rg 4).all mx_f) = true := by decide +kernel
theorem mx_ok_5 : ((rg 5).all mx_f) = true := by decide +kernel
theorem mx_ok_6 : ((rg 6).all mx_f) = true := by decide +kernel
theorem mx_ok_7 : ((rg 7).all mx_f) = true := by decide +kernel
theorem mx_ok_8 : ((rg 8).all mx_f) = true := by decide +kernel
theorem mx_ok {k : Nat} (hk : k < 252) : mmax k = tb_mx.getD k 0 := by
  have key : ∀ i, ((rg i).all mx_f) = true → k / 28 = i → mx_f k = true := fun i hi e => List.all_eq_true.mp hi k (rg_mem e)
  have q : mx_f k = true := by
    by_cases c0 : k / 28 = 0
    · exact key _ mx_ok_0 c0
    by_cases c1 : k / 28 = 1
    · exact key _ mx_ok_1 c1
    by_cases c2 : k / 28 = 2
    · exact key _ mx_ok_2 c2
    by_cases c3 : k / 28 = 3
    · exact key _ mx_ok_3 c3
    by_cases c4 : k / 28 = 4
    · exact key _ mx_ok_4 c4
    by_cases c5 : k / 28 = 5
    · exact key _ mx_ok_5 c5
    by_cases c6 : k / 28 = 6
    · exact key _ mx_ok_6 c6
    by_cases c7 : k / 28 = 7
    · exact key _ mx_ok_7 c7
    by_cases c8 : k / 28 = 8
    · exact key _ mx_ok_8 c8
    omega
  simpa [mx_f] using q
def padN : Nat → Lc → Lc
  | 0, l => l
  | n + 1, [] => none :: padN n []
  | n + 1, x :: t => x :: padN n t
theorem lnth_pad : ∀ (n : Nat) (l : Lc) (i : Nat) (v : Value), lnth (padN n l) i = some v → lnth l i = some v
  | 0, l, i, v, h => h
  | n + 1, [], 0, v, h => by simp [padN, lnth] at h
  | n + 1, [], i + 1, v, h => by
    have := lnth_pad n [] i v (by simpa [padN, lnth] using h)
    simp [lnth] at this
  | n + 1, x :: t, 0, v, h => by simpa [padN, lnth] using h
  | n + 1, x :: t, i + 1, v, h => by
    have := lnth_pad n t i v (by simpa [padN, lnth] using h)
    simpa [lnth] using this
theorem e_pad {cx : Cx} {j d a pc : Nat} {loc : Lc} {st : List Value} {h : Hp} {Q : Option Value → Hp → Prop} (n : Nat) (k : E cx j d a pc (padN n loc) st h Q) : E cx j d a pc loc st h Q := by
  intro p l e s m args below meth c h0 ad0 ad ls H locs nc ns mc ms hc h1 h2
  exact k p l e s m args below meth c h0 ad0 ad ls H locs nc ns mc ms ⟨hc.1, hc.2.1, hc.2.2.1, hc.2.2.2.1, hc.2.2.2.2.1, fun i v hv => hc.2.2.2.2.2 i v (lnth_pad n _ _ _ hv)⟩ h1 h2
theorem m_go {cx : Cx} {j d a : Nat} {h : Hp} {Q : Option Value → Hp → Prop} {vs : List Value} (hj : j < 252) (hc : mcn j < 13) (hn : Nat.ble (lent vs).length (tb_mx.getD j 0) = true) (k : E cx j d a 0 (lent vs) [] h Q) : M cx j d a vs h Q :=
  m_of (use_mk hj hc) (by rw [mx_ok hj]; exact Nat.le_of_ble_eq_true hn) k
section ST
variable {cx : Cx} {d a pc : Nat} {loc : Lc} {st : List Value} {h : Hp} {Q : Option Value → Hp → Prop} {vs : List Value}
abbrev jX0_need : Nat := 1
theorem eX0_need (k : wp cx 1 d Q (bX0_need pc) pc a loc st h) : E cx 1 d a pc loc st h Q := wp_ok _ _ _ _ _ _ (kX0_need pc) k
theorem sX0_need (hn : Nat.ble (lent vs).length 9 = true) (k : wp cx 1 d Q (bX0_need 0) 0 a (padN 9 (lent vs)) [] h) : M cx 1 d a vs h Q := m_go (by decide) (by decide) hn (e_pad 9 (eX0_need k))
abbrev jX0_isBound : Nat := 2
theorem eX0_isBound (k : wp cx 2 d Q (bX0_isBound pc) pc a loc st h) : E cx 2 d a pc loc st h Q := wp_ok _ _ _ _ _ _ (kX0_isBound pc) k
theorem sX0_isBound (hn : Nat.ble (lent vs).length 5 = true) (k : wp cx 2 d Q (bX0_isBound 0) 0 a (padN 5 (lent vs)) [] h) : M cx 2 d a vs h Q := m_go (by decide) (by decide) hn (e_pad 5 (eX0_isBound k))
abbrev jX0_isSo : Nat := 3
theorem eX0_isSo (k : wp cx 3 d Q (bX0_isSo pc) pc a loc st h) : E cx 3 d a pc loc st h Q := wp_ok _ _ _ _ _ _ (kX0_isSo pc) k
theorem sX0_isSo (hn : Nat.ble (lent vs).length 5 = true) (k : wp cx 3 d Q (bX0_isSo 0) 0 a (padN 5 (lent vs)) [] h) : M cx 3 d a vs h Q := m_go (by decide) (by decide) hn (e_pad 5 (eX0_isSo k))
abbrev jX0_value : Nat := 4
theorem eX0_value (k : wp cx 4 d Q (bX0_value pc) pc a loc st h) : E cx 4 d a pc loc st h Q := wp_ok _ _ _ _ _ _ (kX0_value pc) k
theorem sX0_value (hn : Nat.ble (lent vs).length 11 = true) (k : wp cx 4 d Q (bX0_value 0) 0 a (padN 11 (lent vs)) [] h) : M cx 4 d a vs h Q := m_go (by decide) (by decide) hn (e_pad 11 (eX0_value k))
abbrev jX0_joined : Nat := 5
theorem eX0_joined (k : wp cx 5 d Q (bX0_joined pc) pc a loc st h) : E cx 5 d a pc loc st h Q := wp_ok _ _ _ _ _ _ (kX0_joined pc) k
theorem sX0_joined (hn : Nat.ble (lent vs).length 8 = true) (k : wp cx 5 d Q (bX0_joined 0) 0 a (padN 8 (lent vs)) [] h) : M cx 5 d a vs h Q := m_go (by decide) (by decide) hn (e_pad 8 (eX0_joined k))
abbrev jX0_push : Nat := 6
theorem eX0_push (k : wp cx 6 d Q (bX0_push pc) pc a loc st h) : E cx 6 d a pc loc st h Q := wp_ok _ _ _ _ _ _ (kX0_push pc) k
theorem sX0_push (hn : Nat.ble (lent vs).length 3 = true) (k : wp cx 6 d Q (bX0_push 0) 0 a (padN 3 (lent vs)) [] h) : M cx 6 d a vs h Q := m_go (by decide) (by decide) hn (e_pad 3 (eX0_push k))
abbrev jX0_pop : Nat := 7
theorem eX0_pop (k : wp cx 7 d Q (bX0_pop pc) pc a loc st h) : E cx 7 d a pc loc st h Q := wp_ok _ _ _ _ _ _ (kX0_pop pc) k
theorem sX0_pop (hn : Nat.ble (lent vs).length 1 = true) (k : wp cx 7 d Q (bX0_pop 0) 0 a (padN 1 (lent vs)) [] h) : M cx 7 d a vs h Q := m_go (by decide) (by decide) hn (e_pad 1 (eX0_pop k))
abbrev jX1_clear : Nat := 9
theorem eX1_clear (k : wp cx 9 d Q (bX1_clear pc) pc a loc st h) : E cx 9 d a pc loc st h Q := wp_ok _ _ _ _ _ _ (kX1_clear pc) k
theorem sX1_clear (hn : Nat.ble (lent vs).length 1 = true) (k : wp cx 9 d Q (bX1_clear 0) 0 a (padN 1 (lent vs)) [] h) : M cx 9 d a vs h Q := m_go (by decide) (by decide) hn (e_pad 1 (eX1_clear k))
abbrev jX1_offer : Nat := 10
theorem eX1_offer (k : wp cx 10 d Q (bX1_offer pc) pc a loc st h) : E cx 10 d a pc loc st h Q := wp_ok _ _ _ _ _ _ (kX1_offer pc) k
theorem sX1_offer (hn : Nat.ble (lent vs).length 3 = true) (k : wp cx 10 d Q (bX1_offer 0) 0 a (padN 3 (lent vs)) [] h) : M cx 10 d a vs h Q := m_go (by decide) (by decide) hn (e_pad 3 (eX1_offer k))
abbrev jX1_told : Nat := 11
theorem eX1_told (k : wp cx 11 d Q (bX1_told pc) pc a loc st h) : E cx 11 d a pc loc st h Q := wp_ok _ _ _ _ _ _ (kX1_told pc) k
theorem sX1_told (hn : Nat.ble (lent vs).length 2 = true) (k : wp cx 11 d Q (bX1_told 0) 0 a (padN 2 (lent vs)) [] h) : M cx 11 d a vs h Q := m_go (by decide) (by decide) hn (e_pad 2 (eX1_told k))
abbrev jX2_renew : Nat := 13
theorem eX2_renew (k : wp cx 13 d Q (bX2_renew pc) pc a loc st h) : E cx 13 d a pc loc st h Q := wp_ok _ _ _ _ _ _ (kX2_renew pc) k
theorem sX2_renew (hn : Nat.ble (lent vs).length 4 = true) (k : wp cx 13 d Q (bX2_renew 0) 0 a (padN 4 (lent vs)) [] h) : M cx 13 d a vs h Q := m_go (by decide) (by decide) hn (e_pad 4 (eX2_renew k))
abbrev jX2_neighbours : Nat := 14
theorem eX2_neighbours (k : wp cx 14 d Q (bX2_neighbours pc) pc a loc st h) : E cx 14 d a pc loc st h Q := wp_ok _ _ _ _ _ _ (kX2_neighbours pc) k
theorem sX2_neighbours (hn : Nat.ble (lent vs).length 9 = true) (k : wp cx 14 d Q (bX2_neighbours 0) 0 a (padN 9 (lent vs)) [] h) : M cx 14 d a vs h Q := m_go (by decide) (by decide) hn (e_pad 9 (eX2_neighbours k))
abbrev jX2_heldOf : Nat := 15
theorem eX2_heldOf (k : wp cx 15 d Q (bX2_heldOf pc) pc a loc st h) : E cx 15 d a pc loc st h Q := wp_ok _ _ _ _ _ _ (kX2_heldOf pc) k
theorem sX2_heldOf (hn : Nat.ble (lent vs).length 3 = true) (k : wp cx 15 d Q (bX2_heldOf 0) 0 a (padN 3 (lent vs)) [] h) : M cx 15 d a vs h Q := m_go (by decide) (by decide) hn (e_pad 3 (eX2_heldOf k))
abbrev jX2_needOf : Nat := 16
theorem eX2_needOf (k : wp cx 16 d Q (bX2_needOf pc) pc a loc st h) : E cx 16 d a pc loc st h Q := wp_ok _ _ _ _ _ _ (kX2_needOf pc) k
theorem sX2_needOf (hn : Nat.ble (lent vs).length 2 = true) (k : wp cx 16 d Q (bX2_needOf 0) 0 a (padN 2 (lent vs)) [] h) : M cx 16 d a vs h Q := m_go (by decide) (by decide) hn (e_pad 2 (eX2_needOf k))
abbrev jX2_besideOf : Nat := 17
theorem eX2_besideOf (k : wp cx 17 d Q (bX2_besideOf pc) pc a loc st h) : E cx 17 d a pc loc st h Q := wp_ok _ _ _ _ _ _ (kX2_besideOf pc) k
theorem sX2_besideOf (hn : Nat.ble (lent vs).length 2 = true) (k : wp cx 17 d Q (bX2_besideOf 0) 0 a (padN 2 (lent vs)) [] h) : M cx 17 d a vs h Q := m_go (by decide) (by decide) hn (e_pad 2 (eX2_besideOf k))
abbrev jX2_isBound : Nat := 18
theorem eX2_isBound (k : wp cx 18 d Q (bX2_isBound pc) pc a loc st h) : E cx 18 d a pc loc st h Q := wp_ok _ _ _ _ _ _ (kX2_isBound pc) k
theorem sX2_isBound (hn : Nat.ble (lent vs).length 2 = true) (k : wp cx 18 d Q (bX2_isBound 0) 0 a (padN 2 (lent vs)) [] h) : M cx 18 d a vs h Q := m_go (by decide) (by decide) hn (e_pad 2 (eX2_isBound k))
abbrev jX2_touchesOf : Nat := 19
theorem eX2_touchesOf (k : wp cx 19 d Q (bX2_touchesOf pc) pc a loc st h) : E cx 19 d a pc loc st h Q := wp_ok _ _ _ _ _ _ (kX2_touchesOf pc) k
theorem sX2_touchesOf (hn : Nat.ble (lent vs).length 3 = true) (k : wp cx 19 d Q (bX2_touchesOf 0) 0 a (padN 3 (lent vs)) [] h) : M cx 19 d a vs h Q := m_go (by decide) (by decide) hn (e_pad 3 (eX2_touchesOf k))
abbrev jX2_isLawful : Nat := 20
theorem eX2_isLawful (k : wp cx 20 d Q (bX2_isLawful pc) pc a loc st h) : E cx 20 d a pc loc st h Q := wp_ok _ _ _ _ _ _ (kX2_isLawful pc) k
theorem sX2_isLawful (hn : Nat.ble (lent vs).length 3 = true) (k : wp cx 20 d Q (bX2_isLawful 0) 0 a (padN 3 (lent vs)) [] h) : M cx 20 d a vs h Q := m_go (by decide) (by decide) hn (e_pad 3 (eX2_isLawful k))
abbrev jX2_unsteady : Nat := 21
theorem eX2_unsteady (k : wp cx 21 d Q (bX2_unsteady pc) pc a loc st h) : E cx 21 d a pc loc st h Q := wp_ok _ _ _ _ _ _ (kX2_unsteady pc) k
theorem sX2_unsteady (hn : Nat.ble (lent vs).length 4 = true) (k : wp cx 21 d Q (bX2_unsteady 0) 0 a (padN 4 (lent vs)) [] h) : M cx 21 d a vs h Q := m_go (by decide) (by decide) hn (e_pad 4 (eX2_unsteady k))
abbrev jX2_settled : Nat := 22
theorem eX2_settled (k : wp cx 22 d Q (bX2_settled pc) pc a loc st h) : E cx 22 d a pc loc st h Q := wp_ok _ _ _ _ _ _ (kX2_settled pc) k
theorem sX2_settled (hn : Nat.ble (lent vs).length 5 = true) (k : wp cx 22 d Q (bX2_settled 0) 0 a (padN 5 (lent vs)) [] h) : M cx 22 d a vs h Q := m_go (by decide) (by decide) hn (e_pad 5 (eX2_settled k))
abbrev jX2_rounds : Nat := 23
theorem eX2_rounds (k : wp cx 23 d Q (bX2_rounds pc) pc a loc st h) : E cx 23 d a pc loc st h Q := wp_ok _ _ _ _ _ _ (kX2_rounds pc) k
theorem sX2_rounds (hn : Nat.ble (lent vs).length 6 = true) (k : wp cx 23 d Q (bX2_rounds 0) 0 a (padN 6 (lent vs)) [] h) : M cx 23 d a vs h Q := m_go (by decide) (by decide) hn (e_pad 6 (eX2_rounds k))
abbrev jX2_roundOf : Nat := 24
theorem eX2_roundOf (k : wp cx 24 d Q (bX2_roundOf pc) pc a loc st h) : E cx 24 d a pc loc st h Q := wp_ok _ _ _ _ _ _ (kX2_roundOf pc) k
theorem sX2_roundOf (hn : Nat.ble (lent vs).length 6 = true) (k : wp cx 24 d Q (bX2_roundOf 0) 0 a (padN 6 (lent vs)) [] h) : M cx 24 d a vs h Q := m_go (by decide) (by decide) hn (e_pad 6 (eX2_roundOf k))
abbrev jX2_singles : Nat := 25
theorem eX2_singles (k : wp cx 25 d Q (bX2_singles pc) pc a loc st h) : E cx 25 d a pc loc st h Q := wp_ok _ _ _ _ _ _ (kX2_singles pc) k
theorem sX2_singles (hn : Nat.ble (lent vs).length 7 = true) (k : wp cx 25 d Q (bX2_singles 0) 0 a (padN 7 (lent vs)) [] h) : M cx 25 d a vs h Q := m_go (by decide) (by decide) hn (e_pad 7 (eX2_singles k))
abbrev jX2_pairs : Nat := 26
theorem eX2_pairs (k : wp cx 26 d Q (bX2_pairs pc) pc a loc st h) : E cx 26 d a pc loc st h Q := wp_ok _ _ _ _ _ _ (kX2_pairs pc) k
theorem sX2_pairs (hn : Nat.ble (lent vs).length 8 = true) (k : wp cx 26 d Q (bX2_pairs 0) 0 a (padN 8 (lent vs)) [] h) : M cx 26 d a vs h Q := m_go (by decide) (by decide) hn (e_pad 8 (eX2_pairs k))
abbrev jX3_stepAt : Nat := 28
theorem eX3_stepAt (k : wp cx 28 d Q (bX3_stepAt pc) pc a loc st h) : E cx 28 d a pc loc st h Q := wp_ok _ _ _ _ _ _ (kX3_stepAt pc) k
theorem sX3_stepAt (hn : Nat.ble (lent vs).length 2 = true) (k : wp cx 28 d Q (bX3_stepAt 0) 0 a (padN 2 (lent vs)) [] h) : M cx 28 d a vs h Q := m_go (by decide) (by decide) hn (e_pad 2 (eX3_stepAt k))
abbrev jX3_startOf : Nat := 29
theorem eX3_startOf (k : wp cx 29 d Q (bX3_startOf pc) pc a loc st h) : E cx 29 d a pc loc st h Q := wp_ok _ _ _ _ _ _ (kX3_startOf pc) k
theorem sX3_startOf (hn : Nat.ble (lent vs).length 2 = true) (k : wp cx 29 d Q (bX3_startOf 0) 0 a (padN 2 (lent vs)) [] h) : M cx 29 d a vs h Q := m_go (by decide) (by decide) hn (e_pad 2 (eX3_startOf k))
abbrev jX3_isEmptyPart : Nat := 30
theorem eX3_isEmptyPart (k : wp cx 30 d Q (bX3_isEmptyPart pc) pc a loc st h) : E cx 30 d a pc loc st h Q := wp_ok _ _ _ _ _ _ (kX3_isEmptyPart pc) k
theorem sX3_isEmptyPart (hn : Nat.ble (lent vs).length 2 = true) (k : wp cx 30 d Q (bX3_isEmptyPart 0) 0 a (padN 2 (lent vs)) [] h) : M cx 30 d a vs h Q := m_go (by decide) (by decide) hn (e_pad 2 (eX3_isEmptyPart k))
abbrev jX4_clear : Nat := 32
theorem eX4_clear (k : wp cx 32 d Q (bX4_clear pc) pc a loc st h) : E cx 32 d a pc loc st h Q := wp_ok _ _ _ _ _ _ (kX4_clear pc) k
theorem sX4_clear (hn : Nat.ble (lent vs).length 1 = true) (k : wp cx 32 d Q (bX4_clear 0) 0 a (padN 1 (lent vs)) [] h) : M cx 32 d a vs h Q := m_go (by decide) (by decide) hn (e_pad 1 (eX4_clear k))
abbrev jX4_offer : Nat := 33
theorem eX4_offer (k : wp cx 33 d Q (bX4_offer pc) pc a loc st h) : E cx 33 d a pc loc st h Q := wp_ok _ _ _ _ _ _ (kX4_offer pc) k
theorem sX4_offer (hn : Nat.ble (lent vs).length 5 = true) (k : wp cx 33 d Q (bX4_offer 0) 0 a (padN 5 (lent vs)) [] h) : M cx 33 d a vs h Q := m_go (by decide) (by decide) hn (e_pad 5 (eX4_offer k))
abbrev jX4_told : Nat := 34
theorem eX4_told (k : wp cx 34 d Q (bX4_told pc) pc a loc st h) : E cx 34 d a pc loc st h Q := wp_ok _ _ _ _ _ _ (kX4_told pc) k
theorem sX4_told (hn : Nat.ble (lent vs).length 2 = true) (k : wp cx 34 d Q (bX4_told 0) 0 a (padN 2 (lent vs)) [] h) : M cx 34 d a vs h Q := m_go (by decide) (by decide) hn (e_pad 2 (eX4_told k))
abbrev jX5_read : Nat := 36
theorem eX5_read (k : wp cx 36 d Q (bX5_read pc) pc a loc st h) : E cx 36 d a pc loc st h Q := wp_ok _ _ _ _ _ _ (kX5_read pc) k
theorem sX5_read (hn : Nat.ble (lent vs).length 5 = true) (k : wp cx 36 d Q (bX5_read 0) 0 a (padN 5 (lent vs)) [] h) : M cx 36 d a vs h Q := m_go (by decide) (by decide) hn (e_pad 5 (eX5_read k))
abbrev jX5_readClause : Nat := 37
theorem eX5_readClause (k : wp cx 37 d Q (bX5_readClause pc) pc a loc st h) : E cx 37 d a pc loc st h Q := wp_ok _ _ _ _ _ _ (kX5_readClause pc) k
theorem sX5_readClause (hn : Nat.ble (lent vs).length 2 = true) (k : wp cx 37 d Q (bX5_readClause 0) 0 a (padN 2 (lent vs)) [] h) : M cx 37 d a vs h Q := m_go (by decide) (by decide) hn (e_pad 2 (eX5_readClause k))
abbrev jX5_readTest : Nat := 38
theorem eX5_readTest (k : wp cx 38 d Q (bX5_readTest pc) pc a loc st h) : E cx 38 d a pc loc st h Q := wp_ok _ _ _ _ _ _ (kX5_readTest pc) k
theorem sX5_readTest (hn : Nat.ble (lent vs).length 5 = true) (k : wp cx 38 d Q (bX5_readTest 0) 0 a (padN 5 (lent vs)) [] h) : M cx 38 d a vs h Q := m_go (by decide) (by decide) hn (e_pad 5 (eX5_readTest k))
abbrev jX5_readBoth : Nat := 39
theorem eX5_readBoth (k : wp cx 39 d Q (bX5_readBoth pc) pc a loc st h) : E cx 39 d a pc loc st h Q := wp_ok _ _ _ _ _ _ (kX5_readBoth pc) k
theorem sX5_readBoth (hn : Nat.ble (lent vs).length 5 = true) (k : wp cx 39 d Q (bX5_readBoth 0) 0 a (padN 5 (lent vs)) [] h) : M cx 39 d a vs h Q := m_go (by decide) (by decide) hn (e_pad 5 (eX5_readBoth k))
abbrev jX5_readPlain : Nat := 40
theorem eX5_readPlain (k : wp cx 40 d Q (bX5_readPlain pc) pc a loc st h) : E cx 40 d a pc loc st h Q := wp_ok _ _ _ _ _ _ (kX5_readPlain pc) k
theorem sX5_readPlain (hn : Nat.ble (lent vs).length 4 = true) (k : wp cx 40 d Q (bX5_readPlain 0) 0 a (padN 4 (lent vs)) [] h) : M cx 40 d a vs h Q := m_go (by decide) (by decide) hn (e_pad 4 (eX5_readPlain k))
abbrev jX5_readCompared : Nat := 41
theorem eX5_readCompared (k : wp cx 41 d Q (bX5_readCompared pc) pc a loc st h) : E cx 41 d a pc loc st h Q := wp_ok _ _ _ _ _ _ (kX5_readCompared pc) k
theorem sX5_readCompared (hn : Nat.ble (lent vs).length 4 = true) (k : wp cx 41 d Q (bX5_readCompared 0) 0 a (padN 4 (lent vs)) [] h) : M cx 41 d a vs h Q := m_go (by decide) (by decide) hn (e_pad 4 (eX5_readCompared k))
abbrev jX5_readSum : Nat := 42
theorem eX5_readSum (k : wp cx 42 d Q (bX5_readSum pc) pc a loc st h) : E cx 42 d a pc loc st h Q := wp_ok _ _ _ _ _ _ (kX5_readSum pc) k
theorem sX5_readSum (hn : Nat.ble (lent vs).length 5 = true) (k : wp cx 42 d Q (bX5_readSum 0) 0 a (padN 5 (lent vs)) [] h) : M cx 42 d a vs h Q := m_go (by decide) (by decide) hn (e_pad 5 (eX5_readSum k))
abbrev jX5_readTerm : Nat := 43
theorem eX5_readTerm (k : wp cx 43 d Q (bX5_readTerm pc) pc a loc st h) : E cx 43 d a pc loc st h Q := wp_ok _ _ _ _ _ _ (kX5_readTerm pc) k
theorem sX5_readTerm (hn : Nat.ble (lent vs).length 5 = true) (k : wp cx 43 d Q (bX5_readTerm 0) 0 a (padN 5 (lent vs)) [] h) : M cx 43 d a vs h Q := m_go (by decide) (by decide) hn (e_pad 5 (eX5_readTerm k))
abbrev jX5_readPart : Nat := 44
theorem eX5_readPart (k : wp cx 44 d Q (bX5_readPart pc) pc a loc st h) : E cx 44 d a pc loc st h Q := wp_ok _ _ _ _ _ _ (kX5_readPart pc) k
theorem sX5_readPart (hn : Nat.ble (lent vs).length 4 = true) (k : wp cx 44 d Q (bX5_readPart 0) 0 a (padN 4 (lent vs)) [] h) : M cx 44 d a vs h Q := m_go (by decide) (by decide) hn (e_pad 4 (eX5_readPart k))
abbrev jX5_readBracketed : Nat := 45
theorem eX5_readBracketed (k : wp cx 45 d Q (bX5_readBracketed pc) pc a loc st h) : E cx 45 d a pc loc st h Q := wp_ok _ _ _ _ _ _ (kX5_readBracketed pc) k
theorem sX5_readBracketed (hn : Nat.ble (lent vs).length 5 = true) (k : wp cx 45 d Q (bX5_readBracketed 0) 0 a (padN 5 (lent vs)) [] h) : M cx 45 d a vs h Q := m_go (by decide) (by decide) hn (e_pad 5 (eX5_readBracketed k))
abbrev jX5_namedFact : Nat := 46
theorem eX5_namedFact (k : wp cx 46 d Q (bX5_namedFact pc) pc a loc st h) : E cx 46 d a pc loc st h Q := wp_ok _ _ _ _ _ _ (kX5_namedFact pc) k
theorem sX5_namedFact (hn : Nat.ble (lent vs).length 1 = true) (k : wp cx 46 d Q (bX5_namedFact 0) 0 a (padN 1 (lent vs)) [] h) : M cx 46 d a vs h Q := m_go (by decide) (by decide) hn (e_pad 1 (eX5_namedFact k))
abbrev jX5_numberTold : Nat := 47
theorem eX5_numberTold (k : wp cx 47 d Q (bX5_numberTold pc) pc a loc st h) : E cx 47 d a pc loc st h Q := wp_ok _ _ _ _ _ _ (kX5_numberTold pc) k
theorem sX5_numberTold (hn : Nat.ble (lent vs).length 3 = true) (k : wp cx 47 d Q (bX5_numberTold 0) 0 a (padN 3 (lent vs)) [] h) : M cx 47 d a vs h Q := m_go (by decide) (by decide) hn (e_pad 3 (eX5_numberTold k))
abbrev jX5_advance : Nat := 48
theorem eX5_advance (k : wp cx 48 d Q (bX5_advance pc) pc a loc st h) : E cx 48 d a pc loc st h Q := wp_ok _ _ _ _ _ _ (kX5_advance pc) k
theorem sX5_advance (hn : Nat.ble (lent vs).length 2 = true) (k : wp cx 48 d Q (bX5_advance 0) 0 a (padN 2 (lent vs)) [] h) : M cx 48 d a vs h Q := m_go (by decide) (by decide) hn (e_pad 2 (eX5_advance k))
abbrev jX5_sortOf : Nat := 49
theorem eX5_sortOf (k : wp cx 49 d Q (bX5_sortOf pc) pc a loc st h) : E cx 49 d a pc loc st h Q := wp_ok _ _ _ _ _ _ (kX5_sortOf pc) k
theorem sX5_sortOf (hn : Nat.ble (lent vs).length 1 = true) (k : wp cx 49 d Q (bX5_sortOf 0) 0 a (padN 1 (lent vs)) [] h) : M cx 49 d a vs h Q := m_go (by decide) (by decide) hn (e_pad 1 (eX5_sortOf k))
abbrev jX5_is : Nat := 50
theorem eX5_is (k : wp cx 50 d Q (bX5_is pc) pc a loc st h) : E cx 50 d a pc loc st h Q := wp_ok _ _ _ _ _ _ (kX5_is pc) k
theorem sX5_is (hn : Nat.ble (lent vs).length 3 = true) (k : wp cx 50 d Q (bX5_is 0) 0 a (padN 3 (lent vs)) [] h) : M cx 50 d a vs h Q := m_go (by decide) (by decide) hn (e_pad 3 (eX5_is k))
abbrev jX5_addStep : Nat := 51
theorem eX5_addStep (k : wp cx 51 d Q (bX5_addStep pc) pc a loc st h) : E cx 51 d a pc loc st h Q := wp_ok _ _ _ _ _ _ (kX5_addStep pc) k
theorem sX5_addStep (hn : Nat.ble (lent vs).length 3 = true) (k : wp cx 51 d Q (bX5_addStep 0) 0 a (padN 3 (lent vs)) [] h) : M cx 51 d a vs h Q := m_go (by decide) (by decide) hn (e_pad 3 (eX5_addStep k))
abbrev jX5_aimHere : Nat := 52
theorem eX5_aimHere (k : wp cx 52 d Q (bX5_aimHere pc) pc a loc st h) : E cx 52 d a pc loc st h Q := wp_ok _ _ _ _ _ _ (kX5_aimHere pc) k
theorem sX5_aimHere (hn : Nat.ble (lent vs).length 2 = true) (k : wp cx 52 d Q (bX5_aimHere 0) 0 a (padN 2 (lent vs)) [] h) : M cx 52 d a vs h Q := m_go (by decide) (by decide) hn (e_pad 2 (eX5_aimHere k))
abbrev jX5_mark : Nat := 53
theorem eX5_mark (k : wp cx 53 d Q (bX5_mark pc) pc a loc st h) : E cx 53 d a pc loc st h Q := wp_ok _ _ _ _ _ _ (kX5_mark pc) k
theorem sX5_mark (hn : Nat.ble (lent vs).length 1 = true) (k : wp cx 53 d Q (bX5_mark 0) 0 a (padN 1 (lent vs)) [] h) : M cx 53 d a vs h Q := m_go (by decide) (by decide) hn (e_pad 1 (eX5_mark k))
abbrev jX6_pass : Nat := 55
theorem eX6_pass (k : wp cx 55 d Q (bX6_pass pc) pc a loc st h) : E cx 55 d a pc loc st h Q := wp_ok _ _ _ _ _ _ (kX6_pass pc) k
theorem sX6_pass (hn : Nat.ble (lent vs).length 7 = true) (k : wp cx 55 d Q (bX6_pass 0) 0 a (padN 7 (lent vs)) [] h) : M cx 55 d a vs h Q := m_go (by decide) (by decide) hn (e_pad 7 (eX6_pass k))
abbrev jX6_leftBehind : Nat := 56
theorem eX6_leftBehind (k : wp cx 56 d Q (bX6_leftBehind pc) pc a loc st h) : E cx 56 d a pc loc st h Q := wp_ok _ _ _ _ _ _ (kX6_leftBehind pc) k
theorem sX6_leftBehind (hn : Nat.ble (lent vs).length 2 = true) (k : wp cx 56 d Q (bX6_leftBehind 0) 0 a (padN 2 (lent vs)) [] h) : M cx 56 d a vs h Q := m_go (by decide) (by decide) hn (e_pad 2 (eX6_leftBehind k))
abbrev jX6_frozen : Nat := 57
theorem eX6_frozen (k : wp cx 57 d Q (bX6_frozen pc) pc a loc st h) : E cx 57 d a pc loc st h Q := wp_ok _ _ _ _ _ _ (kX6_frozen pc) k
theorem sX6_frozen (hn : Nat.ble (lent vs).length 5 = true) (k : wp cx 57 d Q (bX6_frozen 0) 0 a (padN 5 (lent vs)) [] h) : M cx 57 d a vs h Q := m_go (by decide) (by decide) hn (e_pad 5 (eX6_frozen k))
abbrev jX6_draw : Nat := 58
theorem eX6_draw (k : wp cx 58 d Q (bX6_draw pc) pc a loc st h) : E cx 58 d a pc loc st h Q := wp_ok _ _ _ _ _ _ (kX6_draw pc) k
theorem sX6_draw (hn : Nat.ble (lent vs).length 2 = true) (k : wp cx 58 d Q (bX6_draw 0) 0 a (padN 2 (lent vs)) [] h) : M cx 58 d a vs h Q := m_go (by decide) (by decide) hn (e_pad 2 (eX6_draw k))
abbrev jX6_toPutBack : Nat := 59
theorem eX6_toPutBack (k : wp cx 59 d Q (bX6_toPutBack pc) pc a loc st h) : E cx 59 d a pc loc st h Q := wp_ok _ _ _ _ _ _ (kX6_toPutBack pc) k
theorem sX6_toPutBack (hn : Nat.ble (lent vs).length 8 = true) (k : wp cx 59 d Q (bX6_toPutBack 0) 0 a (padN 8 (lent vs)) [] h) : M cx 59 d a vs h Q := m_go (by decide) (by decide) hn (e_pad 8 (eX6_toPutBack k))
abbrev jX7_clear : Nat := 61
theorem eX7_clear (k : wp cx 61 d Q (bX7_clear pc) pc a loc st h) : E cx 61 d a pc loc st h Q := wp_ok _ _ _ _ _ _ (kX7_clear pc) k
theorem sX7_clear (hn : Nat.ble (lent vs).length 2 = true) (k : wp cx 61 d Q (bX7_clear 0) 0 a (padN 2 (lent vs)) [] h) : M cx 61 d a vs h Q := m_go (by decide) (by decide) hn (e_pad 2 (eX7_clear k))
abbrev jX7_add : Nat := 62
theorem eX7_add (k : wp cx 62 d Q (bX7_add pc) pc a loc st h) : E cx 62 d a pc loc st h Q := wp_ok _ _ _ _ _ _ (kX7_add pc) k
theorem sX7_add (hn : Nat.ble (lent vs).length 2 = true) (k : wp cx 62 d Q (bX7_add 0) 0 a (padN 2 (lent vs)) [] h) : M cx 62 d a vs h Q := m_go (by decide) (by decide) hn (e_pad 2 (eX7_add k))
abbrev jX7_has : Nat := 63
theorem eX7_has (k : wp cx 63 d Q (bX7_has pc) pc a loc st h) : E cx 63 d a pc loc st h Q := wp_ok _ _ _ _ _ _ (kX7_has pc) k
theorem sX7_has (hn : Nat.ble (lent vs).length 2 = true) (k : wp cx 63 d Q (bX7_has 0) 0 a (padN 2 (lent vs)) [] h) : M cx 63 d a vs h Q := m_go (by decide) (by decide) hn (e_pad 2 (eX7_has k))
abbrev jX7_hasWithoutOne : Nat := 64
theorem eX7_hasWithoutOne (k : wp cx 64 d Q (bX7_hasWithoutOne pc) pc a loc st h) : E cx 64 d a pc loc st h Q := wp_ok _ _ _ _ _ _ (kX7_hasWithoutOne pc) k
theorem sX7_hasWithoutOne (hn : Nat.ble (lent vs).length 5 = true) (k : wp cx 64 d Q (bX7_hasWithoutOne 0) 0 a (padN 5 (lent vs)) [] h) : M cx 64 d a vs h Q := m_go (by decide) (by decide) hn (e_pad 5 (eX7_hasWithoutOne k))
abbrev jX7_hasWithOne : Nat := 65
theorem eX7_hasWithOne (k : wp cx 65 d Q (bX7_hasWithOne pc) pc a loc st h) : E cx 65 d a pc loc st h Q := wp_ok _ _ _ _ _ _ (kX7_hasWithOne pc) k
theorem sX7_hasWithOne (hn : Nat.ble (lent vs).length 5 = true) (k : wp cx 65 d Q (bX7_hasWithOne 0) 0 a (padN 5 (lent vs)) [] h) : M cx 65 d a vs h Q := m_go (by decide) (by decide) hn (e_pad 5 (eX7_hasWithOne k))
abbrev jX8_add : Nat := 67
theorem eX8_add (k : wp cx 67 d Q (bX8_add pc) pc a loc st h) : E cx 67 d a pc loc st h Q := wp_ok _ _ _ _ _ _ (kX8_add pc) k
theorem sX8_add (hn : Nat.ble (lent vs).length 3 = true) (k : wp cx 67 d Q (bX8_add 0) 0 a (padN 3 (lent vs)) [] h) : M cx 67 d a vs h Q := m_go (by decide) (by decide) hn (e_pad 3 (eX8_add k))
abbrev jX8_byteAt : Nat := 68
theorem eX8_byteAt (k : wp cx 68 d Q (bX8_byteAt pc) pc a loc st h) : E cx 68 d a pc loc st h Q := wp_ok _ _ _ _ _ _ (kX8_byteAt pc) k
theorem sX8_byteAt (hn : Nat.ble (lent vs).length 2 = true) (k : wp cx 68 d Q (bX8_byteAt 0) 0 a (padN 2 (lent vs)) [] h) : M cx 68 d a vs h Q := m_go (by decide) (by decide) hn (e_pad 2 (eX8_byteAt k))
abbrev jX9_forget : Nat := 70
theorem eX9_forget (k : wp cx 70 d Q (bX9_forget pc) pc a loc st h) : E cx 70 d a pc loc st h Q := wp_ok _ _ _ _ _ _ (kX9_forget pc) k
theorem sX9_forget (hn : Nat.ble (lent vs).length 1 = true) (k : wp cx 70 d Q (bX9_forget 0) 0 a (padN 1 (lent vs)) [] h) : M cx 70 d a vs h Q := m_go (by decide) (by decide) hn (e_pad 1 (eX9_forget k))
abbrev jX9_isDue : Nat := 71
theorem eX9_isDue (k : wp cx 71 d Q (bX9_isDue pc) pc a loc st h) : E cx 71 d a pc loc st h Q := wp_ok _ _ _ _ _ _ (kX9_isDue pc) k
theorem sX9_isDue (hn : Nat.ble (lent vs).length 3 = true) (k : wp cx 71 d Q (bX9_isDue 0) 0 a (padN 3 (lent vs)) [] h) : M cx 71 d a vs h Q := m_go (by decide) (by decide) hn (e_pad 3 (eX9_isDue k))
abbrev jX9_setsOf : Nat := 72
theorem eX9_setsOf (k : wp cx 72 d Q (bX9_setsOf pc) pc a loc st h) : E cx 72 d a pc loc st h Q := wp_ok _ _ _ _ _ _ (kX9_setsOf pc) k
theorem sX9_setsOf (hn : Nat.ble (lent vs).length 1 = true) (k : wp cx 72 d Q (bX9_setsOf 0) 0 a (padN 1 (lent vs)) [] h) : M cx 72 d a vs h Q := m_go (by decide) (by decide) hn (e_pad 1 (eX9_setsOf k))
abbrev jX9_findLawful : Nat := 73
theorem eX9_findLawful (k : wp cx 73 d Q (bX9_findLawful pc) pc a loc st h) : E cx 73 d a pc loc st h Q := wp_ok _ _ _ _ _ _ (kX9_findLawful pc) k
theorem sX9_findLawful (hn : Nat.ble (lent vs).length 4 = true) (k : wp cx 73 d Q (bX9_findLawful 0) 0 a (padN 4 (lent vs)) [] h) : M cx 73 d a vs h Q := m_go (by decide) (by decide) hn (e_pad 4 (eX9_findLawful k))
abbrev jX9_atOnce : Nat := 74
theorem eX9_atOnce (k : wp cx 74 d Q (bX9_atOnce pc) pc a loc st h) : E cx 74 d a pc loc st h Q := wp_ok _ _ _ _ _ _ (kX9_atOnce pc) k
theorem sX9_atOnce (hn : Nat.ble (lent vs).length 4 = true) (k : wp cx 74 d Q (bX9_atOnce 0) 0 a (padN 4 (lent vs)) [] h) : M cx 74 d a vs h Q := m_go (by decide) (by decide) hn (e_pad 4 (eX9_atOnce k))
abbrev jX9_inSteps : Nat := 75
theorem eX9_inSteps (k : wp cx 75 d Q (bX9_inSteps pc) pc a loc st h) : E cx 75 d a pc loc st h Q := wp_ok _ _ _ _ _ _ (kX9_inSteps pc) k
theorem sX9_inSteps (hn : Nat.ble (lent vs).length 1 = true) (k : wp cx 75 d Q (bX9_inSteps 0) 0 a (padN 1 (lent vs)) [] h) : M cx 75 d a vs h Q := m_go (by decide) (by decide) hn (e_pad 1 (eX9_inSteps k))
abbrev jX9_findStepSets : Nat := 76
theorem eX9_findStepSets (k : wp cx 76 d Q (bX9_findStepSets pc) pc a loc st h) : E cx 76 d a pc loc st h Q := wp_ok _ _ _ _ _ _ (kX9_findStepSets pc) k
theorem sX9_findStepSets (hn : Nat.ble (lent vs).length 5 = true) (k : wp cx 76 d Q (bX9_findStepSets 0) 0 a (padN 5 (lent vs)) [] h) : M cx 76 d a vs h Q := m_go (by decide) (by decide) hn (e_pad 5 (eX9_findStepSets k))
abbrev jX9_findOrder : Nat := 77
theorem eX9_findOrder (k : wp cx 77 d Q (bX9_findOrder pc) pc a loc st h) : E cx 77 d a pc loc st h Q := wp_ok _ _ _ _ _ _ (kX9_findOrder pc) k
theorem sX9_findOrder (hn : Nat.ble (lent vs).length 8 = true) (k : wp cx 77 d Q (bX9_findOrder 0) 0 a (padN 8 (lent vs)) [] h) : M cx 77 d a vs h Q := m_go (by decide) (by decide) hn (e_pad 8 (eX9_findOrder k))
abbrev jX9_lowestMarked : Nat := 78
theorem eX9_lowestMarked (k : wp cx 78 d Q (bX9_lowestMarked pc) pc a loc st h) : E cx 78 d a pc loc st h Q := wp_ok _ _ _ _ _ _ (kX9_lowestMarked pc) k
theorem sX9_lowestMarked (hn : Nat.ble (lent vs).length 5 = true) (k : wp cx 78 d Q (bX9_lowestMarked 0) 0 a (padN 5 (lent vs)) [] h) : M cx 78 d a vs h Q := m_go (by decide) (by decide) hn (e_pad 5 (eX9_lowestMarked k))
abbrev jX9_stepTaken : Nat := 79
theorem eX9_stepTaken (k : wp cx 79 d Q (bX9_stepTaken pc) pc a loc st h) : E cx 79 d a pc loc st h Q := wp_ok _ _ _ _ _ _ (kX9_stepTaken pc) k
theorem sX9_stepTaken (hn : Nat.ble (lent vs).length 2 = true) (k : wp cx 79 d Q (bX9_stepTaken 0) 0 a (padN 2 (lent vs)) [] h) : M cx 79 d a vs h Q := m_go (by decide) (by decide) hn (e_pad 2 (eX9_stepTaken k))
abbrev jX9_felling : Nat := 80
theorem eX9_felling (k : wp cx 80 d Q (bX9_felling pc) pc a loc st h) : E cx 80 d a pc loc st h Q := wp_ok _ _ _ _ _ _ (kX9_felling pc) k
theorem sX9_felling (hn : Nat.ble (lent vs).length 4 = true) (k : wp cx 80 d Q (bX9_felling 0) 0 a (padN 4 (lent vs)) [] h) : M cx 80 d a vs h Q := m_go (by decide) (by decide) hn (e_pad 4 (eX9_felling k))
abbrev jX9_mending : Nat := 81
theorem eX9_mending (k : wp cx 81 d Q (bX9_mending pc) pc a loc st h) : E cx 81 d a pc loc st h Q := wp_ok _ _ _ _ _ _ (kX9_mending pc) k
theorem sX9_mending (hn : Nat.ble (lent vs).length 3 = true) (k : wp cx 81 d Q (bX9_mending 0) 0 a (padN 3 (lent vs)) [] h) : M cx 81 d a vs h Q := m_go (by decide) (by decide) hn (e_pad 3 (eX9_mending k))
abbrev jX9_play : Nat := 82
theorem eX9_play (k : wp cx 82 d Q (bX9_play pc) pc a loc st h) : E cx 82 d a pc loc st h Q := wp_ok _ _ _ _ _ _ (kX9_play pc) k
theorem sX9_play (hn : Nat.ble (lent vs).length 5 = true) (k : wp cx 82 d Q (bX9_play 0) 0 a (padN 5 (lent vs)) [] h) : M cx 82 d a vs h Q := m_go (by decide) (by decide) hn (e_pad 5 (eX9_play k))
abbrev jX9_winningIn : Nat := 83
theorem eX9_winningIn (k : wp cx 83 d Q (bX9_winningIn pc) pc a loc st h) : E cx 83 d a pc loc st h Q := wp_ok _ _ _ _ _ _ (kX9_winningIn pc) k
theorem sX9_winningIn (hn : Nat.ble (lent vs).length 4 = true) (k : wp cx 83 d Q (bX9_winningIn 0) 0 a (padN 4 (lent vs)) [] h) : M cx 83 d a vs h Q := m_go (by decide) (by decide) hn (e_pad 4 (eX9_winningIn k))
abbrev jX10_becomeAs : Nat := 85
theorem eX10_becomeAs (k : wp cx 85 d Q (bX10_becomeAs pc) pc a loc st h) : E cx 85 d a pc loc st h Q := wp_ok _ _ _ _ _ _ (kX10_becomeAs pc) k
theorem sX10_becomeAs (hn : Nat.ble (lent vs).length 3 = true) (k : wp cx 85 d Q (bX10_becomeAs 0) 0 a (padN 3 (lent vs)) [] h) : M cx 85 d a vs h Q := m_go (by decide) (by decide) hn (e_pad 3 (eX10_becomeAs k))
abbrev jX10_addStone : Nat := 86
theorem eX10_addStone (k : wp cx 86 d Q (bX10_addStone pc) pc a loc st h) : E cx 86 d a pc loc st h Q := wp_ok _ _ _ _ _ _ (kX10_addStone pc) k
theorem sX10_addStone (hn : Nat.ble (lent vs).length 7 = true) (k : wp cx 86 d Q (bX10_addStone 0) 0 a (padN 7 (lent vs)) [] h) : M cx 86 d a vs h Q := m_go (by decide) (by decide) hn (e_pad 7 (eX10_addStone k))
abbrev jX10_addSpare : Nat := 87
theorem eX10_addSpare (k : wp cx 87 d Q (bX10_addSpare pc) pc a loc st h) : E cx 87 d a pc loc st h Q := wp_ok _ _ _ _ _ _ (kX10_addSpare pc) k
theorem sX10_addSpare (hn : Nat.ble (lent vs).length 7 = true) (k : wp cx 87 d Q (bX10_addSpare 0) 0 a (padN 7 (lent vs)) [] h) : M cx 87 d a vs h Q := m_go (by decide) (by decide) hn (e_pad 7 (eX10_addSpare k))
abbrev jX10_lay : Nat := 88
theorem eX10_lay (k : wp cx 88 d Q (bX10_lay pc) pc a loc st h) : E cx 88 d a pc loc st h Q := wp_ok _ _ _ _ _ _ (kX10_lay pc) k
theorem sX10_lay (hn : Nat.ble (lent vs).length 7 = true) (k : wp cx 88 d Q (bX10_lay 0) 0 a (padN 7 (lent vs)) [] h) : M cx 88 d a vs h Q := m_go (by decide) (by decide) hn (e_pad 7 (eX10_lay k))
abbrev jX10_change : Nat := 89
theorem eX10_change (k : wp cx 89 d Q (bX10_change pc) pc a loc st h) : E cx 89 d a pc loc st h Q := wp_ok _ _ _ _ _ _ (kX10_change pc) k
theorem sX10_change (hn : Nat.ble (lent vs).length 5 = true) (k : wp cx 89 d Q (bX10_change 0) 0 a (padN 5 (lent vs)) [] h) : M cx 89 d a vs h Q := m_go (by decide) (by decide) hn (e_pad 5 (eX10_change k))
abbrev jX10_fact : Nat := 90
theorem eX10_fact (k : wp cx 90 d Q (bX10_fact pc) pc a loc st h) : E cx 90 d a pc loc st h Q := wp_ok _ _ _ _ _ _ (kX10_fact pc) k
theorem sX10_fact (hn : Nat.ble (lent vs).length 3 = true) (k : wp cx 90 d Q (bX10_fact 0) 0 a (padN 3 (lent vs)) [] h) : M cx 90 d a vs h Q := m_go (by decide) (by decide) hn (e_pad 3 (eX10_fact k))
abbrev jX10_term : Nat := 91
theorem eX10_term (k : wp cx 91 d Q (bX10_term pc) pc a loc st h) : E cx 91 d a pc loc st h Q := wp_ok _ _ _ _ _ _ (kX10_term pc) k
theorem sX10_term (hn : Nat.ble (lent vs).length 2 = true) (k : wp cx 91 d Q (bX10_term 0) 0 a (padN 2 (lent vs)) [] h) : M cx 91 d a vs h Q := m_go (by decide) (by decide) hn (e_pad 2 (eX10_term k))
abbrev jX10_changeTerm : Nat := 92
theorem eX10_changeTerm (k : wp cx 92 d Q (bX10_changeTerm pc) pc a loc st h) : E cx 92 d a pc loc st h Q := wp_ok _ _ _ _ _ _ (kX10_changeTerm pc) k
theorem sX10_changeTerm (hn : Nat.ble (lent vs).length 4 = true) (k : wp cx 92 d Q (bX10_changeTerm 0) 0 a (padN 4 (lent vs)) [] h) : M cx 92 d a vs h Q := m_go (by decide) (by decide) hn (e_pad 4 (eX10_changeTerm k))
abbrev jX10_addLaw : Nat := 93
theorem eX10_addLaw (k : wp cx 93 d Q (bX10_addLaw pc) pc a loc st h) : E cx 93 d a pc loc st h Q := wp_ok _ _ _ _ _ _ (kX10_addLaw pc) k
theorem sX10_addLaw (hn : Nat.ble (lent vs).length 3 = true) (k : wp cx 93 d Q (bX10_addLaw 0) 0 a (padN 3 (lent vs)) [] h) : M cx 93 d a vs h Q := m_go (by decide) (by decide) hn (e_pad 3 (eX10_addLaw k))
abbrev jX10_lawInForce : Nat := 94
theorem eX10_lawInForce (k : wp cx 94 d Q (bX10_lawInForce pc) pc a loc st h) : E cx 94 d a pc loc st h Q := wp_ok _ _ _ _ _ _ (kX10_lawInForce pc) k
theorem sX10_lawInForce (hn : Nat.ble (lent vs).length 1 = true) (k : wp cx 94 d Q (bX10_lawInForce 0) 0 a (padN 1 (lent vs)) [] h) : M cx 94 d a vs h Q := m_go (by decide) (by decide) hn (e_pad 1 (eX10_lawInForce k))
abbrev jX10_isStone : Nat := 95
theorem eX10_isStone (k : wp cx 95 d Q (bX10_isStone pc) pc a loc st h) : E cx 95 d a pc loc st h Q := wp_ok _ _ _ _ _ _ (kX10_isStone pc) k
theorem sX10_isStone (hn : Nat.ble (lent vs).length 2 = true) (k : wp cx 95 d Q (bX10_isStone 0) 0 a (padN 2 (lent vs)) [] h) : M cx 95 d a vs h Q := m_go (by decide) (by decide) hn (e_pad 2 (eX10_isStone k))
abbrev jX10_isPlace : Nat := 96
theorem eX10_isPlace (k : wp cx 96 d Q (bX10_isPlace pc) pc a loc st h) : E cx 96 d a pc loc st h Q := wp_ok _ _ _ _ _ _ (kX10_isPlace pc) k
theorem sX10_isPlace (hn : Nat.ble (lent vs).length 2 = true) (k : wp cx 96 d Q (bX10_isPlace 0) 0 a (padN 2 (lent vs)) [] h) : M cx 96 d a vs h Q := m_go (by decide) (by decide) hn (e_pad 2 (eX10_isPlace k))
abbrev jX10_allStones : Nat := 97
theorem eX10_allStones (k : wp cx 97 d Q (bX10_allStones pc) pc a loc st h) : E cx 97 d a pc loc st h Q := wp_ok _ _ _ _ _ _ (kX10_allStones pc) k
theorem sX10_allStones (hn : Nat.ble (lent vs).length 1 = true) (k : wp cx 97 d Q (bX10_allStones 0) 0 a (padN 1 (lent vs)) [] h) : M cx 97 d a vs h Q := m_go (by decide) (by decide) hn (e_pad 1 (eX10_allStones k))
abbrev jX10_covers : Nat := 98
theorem eX10_covers (k : wp cx 98 d Q (bX10_covers pc) pc a loc st h) : E cx 98 d a pc loc st h Q := wp_ok _ _ _ _ _ _ (kX10_covers pc) k
theorem sX10_covers (hn : Nat.ble (lent vs).length 6 = true) (k : wp cx 98 d Q (bX10_covers 0) 0 a (padN 6 (lent vs)) [] h) : M cx 98 d a vs h Q := m_go (by decide) (by decide) hn (e_pad 6 (eX10_covers k))
abbrev jX10_isTaken : Nat := 99
theorem eX10_isTaken (k : wp cx 99 d Q (bX10_isTaken pc) pc a loc st h) : E cx 99 d a pc loc st h Q := wp_ok _ _ _ _ _ _ (kX10_isTaken pc) k
theorem sX10_isTaken (hn : Nat.ble (lent vs).length 6 = true) (k : wp cx 99 d Q (bX10_isTaken 0) 0 a (padN 6 (lent vs)) [] h) : M cx 99 d a vs h Q := m_go (by decide) (by decide) hn (e_pad 6 (eX10_isTaken k))
abbrev jX10_weightOf : Nat := 100
theorem eX10_weightOf (k : wp cx 100 d Q (bX10_weightOf pc) pc a loc st h) : E cx 100 d a pc loc st h Q := wp_ok _ _ _ _ _ _ (kX10_weightOf pc) k
theorem sX10_weightOf (hn : Nat.ble (lent vs).length 4 = true) (k : wp cx 100 d Q (bX10_weightOf 0) 0 a (padN 4 (lent vs)) [] h) : M cx 100 d a vs h Q := m_go (by decide) (by decide) hn (e_pad 4 (eX10_weightOf k))
abbrev jX11_stone : Nat := 102
theorem eX11_stone (k : wp cx 102 d Q (bX11_stone pc) pc a loc st h) : E cx 102 d a pc loc st h Q := wp_ok _ _ _ _ _ _ (kX11_stone pc) k
theorem sX11_stone (hn : Nat.ble (lent vs).length 7 = true) (k : wp cx 102 d Q (bX11_stone 0) 0 a (padN 7 (lent vs)) [] h) : M cx 102 d a vs h Q := m_go (by decide) (by decide) hn (e_pad 7 (eX11_stone k))
abbrev jX11_spare : Nat := 103
theorem eX11_spare (k : wp cx 103 d Q (bX11_spare pc) pc a loc st h) : E cx 103 d a pc loc st h Q := wp_ok _ _ _ _ _ _ (kX11_spare pc) k
theorem sX11_spare (hn : Nat.ble (lent vs).length 7 = true) (k : wp cx 103 d Q (bX11_spare 0) 0 a (padN 7 (lent vs)) [] h) : M cx 103 d a vs h Q := m_go (by decide) (by decide) hn (e_pad 7 (eX11_spare k))
abbrev jX11_put : Nat := 104
theorem eX11_put (k : wp cx 104 d Q (bX11_put pc) pc a loc st h) : E cx 104 d a pc loc st h Q := wp_ok _ _ _ _ _ _ (kX11_put pc) k
theorem sX11_put (hn : Nat.ble (lent vs).length 5 = true) (k : wp cx 104 d Q (bX11_put 0) 0 a (padN 5 (lent vs)) [] h) : M cx 104 d a vs h Q := m_go (by decide) (by decide) hn (e_pad 5 (eX11_put k))
abbrev jX11_of : Nat := 105
theorem eX11_of (k : wp cx 105 d Q (bX11_of pc) pc a loc st h) : E cx 105 d a pc loc st h Q := wp_ok _ _ _ _ _ _ (kX11_of pc) k
theorem sX11_of (hn : Nat.ble (lent vs).length 3 = true) (k : wp cx 105 d Q (bX11_of 0) 0 a (padN 3 (lent vs)) [] h) : M cx 105 d a vs h Q := m_go (by decide) (by decide) hn (e_pad 3 (eX11_of k))
abbrev jX11_terms : Nat := 106
theorem eX11_terms (k : wp cx 106 d Q (bX11_terms pc) pc a loc st h) : E cx 106 d a pc loc st h Q := wp_ok _ _ _ _ _ _ (kX11_terms pc) k
theorem sX11_terms (hn : Nat.ble (lent vs).length 3 = true) (k : wp cx 106 d Q (bX11_terms 0) 0 a (padN 3 (lent vs)) [] h) : M cx 106 d a vs h Q := m_go (by decide) (by decide) hn (e_pad 3 (eX11_terms k))
abbrev jX11_feed : Nat := 107
theorem eX11_feed (k : wp cx 107 d Q (bX11_feed pc) pc a loc st h) : E cx 107 d a pc loc st h Q := wp_ok _ _ _ _ _ _ (kX11_feed pc) k
theorem sX11_feed (hn : Nat.ble (lent vs).length 6 = true) (k : wp cx 107 d Q (bX11_feed 0) 0 a (padN 6 (lent vs)) [] h) : M cx 107 d a vs h Q := m_go (by decide) (by decide) hn (e_pad 6 (eX11_feed k))
abbrev jX11_end : Nat := 108
theorem eX11_end (k : wp cx 108 d Q (bX11_end pc) pc a loc st h) : E cx 108 d a pc loc st h Q := wp_ok _ _ _ _ _ _ (kX11_end pc) k
theorem sX11_end (hn : Nat.ble (lent vs).length 2 = true) (k : wp cx 108 d Q (bX11_end 0) 0 a (padN 2 (lent vs)) [] h) : M cx 108 d a vs h Q := m_go (by decide) (by decide) hn (e_pad 2 (eX11_end k))
abbrev jX11_row : Nat := 109
theorem eX11_row (k : wp cx 109 d Q (bX11_row pc) pc a loc st h) : E cx 109 d a pc loc st h Q := wp_ok _ _ _ _ _ _ (kX11_row pc) k
theorem sX11_row (hn : Nat.ble (lent vs).length 3 = true) (k : wp cx 109 d Q (bX11_row 0) 0 a (padN 3 (lent vs)) [] h) : M cx 109 d a vs h Q := m_go (by decide) (by decide) hn (e_pad 3 (eX11_row k))
abbrev jX11_rubble : Nat := 110
theorem eX11_rubble (k : wp cx 110 d Q (bX11_rubble pc) pc a loc st h) : E cx 110 d a pc loc st h Q := wp_ok _ _ _ _ _ _ (kX11_rubble pc) k
theorem sX11_rubble (hn : Nat.ble (lent vs).length 1 = true) (k : wp cx 110 d Q (bX11_rubble 0) 0 a (padN 1 (lent vs)) [] h) : M cx 110 d a vs h Q := m_go (by decide) (by decide) hn (e_pad 1 (eX11_rubble k))
abbrev jX11_law : Nat := 111
theorem eX11_law (k : wp cx 111 d Q (bX11_law pc) pc a loc st h) : E cx 111 d a pc loc st h Q := wp_ok _ _ _ _ _ _ (kX11_law pc) k
theorem sX11_law (hn : Nat.ble (lent vs).length 3 = true) (k : wp cx 111 d Q (bX11_law 0) 0 a (padN 3 (lent vs)) [] h) : M cx 111 d a vs h Q := m_go (by decide) (by decide) hn (e_pad 3 (eX11_law k))
abbrev jX11_fault : Nat := 112
theorem eX11_fault (k : wp cx 112 d Q (bX11_fault pc) pc a loc st h) : E cx 112 d a pc loc st h Q := wp_ok _ _ _ _ _ _ (kX11_fault pc) k
theorem sX11_fault (hn : Nat.ble (lent vs).length 1 = true) (k : wp cx 112 d Q (bX11_fault 0) 0 a (padN 1 (lent vs)) [] h) : M cx 112 d a vs h Q := m_go (by decide) (by decide) hn (e_pad 1 (eX11_fault k))
abbrev jX11_force : Nat := 113
theorem eX11_force (k : wp cx 113 d Q (bX11_force pc) pc a loc st h) : E cx 113 d a pc loc st h Q := wp_ok _ _ _ _ _ _ (kX11_force pc) k
theorem sX11_force (hn : Nat.ble (lent vs).length 3 = true) (k : wp cx 113 d Q (bX11_force 0) 0 a (padN 3 (lent vs)) [] h) : M cx 113 d a vs h Q := m_go (by decide) (by decide) hn (e_pad 3 (eX11_force k))
abbrev jX11_at : Nat := 114
theorem eX11_at (k : wp cx 114 d Q (bX11_at pc) pc a loc st h) : E cx 114 d a pc loc st h Q := wp_ok _ _ _ _ _ _ (kX11_at pc) k
theorem sX11_at (hn : Nat.ble (lent vs).length 4 = true) (k : wp cx 114 d Q (bX11_at 0) 0 a (padN 4 (lent vs)) [] h) : M cx 114 d a vs h Q := m_go (by decide) (by decide) hn (e_pad 4 (eX11_at k))
abbrev jX11_touches : Nat := 115
theorem eX11_touches (k : wp cx 115 d Q (bX11_touches pc) pc a loc st h) : E cx 115 d a pc loc st h Q := wp_ok _ _ _ _ _ _ (kX11_touches pc) k
theorem sX11_touches (hn : Nat.ble (lent vs).length 3 = true) (k : wp cx 115 d Q (bX11_touches 0) 0 a (padN 3 (lent vs)) [] h) : M cx 115 d a vs h Q := m_go (by decide) (by decide) hn (e_pad 3 (eX11_touches k))
abbrev jX11_unlawful : Nat := 116
theorem eX11_unlawful (k : wp cx 116 d Q (bX11_unlawful pc) pc a loc st h) : E cx 116 d a pc loc st h Q := wp_ok _ _ _ _ _ _ (kX11_unlawful pc) k
theorem sX11_unlawful (hn : Nat.ble (lent vs).length 3 = true) (k : wp cx 116 d Q (bX11_unlawful 0) 0 a (padN 3 (lent vs)) [] h) : M cx 116 d a vs h Q := m_go (by decide) (by decide) hn (e_pad 3 (eX11_unlawful k))
abbrev jX11_there : Nat := 117
theorem eX11_there (k : wp cx 117 d Q (bX11_there pc) pc a loc st h) : E cx 117 d a pc loc st h Q := wp_ok _ _ _ _ _ _ (kX11_there pc) k
theorem sX11_there (hn : Nat.ble (lent vs).length 1 = true) (k : wp cx 117 d Q (bX11_there 0) 0 a (padN 1 (lent vs)) [] h) : M cx 117 d a vs h Q := m_go (by decide) (by decide) hn (e_pad 1 (eX11_there k))
abbrev jX11_stand : Nat := 118
theorem eX11_stand (k : wp cx 118 d Q (bX11_stand pc) pc a loc st h) : E cx 118 d a pc loc st h Q := wp_ok _ _ _ _ _ _ (kX11_stand pc) k
theorem sX11_stand (hn : Nat.ble (lent vs).length 3 = true) (k : wp cx 118 d Q (bX11_stand 0) 0 a (padN 3 (lent vs)) [] h) : M cx 118 d a vs h Q := m_go (by decide) (by decide) hn (e_pad 3 (eX11_stand k))
abbrev jX11_falls : Nat := 119
theorem eX11_falls (k : wp cx 119 d Q (bX11_falls pc) pc a loc st h) : E cx 119 d a pc loc st h Q := wp_ok _ _ _ _ _ _ (kX11_falls pc) k
theorem sX11_falls (hn : Nat.ble (lent vs).length 5 = true) (k : wp cx 119 d Q (bX11_falls 0) 0 a (padN 5 (lent vs)) [] h) : M cx 119 d a vs h Q := m_go (by decide) (by decide) hn (e_pad 5 (eX11_falls k))
abbrev jX11_round : Nat := 120
theorem eX11_round (k : wp cx 120 d Q (bX11_round pc) pc a loc st h) : E cx 120 d a pc loc st h Q := wp_ok _ _ _ _ _ _ (kX11_round pc) k
theorem sX11_round (hn : Nat.ble (lent vs).length 3 = true) (k : wp cx 120 d Q (bX11_round 0) 0 a (padN 3 (lent vs)) [] h) : M cx 120 d a vs h Q := m_go (by decide) (by decide) hn (e_pad 3 (eX11_round k))
abbrev jX11_take : Nat := 121
theorem eX11_take (k : wp cx 121 d Q (bX11_take pc) pc a loc st h) : E cx 121 d a pc loc st h Q := wp_ok _ _ _ _ _ _ (kX11_take pc) k
theorem sX11_take (hn : Nat.ble (lent vs).length 3 = true) (k : wp cx 121 d Q (bX11_take 0) 0 a (padN 3 (lent vs)) [] h) : M cx 121 d a vs h Q := m_go (by decide) (by decide) hn (e_pad 3 (eX11_take k))
abbrev jX11_farm : Nat := 122
theorem eX11_farm (k : wp cx 122 d Q (bX11_farm pc) pc a loc st h) : E cx 122 d a pc loc st h Q := wp_ok _ _ _ _ _ _ (kX11_farm pc) k
theorem sX11_farm (hn : Nat.ble (lent vs).length 6 = true) (k : wp cx 122 d Q (bX11_farm 0) 0 a (padN 6 (lent vs)) [] h) : M cx 122 d a vs h Q := m_go (by decide) (by decide) hn (e_pad 6 (eX11_farm k))
abbrev jX11_once : Nat := 123
theorem eX11_once (k : wp cx 123 d Q (bX11_once pc) pc a loc st h) : E cx 123 d a pc loc st h Q := wp_ok _ _ _ _ _ _ (kX11_once pc) k
theorem sX11_once (hn : Nat.ble (lent vs).length 2 = true) (k : wp cx 123 d Q (bX11_once 0) 0 a (padN 2 (lent vs)) [] h) : M cx 123 d a vs h Q := m_go (by decide) (by decide) hn (e_pad 2 (eX11_once k))
abbrev jX11_oneByOne : Nat := 124
theorem eX11_oneByOne (k : wp cx 124 d Q (bX11_oneByOne pc) pc a loc st h) : E cx 124 d a pc loc st h Q := wp_ok _ _ _ _ _ _ (kX11_oneByOne pc) k
theorem sX11_oneByOne (hn : Nat.ble (lent vs).length 2 = true) (k : wp cx 124 d Q (bX11_oneByOne 0) 0 a (padN 2 (lent vs)) [] h) : M cx 124 d a vs h Q := m_go (by decide) (by decide) hn (e_pad 2 (eX11_oneByOne k))
abbrev jX11_order : Nat := 125
theorem eX11_order (k : wp cx 125 d Q (bX11_order pc) pc a loc st h) : E cx 125 d a pc loc st h Q := wp_ok _ _ _ _ _ _ (kX11_order pc) k
theorem sX11_order (hn : Nat.ble (lent vs).length 2 = true) (k : wp cx 125 d Q (bX11_order 0) 0 a (padN 2 (lent vs)) [] h) : M cx 125 d a vs h Q := m_go (by decide) (by decide) hn (e_pad 2 (eX11_order k))
abbrev jX11_fell : Nat := 126
theorem eX11_fell (k : wp cx 126 d Q (bX11_fell pc) pc a loc st h) : E cx 126 d a pc loc st h Q := wp_ok _ _ _ _ _ _ (kX11_fell pc) k
theorem sX11_fell (hn : Nat.ble (lent vs).length 2 = true) (k : wp cx 126 d Q (bX11_fell 0) 0 a (padN 2 (lent vs)) [] h) : M cx 126 d a vs h Q := m_go (by decide) (by decide) hn (e_pad 2 (eX11_fell k))
abbrev jX11_gate : Nat := 127
theorem eX11_gate (k : wp cx 127 d Q (bX11_gate pc) pc a loc st h) : E cx 127 d a pc loc st h Q := wp_ok _ _ _ _ _ _ (kX11_gate pc) k
theorem sX11_gate (hn : Nat.ble (lent vs).length 8 = true) (k : wp cx 127 d Q (bX11_gate 0) 0 a (padN 8 (lent vs)) [] h) : M cx 127 d a vs h Q := m_go (by decide) (by decide) hn (e_pad 8 (eX11_gate k))
abbrev jX11_mend : Nat := 128
theorem eX11_mend (k : wp cx 128 d Q (bX11_mend pc) pc a loc st h) : E cx 128 d a pc loc st h Q := wp_ok _ _ _ _ _ _ (kX11_mend pc) k
theorem sX11_mend (hn : Nat.ble (lent vs).length 2 = true) (k : wp cx 128 d Q (bX11_mend 0) 0 a (padN 2 (lent vs)) [] h) : M cx 128 d a vs h Q := m_go (by decide) (by decide) hn (e_pad 2 (eX11_mend k))
abbrev jX11_game : Nat := 129
theorem eX11_game (k : wp cx 129 d Q (bX11_game pc) pc a loc st h) : E cx 129 d a pc loc st h Q := wp_ok _ _ _ _ _ _ (kX11_game pc) k
theorem sX11_game (hn : Nat.ble (lent vs).length 2 = true) (k : wp cx 129 d Q (bX11_game 0) 0 a (padN 2 (lent vs)) [] h) : M cx 129 d a vs h Q := m_go (by decide) (by decide) hn (e_pad 2 (eX11_game k))
abbrev jX11_night : Nat := 130
theorem eX11_night (k : wp cx 130 d Q (bX11_night pc) pc a loc st h) : E cx 130 d a pc loc st h Q := wp_ok _ _ _ _ _ _ (kX11_night pc) k
theorem sX11_night (hn : Nat.ble (lent vs).length 3 = true) (k : wp cx 130 d Q (bX11_night 0) 0 a (padN 3 (lent vs)) [] h) : M cx 130 d a vs h Q := m_go (by decide) (by decide) hn (e_pad 3 (eX11_night k))
abbrev jX11_winters : Nat := 131
theorem eX11_winters (k : wp cx 131 d Q (bX11_winters pc) pc a loc st h) : E cx 131 d a pc loc st h Q := wp_ok _ _ _ _ _ _ (kX11_winters pc) k
theorem sX11_winters (hn : Nat.ble (lent vs).length 3 = true) (k : wp cx 131 d Q (bX11_winters 0) 0 a (padN 3 (lent vs)) [] h) : M cx 131 d a vs h Q := m_go (by decide) (by decide) hn (e_pad 3 (eX11_winters k))
abbrev jX11_winter : Nat := 132
theorem eX11_winter (k : wp cx 132 d Q (bX11_winter pc) pc a loc st h) : E cx 132 d a pc loc st h Q := wp_ok _ _ _ _ _ _ (kX11_winter pc) k
theorem sX11_winter (hn : Nat.ble (lent vs).length 2 = true) (k : wp cx 132 d Q (bX11_winter 0) 0 a (padN 2 (lent vs)) [] h) : M cx 132 d a vs h Q := m_go (by decide) (by decide) hn (e_pad 2 (eX11_winter k))
abbrev jX11_image : Nat := 133
theorem eX11_image (k : wp cx 133 d Q (bX11_image pc) pc a loc st h) : E cx 133 d a pc loc st h Q := wp_ok _ _ _ _ _ _ (kX11_image pc) k
theorem sX11_image (hn : Nat.ble (lent vs).length 2 = true) (k : wp cx 133 d Q (bX11_image 0) 0 a (padN 2 (lent vs)) [] h) : M cx 133 d a vs h Q := m_go (by decide) (by decide) hn (e_pad 2 (eX11_image k))
abbrev jX11_back : Nat := 134
theorem eX11_back (k : wp cx 134 d Q (bX11_back pc) pc a loc st h) : E cx 134 d a pc loc st h Q := wp_ok _ _ _ _ _ _ (kX11_back pc) k
theorem sX11_back (hn : Nat.ble (lent vs).length 2 = true) (k : wp cx 134 d Q (bX11_back 0) 0 a (padN 2 (lent vs)) [] h) : M cx 134 d a vs h Q := m_go (by decide) (by decide) hn (e_pad 2 (eX11_back k))
abbrev jX11_count : Nat := 135
theorem eX11_count (k : wp cx 135 d Q (bX11_count pc) pc a loc st h) : E cx 135 d a pc loc st h Q := wp_ok _ _ _ _ _ _ (kX11_count pc) k
theorem sX11_count (hn : Nat.ble (lent vs).length 2 = true) (k : wp cx 135 d Q (bX11_count 0) 0 a (padN 2 (lent vs)) [] h) : M cx 135 d a vs h Q := m_go (by decide) (by decide) hn (e_pad 2 (eX11_count k))
abbrev jX11_status : Nat := 136
theorem eX11_status (k : wp cx 136 d Q (bX11_status pc) pc a loc st h) : E cx 136 d a pc loc st h Q := wp_ok _ _ _ _ _ _ (kX11_status pc) k
theorem sX11_status (hn : Nat.ble (lent vs).length 1 = true) (k : wp cx 136 d Q (bX11_status 0) 0 a (padN 1 (lent vs)) [] h) : M cx 136 d a vs h Q := m_go (by decide) (by decide) hn (e_pad 1 (eX11_status k))
abbrev jX11_refuse : Nat := 137
theorem eX11_refuse (k : wp cx 137 d Q (bX11_refuse pc) pc a loc st h) : E cx 137 d a pc loc st h Q := wp_ok _ _ _ _ _ _ (kX11_refuse pc) k
theorem sX11_refuse (hn : Nat.ble (lent vs).length 3 = true) (k : wp cx 137 d Q (bX11_refuse 0) 0 a (padN 3 (lent vs)) [] h) : M cx 137 d a vs h Q := m_go (by decide) (by decide) hn (e_pad 3 (eX11_refuse k))
abbrev jX11_accept : Nat := 138
theorem eX11_accept (k : wp cx 138 d Q (bX11_accept pc) pc a loc st h) : E cx 138 d a pc loc st h Q := wp_ok _ _ _ _ _ _ (kX11_accept pc) k
theorem sX11_accept (hn : Nat.ble (lent vs).length 2 = true) (k : wp cx 138 d Q (bX11_accept 0) 0 a (padN 2 (lent vs)) [] h) : M cx 138 d a vs h Q := m_go (by decide) (by decide) hn (e_pad 2 (eX11_accept k))
abbrev jX11_hindrance : Nat := 139
theorem eX11_hindrance (k : wp cx 139 d Q (bX11_hindrance pc) pc a loc st h) : E cx 139 d a pc loc st h Q := wp_ok _ _ _ _ _ _ (kX11_hindrance pc) k
theorem sX11_hindrance (hn : Nat.ble (lent vs).length 8 = true) (k : wp cx 139 d Q (bX11_hindrance 0) 0 a (padN 8 (lent vs)) [] h) : M cx 139 d a vs h Q := m_go (by decide) (by decide) hn (e_pad 8 (eX11_hindrance k))
abbrev jX11_addFromTape : Nat := 140
theorem eX11_addFromTape (k : wp cx 140 d Q (bX11_addFromTape pc) pc a loc st h) : E cx 140 d a pc loc st h Q := wp_ok _ _ _ _ _ _ (kX11_addFromTape pc) k
theorem sX11_addFromTape (hn : Nat.ble (lent vs).length 7 = true) (k : wp cx 140 d Q (bX11_addFromTape 0) 0 a (padN 7 (lent vs)) [] h) : M cx 140 d a vs h Q := m_go (by decide) (by decide) hn (e_pad 7 (eX11_addFromTape k))
abbrev jX11_refresh : Nat := 141
theorem eX11_refresh (k : wp cx 141 d Q (bX11_refresh pc) pc a loc st h) : E cx 141 d a pc loc st h Q := wp_ok _ _ _ _ _ _ (kX11_refresh pc) k
theorem sX11_refresh (hn : Nat.ble (lent vs).length 1 = true) (k : wp cx 141 d Q (bX11_refresh 0) 0 a (padN 1 (lent vs)) [] h) : M cx 141 d a vs h Q := m_go (by decide) (by decide) hn (e_pad 1 (eX11_refresh k))
abbrev jX11_isWithin : Nat := 142
theorem eX11_isWithin (k : wp cx 142 d Q (bX11_isWithin pc) pc a loc st h) : E cx 142 d a pc loc st h Q := wp_ok _ _ _ _ _ _ (kX11_isWithin pc) k
theorem sX11_isWithin (hn : Nat.ble (lent vs).length 3 = true) (k : wp cx 142 d Q (bX11_isWithin 0) 0 a (padN 3 (lent vs)) [] h) : M cx 142 d a vs h Q := m_go (by decide) (by decide) hn (e_pad 3 (eX11_isWithin k))
abbrev jX11_isPart : Nat := 143
theorem eX11_isPart (k : wp cx 143 d Q (bX11_isPart pc) pc a loc st h) : E cx 143 d a pc loc st h Q := wp_ok _ _ _ _ _ _ (kX11_isPart pc) k
theorem sX11_isPart (hn : Nat.ble (lent vs).length 2 = true) (k : wp cx 143 d Q (bX11_isPart 0) 0 a (padN 2 (lent vs)) [] h) : M cx 143 d a vs h Q := m_go (by decide) (by decide) hn (e_pad 2 (eX11_isPart k))
abbrev jX12_lies : Nat := 144
theorem eX12_lies (k : wp cx 144 d Q (bX12_lies pc) pc a loc st h) : E cx 144 d a pc loc st h Q := wp_ok _ _ _ _ _ _ (kX12_lies pc) k
theorem sX12_lies (hn : Nat.ble (lent vs).length 3 = true) (k : wp cx 144 d Q (bX12_lies 0) 0 a (padN 3 (lent vs)) [] h) : M cx 144 d a vs h Q := m_go (by decide) (by decide) hn (e_pad 3 (eX12_lies k))
abbrev jX12_refuses : Nat := 145
theorem eX12_refuses (k : wp cx 145 d Q (bX12_refuses pc) pc a loc st h) : E cx 145 d a pc loc st h Q := wp_ok _ _ _ _ _ _ (kX12_refuses pc) k
theorem sX12_refuses (hn : Nat.ble (lent vs).length 2 = true) (k : wp cx 145 d Q (bX12_refuses 0) 0 a (padN 2 (lent vs)) [] h) : M cx 145 d a vs h Q := m_go (by decide) (by decide) hn (e_pad 2 (eX12_refuses k))
abbrev jX12_good : Nat := 146
theorem eX12_good (k : wp cx 146 d Q (bX12_good pc) pc a loc st h) : E cx 146 d a pc loc st h Q := wp_ok _ _ _ _ _ _ (kX12_good pc) k
theorem sX12_good (hn : Nat.ble (lent vs).length 2 = true) (k : wp cx 146 d Q (bX12_good 0) 0 a (padN 2 (lent vs)) [] h) : M cx 146 d a vs h Q := m_go (by decide) (by decide) hn (e_pad 2 (eX12_good k))
abbrev jX12_isIn : Nat := 147
theorem eX12_isIn (k : wp cx 147 d Q (bX12_isIn pc) pc a loc st h) : E cx 147 d a pc loc st h Q := wp_ok _ _ _ _ _ _ (kX12_isIn pc) k
theorem sX12_isIn (hn : Nat.ble (lent vs).length 2 = true) (k : wp cx 147 d Q (bX12_isIn 0) 0 a (padN 2 (lent vs)) [] h) : M cx 147 d a vs h Q := m_go (by decide) (by decide) hn (e_pad 2 (eX12_isIn k))
abbrev jX12_ones : Nat := 148
theorem eX12_ones (k : wp cx 148 d Q (bX12_ones pc) pc a loc st h) : E cx 148 d a pc loc st h Q := wp_ok _ _ _ _ _ _ (kX12_ones pc) k
theorem sX12_ones (hn : Nat.ble (lent vs).length 3 = true) (k : wp cx 148 d Q (bX12_ones 0) 0 a (padN 3 (lent vs)) [] h) : M cx 148 d a vs h Q := m_go (by decide) (by decide) hn (e_pad 3 (eX12_ones k))
abbrev jX12_image : Nat := 150
theorem eX12_image (k : wp cx 150 d Q (bX12_image pc) pc a loc st h) : E cx 150 d a pc loc st h Q := wp_ok _ _ _ _ _ _ (kX12_image pc) k
theorem sX12_image (hn : Nat.ble (lent vs).length 3 = true) (k : wp cx 150 d Q (bX12_image 0) 0 a (padN 3 (lent vs)) [] h) : M cx 150 d a vs h Q := m_go (by decide) (by decide) hn (e_pad 3 (eX12_image k))
abbrev jX12_back : Nat := 151
theorem eX12_back (k : wp cx 151 d Q (bX12_back pc) pc a loc st h) : E cx 151 d a pc loc st h Q := wp_ok _ _ _ _ _ _ (kX12_back pc) k
theorem sX12_back (hn : Nat.ble (lent vs).length 3 = true) (k : wp cx 151 d Q (bX12_back 0) 0 a (padN 3 (lent vs)) [] h) : M cx 151 d a vs h Q := m_go (by decide) (by decide) hn (e_pad 3 (eX12_back k))
abbrev jX12_stones : Nat := 152
theorem eX12_stones (k : wp cx 152 d Q (bX12_stones pc) pc a loc st h) : E cx 152 d a pc loc st h Q := wp_ok _ _ _ _ _ _ (kX12_stones pc) k
theorem sX12_stones (hn : Nat.ble (lent vs).length 1 = true) (k : wp cx 152 d Q (bX12_stones 0) 0 a (padN 1 (lent vs)) [] h) : M cx 152 d a vs h Q := m_go (by decide) (by decide) hn (e_pad 1 (eX12_stones k))
abbrev jX12_spares : Nat := 153
theorem eX12_spares (k : wp cx 153 d Q (bX12_spares pc) pc a loc st h) : E cx 153 d a pc loc st h Q := wp_ok _ _ _ _ _ _ (kX12_spares pc) k
theorem sX12_spares (hn : Nat.ble (lent vs).length 1 = true) (k : wp cx 153 d Q (bX12_spares 0) 0 a (padN 1 (lent vs)) [] h) : M cx 153 d a vs h Q := m_go (by decide) (by decide) hn (e_pad 1 (eX12_spares k))
abbrev jX12_isStone : Nat := 154
theorem eX12_isStone (k : wp cx 154 d Q (bX12_isStone pc) pc a loc st h) : E cx 154 d a pc loc st h Q := wp_ok _ _ _ _ _ _ (kX12_isStone pc) k
theorem sX12_isStone (hn : Nat.ble (lent vs).length 2 = true) (k : wp cx 154 d Q (bX12_isStone 0) 0 a (padN 2 (lent vs)) [] h) : M cx 154 d a vs h Q := m_go (by decide) (by decide) hn (e_pad 2 (eX12_isStone k))
abbrev jX12_factOf : Nat := 155
theorem eX12_factOf (k : wp cx 155 d Q (bX12_factOf pc) pc a loc st h) : E cx 155 d a pc loc st h Q := wp_ok _ _ _ _ _ _ (kX12_factOf pc) k
theorem sX12_factOf (hn : Nat.ble (lent vs).length 3 = true) (k : wp cx 155 d Q (bX12_factOf 0) 0 a (padN 3 (lent vs)) [] h) : M cx 155 d a vs h Q := m_go (by decide) (by decide) hn (e_pad 3 (eX12_factOf k))
abbrev jX12_isItem : Nat := 156
theorem eX12_isItem (k : wp cx 156 d Q (bX12_isItem pc) pc a loc st h) : E cx 156 d a pc loc st h Q := wp_ok _ _ _ _ _ _ (kX12_isItem pc) k
theorem sX12_isItem (hn : Nat.ble (lent vs).length 2 = true) (k : wp cx 156 d Q (bX12_isItem 0) 0 a (padN 2 (lent vs)) [] h) : M cx 156 d a vs h Q := m_go (by decide) (by decide) hn (e_pad 2 (eX12_isItem k))
abbrev jX12_covers : Nat := 157
theorem eX12_covers (k : wp cx 157 d Q (bX12_covers pc) pc a loc st h) : E cx 157 d a pc loc st h Q := wp_ok _ _ _ _ _ _ (kX12_covers pc) k
theorem sX12_covers (hn : Nat.ble (lent vs).length 4 = true) (k : wp cx 157 d Q (bX12_covers 0) 0 a (padN 4 (lent vs)) [] h) : M cx 157 d a vs h Q := m_go (by decide) (by decide) hn (e_pad 4 (eX12_covers k))
abbrev jX12_canBe : Nat := 158
theorem eX12_canBe (k : wp cx 158 d Q (bX12_canBe pc) pc a loc st h) : E cx 158 d a pc loc st h Q := wp_ok _ _ _ _ _ _ (kX12_canBe pc) k
theorem sX12_canBe (hn : Nat.ble (lent vs).length 5 = true) (k : wp cx 158 d Q (bX12_canBe 0) 0 a (padN 5 (lent vs)) [] h) : M cx 158 d a vs h Q := m_go (by decide) (by decide) hn (e_pad 5 (eX12_canBe k))
abbrev jX12_isFree : Nat := 159
theorem eX12_isFree (k : wp cx 159 d Q (bX12_isFree pc) pc a loc st h) : E cx 159 d a pc loc st h Q := wp_ok _ _ _ _ _ _ (kX12_isFree pc) k
theorem sX12_isFree (hn : Nat.ble (lent vs).length 7 = true) (k : wp cx 159 d Q (bX12_isFree 0) 0 a (padN 7 (lent vs)) [] h) : M cx 159 d a vs h Q := m_go (by decide) (by decide) hn (e_pad 7 (eX12_isFree k))
abbrev jX12_lays : Nat := 160
theorem eX12_lays (k : wp cx 160 d Q (bX12_lays pc) pc a loc st h) : E cx 160 d a pc loc st h Q := wp_ok _ _ _ _ _ _ (kX12_lays pc) k
theorem sX12_lays (hn : Nat.ble (lent vs).length 8 = true) (k : wp cx 160 d Q (bX12_lays 0) 0 a (padN 8 (lent vs)) [] h) : M cx 160 d a vs h Q := m_go (by decide) (by decide) hn (e_pad 8 (eX12_lays k))
abbrev jX12_adds : Nat := 161
theorem eX12_adds (k : wp cx 161 d Q (bX12_adds pc) pc a loc st h) : E cx 161 d a pc loc st h Q := wp_ok _ _ _ _ _ _ (kX12_adds pc) k
theorem sX12_adds (hn : Nat.ble (lent vs).length 7 = true) (k : wp cx 161 d Q (bX12_adds 0) 0 a (padN 7 (lent vs)) [] h) : M cx 161 d a vs h Q := m_go (by decide) (by decide) hn (e_pad 7 (eX12_adds k))
abbrev jX12_stone : Nat := 162
theorem eX12_stone (k : wp cx 162 d Q (bX12_stone pc) pc a loc st h) : E cx 162 d a pc loc st h Q := wp_ok _ _ _ _ _ _ (kX12_stone pc) k
theorem sX12_stone (hn : Nat.ble (lent vs).length 6 = true) (k : wp cx 162 d Q (bX12_stone 0) 0 a (padN 6 (lent vs)) [] h) : M cx 162 d a vs h Q := m_go (by decide) (by decide) hn (e_pad 6 (eX12_stone k))
abbrev jX12_spare : Nat := 163
theorem eX12_spare (k : wp cx 163 d Q (bX12_spare pc) pc a loc st h) : E cx 163 d a pc loc st h Q := wp_ok _ _ _ _ _ _ (kX12_spare pc) k
theorem sX12_spare (hn : Nat.ble (lent vs).length 7 = true) (k : wp cx 163 d Q (bX12_spare 0) 0 a (padN 7 (lent vs)) [] h) : M cx 163 d a vs h Q := m_go (by decide) (by decide) hn (e_pad 7 (eX12_spare k))
abbrev jX12_put : Nat := 164
theorem eX12_put (k : wp cx 164 d Q (bX12_put pc) pc a loc st h) : E cx 164 d a pc loc st h Q := wp_ok _ _ _ _ _ _ (kX12_put pc) k
theorem sX12_put (hn : Nat.ble (lent vs).length 5 = true) (k : wp cx 164 d Q (bX12_put 0) 0 a (padN 5 (lent vs)) [] h) : M cx 164 d a vs h Q := m_go (by decide) (by decide) hn (e_pad 5 (eX12_put k))
abbrev jX12_of : Nat := 165
theorem eX12_of (k : wp cx 165 d Q (bX12_of pc) pc a loc st h) : E cx 165 d a pc loc st h Q := wp_ok _ _ _ _ _ _ (kX12_of pc) k
theorem sX12_of (hn : Nat.ble (lent vs).length 3 = true) (k : wp cx 165 d Q (bX12_of 0) 0 a (padN 3 (lent vs)) [] h) : M cx 165 d a vs h Q := m_go (by decide) (by decide) hn (e_pad 3 (eX12_of k))
abbrev jX12_terms : Nat := 166
theorem eX12_terms (k : wp cx 166 d Q (bX12_terms pc) pc a loc st h) : E cx 166 d a pc loc st h Q := wp_ok _ _ _ _ _ _ (kX12_terms pc) k
theorem sX12_terms (hn : Nat.ble (lent vs).length 4 = true) (k : wp cx 166 d Q (bX12_terms 0) 0 a (padN 4 (lent vs)) [] h) : M cx 166 d a vs h Q := m_go (by decide) (by decide) hn (e_pad 4 (eX12_terms k))
abbrev jX12_row : Nat := 167
theorem eX12_row (k : wp cx 167 d Q (bX12_row pc) pc a loc st h) : E cx 167 d a pc loc st h Q := wp_ok _ _ _ _ _ _ (kX12_row pc) k
theorem sX12_row (hn : Nat.ble (lent vs).length 5 = true) (k : wp cx 167 d Q (bX12_row 0) 0 a (padN 5 (lent vs)) [] h) : M cx 167 d a vs h Q := m_go (by decide) (by decide) hn (e_pad 5 (eX12_row k))
abbrev jX12_rubble : Nat := 168
theorem eX12_rubble (k : wp cx 168 d Q (bX12_rubble pc) pc a loc st h) : E cx 168 d a pc loc st h Q := wp_ok _ _ _ _ _ _ (kX12_rubble pc) k
theorem sX12_rubble (hn : Nat.ble (lent vs).length 1 = true) (k : wp cx 168 d Q (bX12_rubble 0) 0 a (padN 1 (lent vs)) [] h) : M cx 168 d a vs h Q := m_go (by decide) (by decide) hn (e_pad 1 (eX12_rubble k))
abbrev jX12_feed : Nat := 169
theorem eX12_feed (k : wp cx 169 d Q (bX12_feed pc) pc a loc st h) : E cx 169 d a pc loc st h Q := wp_ok _ _ _ _ _ _ (kX12_feed pc) k
theorem sX12_feed (hn : Nat.ble (lent vs).length 7 = true) (k : wp cx 169 d Q (bX12_feed 0) 0 a (padN 7 (lent vs)) [] h) : M cx 169 d a vs h Q := m_go (by decide) (by decide) hn (e_pad 7 (eX12_feed k))
abbrev jX12_end : Nat := 170
theorem eX12_end (k : wp cx 170 d Q (bX12_end pc) pc a loc st h) : E cx 170 d a pc loc st h Q := wp_ok _ _ _ _ _ _ (kX12_end pc) k
theorem sX12_end (hn : Nat.ble (lent vs).length 2 = true) (k : wp cx 170 d Q (bX12_end 0) 0 a (padN 2 (lent vs)) [] h) : M cx 170 d a vs h Q := m_go (by decide) (by decide) hn (e_pad 2 (eX12_end k))
abbrev jX12_isSmall : Nat := 171
theorem eX12_isSmall (k : wp cx 171 d Q (bX12_isSmall pc) pc a loc st h) : E cx 171 d a pc loc st h Q := wp_ok _ _ _ _ _ _ (kX12_isSmall pc) k
theorem sX12_isSmall (hn : Nat.ble (lent vs).length 1 = true) (k : wp cx 171 d Q (bX12_isSmall 0) 0 a (padN 1 (lent vs)) [] h) : M cx 171 d a vs h Q := m_go (by decide) (by decide) hn (e_pad 1 (eX12_isSmall k))
abbrev jX12_isDigit : Nat := 172
theorem eX12_isDigit (k : wp cx 172 d Q (bX12_isDigit pc) pc a loc st h) : E cx 172 d a pc loc st h Q := wp_ok _ _ _ _ _ _ (kX12_isDigit pc) k
theorem sX12_isDigit (hn : Nat.ble (lent vs).length 1 = true) (k : wp cx 172 d Q (bX12_isDigit 0) 0 a (padN 1 (lent vs)) [] h) : M cx 172 d a vs h Q := m_go (by decide) (by decide) hn (e_pad 1 (eX12_isDigit k))
abbrev jX12_wordOf : Nat := 173
theorem eX12_wordOf (k : wp cx 173 d Q (bX12_wordOf pc) pc a loc st h) : E cx 173 d a pc loc st h Q := wp_ok _ _ _ _ _ _ (kX12_wordOf pc) k
theorem sX12_wordOf (hn : Nat.ble (lent vs).length 8 = true) (k : wp cx 173 d Q (bX12_wordOf 0) 0 a (padN 8 (lent vs)) [] h) : M cx 173 d a vs h Q := m_go (by decide) (by decide) hn (e_pad 8 (eX12_wordOf k))
abbrev jX12_splits : Nat := 174
theorem eX12_splits (k : wp cx 174 d Q (bX12_splits pc) pc a loc st h) : E cx 174 d a pc loc st h Q := wp_ok _ _ _ _ _ _ (kX12_splits pc) k
theorem sX12_splits (hn : Nat.ble (lent vs).length 6 = true) (k : wp cx 174 d Q (bX12_splits 0) 0 a (padN 6 (lent vs)) [] h) : M cx 174 d a vs h Q := m_go (by decide) (by decide) hn (e_pad 6 (eX12_splits k))
abbrev jX12_fine : Nat := 175
theorem eX12_fine (k : wp cx 175 d Q (bX12_fine pc) pc a loc st h) : E cx 175 d a pc loc st h Q := wp_ok _ _ _ _ _ _ (kX12_fine pc) k
theorem sX12_fine (hn : Nat.ble (lent vs).length 1 = true) (k : wp cx 175 d Q (bX12_fine 0) 0 a (padN 1 (lent vs)) [] h) : M cx 175 d a vs h Q := m_go (by decide) (by decide) hn (e_pad 1 (eX12_fine k))
abbrev jX12_faults : Nat := 176
theorem eX12_faults (k : wp cx 176 d Q (bX12_faults pc) pc a loc st h) : E cx 176 d a pc loc st h Q := wp_ok _ _ _ _ _ _ (kX12_faults pc) k
theorem sX12_faults (hn : Nat.ble (lent vs).length 1 = true) (k : wp cx 176 d Q (bX12_faults 0) 0 a (padN 1 (lent vs)) [] h) : M cx 176 d a vs h Q := m_go (by decide) (by decide) hn (e_pad 1 (eX12_faults k))
abbrev jX12_takes0 : Nat := 177
theorem eX12_takes0 (k : wp cx 177 d Q (bX12_takes0 pc) pc a loc st h) : E cx 177 d a pc loc st h Q := wp_ok _ _ _ _ _ _ (kX12_takes0 pc) k
theorem sX12_takes0 (hn : Nat.ble (lent vs).length 3 = true) (k : wp cx 177 d Q (bX12_takes0 0) 0 a (padN 3 (lent vs)) [] h) : M cx 177 d a vs h Q := m_go (by decide) (by decide) hn (e_pad 3 (eX12_takes0 k))
abbrev jX12_must : Nat := 178
theorem eX12_must (k : wp cx 178 d Q (bX12_must pc) pc a loc st h) : E cx 178 d a pc loc st h Q := wp_ok _ _ _ _ _ _ (kX12_must pc) k
theorem sX12_must (hn : Nat.ble (lent vs).length 2 = true) (k : wp cx 178 d Q (bX12_must 0) 0 a (padN 2 (lent vs)) [] h) : M cx 178 d a vs h Q := m_go (by decide) (by decide) hn (e_pad 2 (eX12_must k))
abbrev jX12_leaf : Nat := 179
theorem eX12_leaf (k : wp cx 179 d Q (bX12_leaf pc) pc a loc st h) : E cx 179 d a pc loc st h Q := wp_ok _ _ _ _ _ _ (kX12_leaf pc) k
theorem sX12_leaf (hn : Nat.ble (lent vs).length 1 = true) (k : wp cx 179 d Q (bX12_leaf 0) 0 a (padN 1 (lent vs)) [] h) : M cx 179 d a vs h Q := m_go (by decide) (by decide) hn (e_pad 1 (eX12_leaf k))
abbrev jX12_sign : Nat := 180
theorem eX12_sign (k : wp cx 180 d Q (bX12_sign pc) pc a loc st h) : E cx 180 d a pc loc st h Q := wp_ok _ _ _ _ _ _ (kX12_sign pc) k
theorem sX12_sign (hn : Nat.ble (lent vs).length 1 = true) (k : wp cx 180 d Q (bX12_sign 0) 0 a (padN 1 (lent vs)) [] h) : M cx 180 d a vs h Q := m_go (by decide) (by decide) hn (e_pad 1 (eX12_sign k))
abbrev jX12_readClause : Nat := 181
theorem eX12_readClause (k : wp cx 181 d Q (bX12_readClause pc) pc a loc st h) : E cx 181 d a pc loc st h Q := wp_ok _ _ _ _ _ _ (kX12_readClause pc) k
theorem sX12_readClause (hn : Nat.ble (lent vs).length 1 = true) (k : wp cx 181 d Q (bX12_readClause 0) 0 a (padN 1 (lent vs)) [] h) : M cx 181 d a vs h Q := m_go (by decide) (by decide) hn (e_pad 1 (eX12_readClause k))
abbrev jX12_readTest : Nat := 182
theorem eX12_readTest (k : wp cx 182 d Q (bX12_readTest pc) pc a loc st h) : E cx 182 d a pc loc st h Q := wp_ok _ _ _ _ _ _ (kX12_readTest pc) k
theorem sX12_readTest (hn : Nat.ble (lent vs).length 2 = true) (k : wp cx 182 d Q (bX12_readTest 0) 0 a (padN 2 (lent vs)) [] h) : M cx 182 d a vs h Q := m_go (by decide) (by decide) hn (e_pad 2 (eX12_readTest k))
abbrev jX12_readBoth : Nat := 183
theorem eX12_readBoth (k : wp cx 183 d Q (bX12_readBoth pc) pc a loc st h) : E cx 183 d a pc loc st h Q := wp_ok _ _ _ _ _ _ (kX12_readBoth pc) k
theorem sX12_readBoth (hn : Nat.ble (lent vs).length 2 = true) (k : wp cx 183 d Q (bX12_readBoth 0) 0 a (padN 2 (lent vs)) [] h) : M cx 183 d a vs h Q := m_go (by decide) (by decide) hn (e_pad 2 (eX12_readBoth k))
abbrev jX12_readPlain : Nat := 184
theorem eX12_readPlain (k : wp cx 184 d Q (bX12_readPlain pc) pc a loc st h) : E cx 184 d a pc loc st h Q := wp_ok _ _ _ _ _ _ (kX12_readPlain pc) k
theorem sX12_readPlain (hn : Nat.ble (lent vs).length 4 = true) (k : wp cx 184 d Q (bX12_readPlain 0) 0 a (padN 4 (lent vs)) [] h) : M cx 184 d a vs h Q := m_go (by decide) (by decide) hn (e_pad 4 (eX12_readPlain k))
abbrev jX12_readSum : Nat := 185
theorem eX12_readSum (k : wp cx 185 d Q (bX12_readSum pc) pc a loc st h) : E cx 185 d a pc loc st h Q := wp_ok _ _ _ _ _ _ (kX12_readSum pc) k
theorem sX12_readSum (hn : Nat.ble (lent vs).length 2 = true) (k : wp cx 185 d Q (bX12_readSum 0) 0 a (padN 2 (lent vs)) [] h) : M cx 185 d a vs h Q := m_go (by decide) (by decide) hn (e_pad 2 (eX12_readSum k))
abbrev jX12_readTerm : Nat := 186
theorem eX12_readTerm (k : wp cx 186 d Q (bX12_readTerm pc) pc a loc st h) : E cx 186 d a pc loc st h Q := wp_ok _ _ _ _ _ _ (kX12_readTerm pc) k
theorem sX12_readTerm (hn : Nat.ble (lent vs).length 2 = true) (k : wp cx 186 d Q (bX12_readTerm 0) 0 a (padN 2 (lent vs)) [] h) : M cx 186 d a vs h Q := m_go (by decide) (by decide) hn (e_pad 2 (eX12_readTerm k))
abbrev jX12_readPart : Nat := 187
theorem eX12_readPart (k : wp cx 187 d Q (bX12_readPart pc) pc a loc st h) : E cx 187 d a pc loc st h Q := wp_ok _ _ _ _ _ _ (kX12_readPart pc) k
theorem sX12_readPart (hn : Nat.ble (lent vs).length 3 = true) (k : wp cx 187 d Q (bX12_readPart 0) 0 a (padN 3 (lent vs)) [] h) : M cx 187 d a vs h Q := m_go (by decide) (by decide) hn (e_pad 3 (eX12_readPart k))
abbrev jX12_reads : Nat := 188
theorem eX12_reads (k : wp cx 188 d Q (bX12_reads pc) pc a loc st h) : E cx 188 d a pc loc st h Q := wp_ok _ _ _ _ _ _ (kX12_reads pc) k
theorem sX12_reads (hn : Nat.ble (lent vs).length 2 = true) (k : wp cx 188 d Q (bX12_reads 0) 0 a (padN 2 (lent vs)) [] h) : M cx 188 d a vs h Q := m_go (by decide) (by decide) hn (e_pad 2 (eX12_reads k))
abbrev jX12_law : Nat := 189
theorem eX12_law (k : wp cx 189 d Q (bX12_law pc) pc a loc st h) : E cx 189 d a pc loc st h Q := wp_ok _ _ _ _ _ _ (kX12_law pc) k
theorem sX12_law (hn : Nat.ble (lent vs).length 3 = true) (k : wp cx 189 d Q (bX12_law 0) 0 a (padN 3 (lent vs)) [] h) : M cx 189 d a vs h Q := m_go (by decide) (by decide) hn (e_pad 3 (eX12_law k))
abbrev jX12_fault : Nat := 190
theorem eX12_fault (k : wp cx 190 d Q (bX12_fault pc) pc a loc st h) : E cx 190 d a pc loc st h Q := wp_ok _ _ _ _ _ _ (kX12_fault pc) k
theorem sX12_fault (hn : Nat.ble (lent vs).length 1 = true) (k : wp cx 190 d Q (bX12_fault 0) 0 a (padN 1 (lent vs)) [] h) : M cx 190 d a vs h Q := m_go (by decide) (by decide) hn (e_pad 1 (eX12_fault k))
abbrev jX12_force : Nat := 191
theorem eX12_force (k : wp cx 191 d Q (bX12_force pc) pc a loc st h) : E cx 191 d a pc loc st h Q := wp_ok _ _ _ _ _ _ (kX12_force pc) k
theorem sX12_force (hn : Nat.ble (lent vs).length 3 = true) (k : wp cx 191 d Q (bX12_force 0) 0 a (padN 3 (lent vs)) [] h) : M cx 191 d a vs h Q := m_go (by decide) (by decide) hn (e_pad 3 (eX12_force k))
abbrev jX12_codeAt : Nat := 192
theorem eX12_codeAt (k : wp cx 192 d Q (bX12_codeAt pc) pc a loc st h) : E cx 192 d a pc loc st h Q := wp_ok _ _ _ _ _ _ (kX12_codeAt pc) k
theorem sX12_codeAt (hn : Nat.ble (lent vs).length 2 = true) (k : wp cx 192 d Q (bX12_codeAt 0) 0 a (padN 2 (lent vs)) [] h) : M cx 192 d a vs h Q := m_go (by decide) (by decide) hn (e_pad 2 (eX12_codeAt k))
abbrev jX12_passes0 : Nat := 193
theorem eX12_passes0 (k : wp cx 193 d Q (bX12_passes0 pc) pc a loc st h) : E cx 193 d a pc loc st h Q := wp_ok _ _ _ _ _ _ (kX12_passes0 pc) k
theorem sX12_passes0 (hn : Nat.ble (lent vs).length 3 = true) (k : wp cx 193 d Q (bX12_passes0 0) 0 a (padN 3 (lent vs)) [] h) : M cx 193 d a vs h Q := m_go (by decide) (by decide) hn (e_pad 3 (eX12_passes0 k))
abbrev jX12_bounded : Nat := 194
theorem eX12_bounded (k : wp cx 194 d Q (bX12_bounded pc) pc a loc st h) : E cx 194 d a pc loc st h Q := wp_ok _ _ _ _ _ _ (kX12_bounded pc) k
theorem sX12_bounded (hn : Nat.ble (lent vs).length 4 = true) (k : wp cx 194 d Q (bX12_bounded 0) 0 a (padN 4 (lent vs)) [] h) : M cx 194 d a vs h Q := m_go (by decide) (by decide) hn (e_pad 4 (eX12_bounded k))
abbrev jX12_sumOf : Nat := 195
theorem eX12_sumOf (k : wp cx 195 d Q (bX12_sumOf pc) pc a loc st h) : E cx 195 d a pc loc st h Q := wp_ok _ _ _ _ _ _ (kX12_sumOf pc) k
theorem sX12_sumOf (hn : Nat.ble (lent vs).length 7 = true) (k : wp cx 195 d Q (bX12_sumOf 0) 0 a (padN 7 (lent vs)) [] h) : M cx 195 d a vs h Q := m_go (by decide) (by decide) hn (e_pad 7 (eX12_sumOf k))
abbrev jX12_termOf : Nat := 196
theorem eX12_termOf (k : wp cx 196 d Q (bX12_termOf pc) pc a loc st h) : E cx 196 d a pc loc st h Q := wp_ok _ _ _ _ _ _ (kX12_termOf pc) k
theorem sX12_termOf (hn : Nat.ble (lent vs).length 7 = true) (k : wp cx 196 d Q (bX12_termOf 0) 0 a (padN 7 (lent vs)) [] h) : M cx 196 d a vs h Q := m_go (by decide) (by decide) hn (e_pad 7 (eX12_termOf k))
abbrev jX12_partOf : Nat := 197
theorem eX12_partOf (k : wp cx 197 d Q (bX12_partOf pc) pc a loc st h) : E cx 197 d a pc loc st h Q := wp_ok _ _ _ _ _ _ (kX12_partOf pc) k
theorem sX12_partOf (hn : Nat.ble (lent vs).length 4 = true) (k : wp cx 197 d Q (bX12_partOf 0) 0 a (padN 4 (lent vs)) [] h) : M cx 197 d a vs h Q := m_go (by decide) (by decide) hn (e_pad 4 (eX12_partOf k))
abbrev jX12_testOf : Nat := 198
theorem eX12_testOf (k : wp cx 198 d Q (bX12_testOf pc) pc a loc st h) : E cx 198 d a pc loc st h Q := wp_ok _ _ _ _ _ _ (kX12_testOf pc) k
theorem sX12_testOf (hn : Nat.ble (lent vs).length 4 = true) (k : wp cx 198 d Q (bX12_testOf 0) 0 a (padN 4 (lent vs)) [] h) : M cx 198 d a vs h Q := m_go (by decide) (by decide) hn (e_pad 4 (eX12_testOf k))
abbrev jX12_bothOf : Nat := 199
theorem eX12_bothOf (k : wp cx 199 d Q (bX12_bothOf pc) pc a loc st h) : E cx 199 d a pc loc st h Q := wp_ok _ _ _ _ _ _ (kX12_bothOf pc) k
theorem sX12_bothOf (hn : Nat.ble (lent vs).length 4 = true) (k : wp cx 199 d Q (bX12_bothOf 0) 0 a (padN 4 (lent vs)) [] h) : M cx 199 d a vs h Q := m_go (by decide) (by decide) hn (e_pad 4 (eX12_bothOf k))
abbrev jX12_plainOf : Nat := 200
theorem eX12_plainOf (k : wp cx 200 d Q (bX12_plainOf pc) pc a loc st h) : E cx 200 d a pc loc st h Q := wp_ok _ _ _ _ _ _ (kX12_plainOf pc) k
theorem sX12_plainOf (hn : Nat.ble (lent vs).length 3 = true) (k : wp cx 200 d Q (bX12_plainOf 0) 0 a (padN 3 (lent vs)) [] h) : M cx 200 d a vs h Q := m_go (by decide) (by decide) hn (e_pad 3 (eX12_plainOf k))
abbrev jX12_positiveOf : Nat := 201
theorem eX12_positiveOf (k : wp cx 201 d Q (bX12_positiveOf pc) pc a loc st h) : E cx 201 d a pc loc st h Q := wp_ok _ _ _ _ _ _ (kX12_positiveOf pc) k
theorem sX12_positiveOf (hn : Nat.ble (lent vs).length 7 = true) (k : wp cx 201 d Q (bX12_positiveOf 0) 0 a (padN 7 (lent vs)) [] h) : M cx 201 d a vs h Q := m_go (by decide) (by decide) hn (e_pad 7 (eX12_positiveOf k))
abbrev jX12_asksOf : Nat := 202
theorem eX12_asksOf (k : wp cx 202 d Q (bX12_asksOf pc) pc a loc st h) : E cx 202 d a pc loc st h Q := wp_ok _ _ _ _ _ _ (kX12_asksOf pc) k
theorem sX12_asksOf (hn : Nat.ble (lent vs).length 7 = true) (k : wp cx 202 d Q (bX12_asksOf 0) 0 a (padN 7 (lent vs)) [] h) : M cx 202 d a vs h Q := m_go (by decide) (by decide) hn (e_pad 7 (eX12_asksOf k))
abbrev jX12_touch : Nat := 203
theorem eX12_touch (k : wp cx 203 d Q (bX12_touch pc) pc a loc st h) : E cx 203 d a pc loc st h Q := wp_ok _ _ _ _ _ _ (kX12_touch pc) k
theorem sX12_touch (hn : Nat.ble (lent vs).length 6 = true) (k : wp cx 203 d Q (bX12_touch 0) 0 a (padN 6 (lent vs)) [] h) : M cx 203 d a vs h Q := m_go (by decide) (by decide) hn (e_pad 6 (eX12_touch k))
abbrev jX12_looks : Nat := 204
theorem eX12_looks (k : wp cx 204 d Q (bX12_looks pc) pc a loc st h) : E cx 204 d a pc loc st h Q := wp_ok _ _ _ _ _ _ (kX12_looks pc) k
theorem sX12_looks (hn : Nat.ble (lent vs).length 3 = true) (k : wp cx 204 d Q (bX12_looks 0) 0 a (padN 3 (lent vs)) [] h) : M cx 204 d a vs h Q := m_go (by decide) (by decide) hn (e_pad 3 (eX12_looks k))
abbrev jX12_stands : Nat := 205
theorem eX12_stands (k : wp cx 205 d Q (bX12_stands pc) pc a loc st h) : E cx 205 d a pc loc st h Q := wp_ok _ _ _ _ _ _ (kX12_stands pc) k
theorem sX12_stands (hn : Nat.ble (lent vs).length 3 = true) (k : wp cx 205 d Q (bX12_stands 0) 0 a (padN 3 (lent vs)) [] h) : M cx 205 d a vs h Q := m_go (by decide) (by decide) hn (e_pad 3 (eX12_stands k))
abbrev jX12_loose : Nat := 206
theorem eX12_loose (k : wp cx 206 d Q (bX12_loose pc) pc a loc st h) : E cx 206 d a pc loc st h Q := wp_ok _ _ _ _ _ _ (kX12_loose pc) k
theorem sX12_loose (hn : Nat.ble (lent vs).length 4 = true) (k : wp cx 206 d Q (bX12_loose 0) 0 a (padN 4 (lent vs)) [] h) : M cx 206 d a vs h Q := m_go (by decide) (by decide) hn (e_pad 4 (eX12_loose k))
abbrev jX12_fall : Nat := 207
theorem eX12_fall (k : wp cx 207 d Q (bX12_fall pc) pc a loc st h) : E cx 207 d a pc loc st h Q := wp_ok _ _ _ _ _ _ (kX12_fall pc) k
theorem sX12_fall (hn : Nat.ble (lent vs).length 3 = true) (k : wp cx 207 d Q (bX12_fall 0) 0 a (padN 3 (lent vs)) [] h) : M cx 207 d a vs h Q := m_go (by decide) (by decide) hn (e_pad 3 (eX12_fall k))
abbrev jX12_at : Nat := 208
theorem eX12_at (k : wp cx 208 d Q (bX12_at pc) pc a loc st h) : E cx 208 d a pc loc st h Q := wp_ok _ _ _ _ _ _ (kX12_at pc) k
theorem sX12_at (hn : Nat.ble (lent vs).length 4 = true) (k : wp cx 208 d Q (bX12_at 0) 0 a (padN 4 (lent vs)) [] h) : M cx 208 d a vs h Q := m_go (by decide) (by decide) hn (e_pad 4 (eX12_at k))
abbrev jX12_touches : Nat := 209
theorem eX12_touches (k : wp cx 209 d Q (bX12_touches pc) pc a loc st h) : E cx 209 d a pc loc st h Q := wp_ok _ _ _ _ _ _ (kX12_touches pc) k
theorem sX12_touches (hn : Nat.ble (lent vs).length 4 = true) (k : wp cx 209 d Q (bX12_touches 0) 0 a (padN 4 (lent vs)) [] h) : M cx 209 d a vs h Q := m_go (by decide) (by decide) hn (e_pad 4 (eX12_touches k))
abbrev jX12_unlawful : Nat := 210
theorem eX12_unlawful (k : wp cx 210 d Q (bX12_unlawful pc) pc a loc st h) : E cx 210 d a pc loc st h Q := wp_ok _ _ _ _ _ _ (kX12_unlawful pc) k
theorem sX12_unlawful (hn : Nat.ble (lent vs).length 3 = true) (k : wp cx 210 d Q (bX12_unlawful 0) 0 a (padN 3 (lent vs)) [] h) : M cx 210 d a vs h Q := m_go (by decide) (by decide) hn (e_pad 3 (eX12_unlawful k))
abbrev jX12_there : Nat := 211
theorem eX12_there (k : wp cx 211 d Q (bX12_there pc) pc a loc st h) : E cx 211 d a pc loc st h Q := wp_ok _ _ _ _ _ _ (kX12_there pc) k
theorem sX12_there (hn : Nat.ble (lent vs).length 1 = true) (k : wp cx 211 d Q (bX12_there 0) 0 a (padN 1 (lent vs)) [] h) : M cx 211 d a vs h Q := m_go (by decide) (by decide) hn (e_pad 1 (eX12_there k))
abbrev jX12_stand : Nat := 212
theorem eX12_stand (k : wp cx 212 d Q (bX12_stand pc) pc a loc st h) : E cx 212 d a pc loc st h Q := wp_ok _ _ _ _ _ _ (kX12_stand pc) k
theorem sX12_stand (hn : Nat.ble (lent vs).length 3 = true) (k : wp cx 212 d Q (bX12_stand 0) 0 a (padN 3 (lent vs)) [] h) : M cx 212 d a vs h Q := m_go (by decide) (by decide) hn (e_pad 3 (eX12_stand k))
abbrev jX12_areThere : Nat := 213
theorem eX12_areThere (k : wp cx 213 d Q (bX12_areThere pc) pc a loc st h) : E cx 213 d a pc loc st h Q := wp_ok _ _ _ _ _ _ (kX12_areThere pc) k
theorem sX12_areThere (hn : Nat.ble (lent vs).length 2 = true) (k : wp cx 213 d Q (bX12_areThere 0) 0 a (padN 2 (lent vs)) [] h) : M cx 213 d a vs h Q := m_go (by decide) (by decide) hn (e_pad 2 (eX12_areThere k))
abbrev jX12_weightOf : Nat := 214
theorem eX12_weightOf (k : wp cx 214 d Q (bX12_weightOf pc) pc a loc st h) : E cx 214 d a pc loc st h Q := wp_ok _ _ _ _ _ _ (kX12_weightOf pc) k
theorem sX12_weightOf (hn : Nat.ble (lent vs).length 4 = true) (k : wp cx 214 d Q (bX12_weightOf 0) 0 a (padN 4 (lent vs)) [] h) : M cx 214 d a vs h Q := m_go (by decide) (by decide) hn (e_pad 4 (eX12_weightOf k))
abbrev jX12_falls : Nat := 215
theorem eX12_falls (k : wp cx 215 d Q (bX12_falls pc) pc a loc st h) : E cx 215 d a pc loc st h Q := wp_ok _ _ _ _ _ _ (kX12_falls pc) k
theorem sX12_falls (hn : Nat.ble (lent vs).length 6 = true) (k : wp cx 215 d Q (bX12_falls 0) 0 a (padN 6 (lent vs)) [] h) : M cx 215 d a vs h Q := m_go (by decide) (by decide) hn (e_pad 6 (eX12_falls k))
abbrev jX12_round : Nat := 216
theorem eX12_round (k : wp cx 216 d Q (bX12_round pc) pc a loc st h) : E cx 216 d a pc loc st h Q := wp_ok _ _ _ _ _ _ (kX12_round pc) k
theorem sX12_round (hn : Nat.ble (lent vs).length 5 = true) (k : wp cx 216 d Q (bX12_round 0) 0 a (padN 5 (lent vs)) [] h) : M cx 216 d a vs h Q := m_go (by decide) (by decide) hn (e_pad 5 (eX12_round k))
abbrev jX12_take : Nat := 217
theorem eX12_take (k : wp cx 217 d Q (bX12_take pc) pc a loc st h) : E cx 217 d a pc loc st h Q := wp_ok _ _ _ _ _ _ (kX12_take pc) k
theorem sX12_take (hn : Nat.ble (lent vs).length 3 = true) (k : wp cx 217 d Q (bX12_take 0) 0 a (padN 3 (lent vs)) [] h) : M cx 217 d a vs h Q := m_go (by decide) (by decide) hn (e_pad 3 (eX12_take k))
abbrev jX12_farm : Nat := 218
theorem eX12_farm (k : wp cx 218 d Q (bX12_farm pc) pc a loc st h) : E cx 218 d a pc loc st h Q := wp_ok _ _ _ _ _ _ (kX12_farm pc) k
theorem sX12_farm (hn : Nat.ble (lent vs).length 6 = true) (k : wp cx 218 d Q (bX12_farm 0) 0 a (padN 6 (lent vs)) [] h) : M cx 218 d a vs h Q := m_go (by decide) (by decide) hn (e_pad 6 (eX12_farm k))
abbrev jX12_sets : Nat := 219
theorem eX12_sets (k : wp cx 219 d Q (bX12_sets pc) pc a loc st h) : E cx 219 d a pc loc st h Q := wp_ok _ _ _ _ _ _ (kX12_sets pc) k
theorem sX12_sets (hn : Nat.ble (lent vs).length 5 = true) (k : wp cx 219 d Q (bX12_sets 0) 0 a (padN 5 (lent vs)) [] h) : M cx 219 d a vs h Q := m_go (by decide) (by decide) hn (e_pad 5 (eX12_sets k))
abbrev jX12_isBetter : Nat := 220
theorem eX12_isBetter (k : wp cx 220 d Q (bX12_isBetter pc) pc a loc st h) : E cx 220 d a pc loc st h Q := wp_ok _ _ _ _ _ _ (kX12_isBetter pc) k
theorem sX12_isBetter (hn : Nat.ble (lent vs).length 3 = true) (k : wp cx 220 d Q (bX12_isBetter 0) 0 a (padN 3 (lent vs)) [] h) : M cx 220 d a vs h Q := m_go (by decide) (by decide) hn (e_pad 3 (eX12_isBetter k))
abbrev jX12_takesMost : Nat := 221
theorem eX12_takesMost (k : wp cx 221 d Q (bX12_takesMost pc) pc a loc st h) : E cx 221 d a pc loc st h Q := wp_ok _ _ _ _ _ _ (kX12_takesMost pc) k
theorem sX12_takesMost (hn : Nat.ble (lent vs).length 4 = true) (k : wp cx 221 d Q (bX12_takesMost 0) 0 a (padN 4 (lent vs)) [] h) : M cx 221 d a vs h Q := m_go (by decide) (by decide) hn (e_pad 4 (eX12_takesMost k))
abbrev jX12_told : Nat := 222
theorem eX12_told (k : wp cx 222 d Q (bX12_told pc) pc a loc st h) : E cx 222 d a pc loc st h Q := wp_ok _ _ _ _ _ _ (kX12_told pc) k
theorem sX12_told (hn : Nat.ble (lent vs).length 2 = true) (k : wp cx 222 d Q (bX12_told 0) 0 a (padN 2 (lent vs)) [] h) : M cx 222 d a vs h Q := m_go (by decide) (by decide) hn (e_pad 2 (eX12_told k))
abbrev jX12_once : Nat := 223
theorem eX12_once (k : wp cx 223 d Q (bX12_once pc) pc a loc st h) : E cx 223 d a pc loc st h Q := wp_ok _ _ _ _ _ _ (kX12_once pc) k
theorem sX12_once (hn : Nat.ble (lent vs).length 2 = true) (k : wp cx 223 d Q (bX12_once 0) 0 a (padN 2 (lent vs)) [] h) : M cx 223 d a vs h Q := m_go (by decide) (by decide) hn (e_pad 2 (eX12_once k))
abbrev jX12_oneByOne : Nat := 224
theorem eX12_oneByOne (k : wp cx 224 d Q (bX12_oneByOne pc) pc a loc st h) : E cx 224 d a pc loc st h Q := wp_ok _ _ _ _ _ _ (kX12_oneByOne pc) k
theorem sX12_oneByOne (hn : Nat.ble (lent vs).length 2 = true) (k : wp cx 224 d Q (bX12_oneByOne 0) 0 a (padN 2 (lent vs)) [] h) : M cx 224 d a vs h Q := m_go (by decide) (by decide) hn (e_pad 2 (eX12_oneByOne k))
abbrev jX12_order : Nat := 225
theorem eX12_order (k : wp cx 225 d Q (bX12_order pc) pc a loc st h) : E cx 225 d a pc loc st h Q := wp_ok _ _ _ _ _ _ (kX12_order pc) k
theorem sX12_order (hn : Nat.ble (lent vs).length 6 = true) (k : wp cx 225 d Q (bX12_order 0) 0 a (padN 6 (lent vs)) [] h) : M cx 225 d a vs h Q := m_go (by decide) (by decide) hn (e_pad 6 (eX12_order k))
abbrev jX12_fell : Nat := 226
theorem eX12_fell (k : wp cx 226 d Q (bX12_fell pc) pc a loc st h) : E cx 226 d a pc loc st h Q := wp_ok _ _ _ _ _ _ (kX12_fell pc) k
theorem sX12_fell (hn : Nat.ble (lent vs).length 5 = true) (k : wp cx 226 d Q (bX12_fell 0) 0 a (padN 5 (lent vs)) [] h) : M cx 226 d a vs h Q := m_go (by decide) (by decide) hn (e_pad 5 (eX12_fell k))
abbrev jX12_gate : Nat := 227
theorem eX12_gate (k : wp cx 227 d Q (bX12_gate pc) pc a loc st h) : E cx 227 d a pc loc st h Q := wp_ok _ _ _ _ _ _ (kX12_gate pc) k
theorem sX12_gate (hn : Nat.ble (lent vs).length 9 = true) (k : wp cx 227 d Q (bX12_gate 0) 0 a (padN 9 (lent vs)) [] h) : M cx 227 d a vs h Q := m_go (by decide) (by decide) hn (e_pad 9 (eX12_gate k))
abbrev jX12_mend : Nat := 228
theorem eX12_mend (k : wp cx 228 d Q (bX12_mend pc) pc a loc st h) : E cx 228 d a pc loc st h Q := wp_ok _ _ _ _ _ _ (kX12_mend pc) k
theorem sX12_mend (hn : Nat.ble (lent vs).length 6 = true) (k : wp cx 228 d Q (bX12_mend 0) 0 a (padN 6 (lent vs)) [] h) : M cx 228 d a vs h Q := m_go (by decide) (by decide) hn (e_pad 6 (eX12_mend k))
abbrev jX12_game : Nat := 229
theorem eX12_game (k : wp cx 229 d Q (bX12_game pc) pc a loc st h) : E cx 229 d a pc loc st h Q := wp_ok _ _ _ _ _ _ (kX12_game pc) k
theorem sX12_game (hn : Nat.ble (lent vs).length 6 = true) (k : wp cx 229 d Q (bX12_game 0) 0 a (padN 6 (lent vs)) [] h) : M cx 229 d a vs h Q := m_go (by decide) (by decide) hn (e_pad 6 (eX12_game k))
abbrev jX12_night : Nat := 230
theorem eX12_night (k : wp cx 230 d Q (bX12_night pc) pc a loc st h) : E cx 230 d a pc loc st h Q := wp_ok _ _ _ _ _ _ (kX12_night pc) k
theorem sX12_night (hn : Nat.ble (lent vs).length 11 = true) (k : wp cx 230 d Q (bX12_night 0) 0 a (padN 11 (lent vs)) [] h) : M cx 230 d a vs h Q := m_go (by decide) (by decide) hn (e_pad 11 (eX12_night k))
abbrev jX12_draws : Nat := 231
theorem eX12_draws (k : wp cx 231 d Q (bX12_draws pc) pc a loc st h) : E cx 231 d a pc loc st h Q := wp_ok _ _ _ _ _ _ (kX12_draws pc) k
theorem sX12_draws (hn : Nat.ble (lent vs).length 2 = true) (k : wp cx 231 d Q (bX12_draws 0) 0 a (padN 2 (lent vs)) [] h) : M cx 231 d a vs h Q := m_go (by decide) (by decide) hn (e_pad 2 (eX12_draws k))
abbrev jX12_winters : Nat := 232
theorem eX12_winters (k : wp cx 232 d Q (bX12_winters pc) pc a loc st h) : E cx 232 d a pc loc st h Q := wp_ok _ _ _ _ _ _ (kX12_winters pc) k
theorem sX12_winters (hn : Nat.ble (lent vs).length 8 = true) (k : wp cx 232 d Q (bX12_winters 0) 0 a (padN 8 (lent vs)) [] h) : M cx 232 d a vs h Q := m_go (by decide) (by decide) hn (e_pad 8 (eX12_winters k))
abbrev jX12_winter : Nat := 233
theorem eX12_winter (k : wp cx 233 d Q (bX12_winter pc) pc a loc st h) : E cx 233 d a pc loc st h Q := wp_ok _ _ _ _ _ _ (kX12_winter pc) k
theorem sX12_winter (hn : Nat.ble (lent vs).length 2 = true) (k : wp cx 233 d Q (bX12_winter 0) 0 a (padN 2 (lent vs)) [] h) : M cx 233 d a vs h Q := m_go (by decide) (by decide) hn (e_pad 2 (eX12_winter k))
abbrev jX12_count : Nat := 234
theorem eX12_count (k : wp cx 234 d Q (bX12_count pc) pc a loc st h) : E cx 234 d a pc loc st h Q := wp_ok _ _ _ _ _ _ (kX12_count pc) k
theorem sX12_count (hn : Nat.ble (lent vs).length 2 = true) (k : wp cx 234 d Q (bX12_count 0) 0 a (padN 2 (lent vs)) [] h) : M cx 234 d a vs h Q := m_go (by decide) (by decide) hn (e_pad 2 (eX12_count k))
abbrev jX12_status : Nat := 235
theorem eX12_status (k : wp cx 235 d Q (bX12_status pc) pc a loc st h) : E cx 235 d a pc loc st h Q := wp_ok _ _ _ _ _ _ (kX12_status pc) k
theorem sX12_status (hn : Nat.ble (lent vs).length 1 = true) (k : wp cx 235 d Q (bX12_status 0) 0 a (padN 1 (lent vs)) [] h) : M cx 235 d a vs h Q := m_go (by decide) (by decide) hn (e_pad 1 (eX12_status k))
abbrev jbitCount : Nat := 236
theorem ebitCount (k : wp cx 236 d Q (bbitCount pc) pc a loc st h) : E cx 236 d a pc loc st h Q := wp_ok _ _ _ _ _ _ (kbitCount pc) k
theorem sbitCount (hn : Nat.ble (lent vs).length 1 = true) (k : wp cx 236 d Q (bbitCount 0) 0 a (padN 1 (lent vs)) [] h) : M cx 236 d a vs h Q := m_of (by have := jk_236; simp only [Bool.and_eq_true] at this; exact this.1) (by rw [mx_ok (by decide)]; exact Nat.le_of_ble_eq_true hn) (e_pad 1 (ebitCount k))
abbrev jL_law : Nat := 252
theorem eL_law (k : wp cx 252 d Q (bL_law pc) pc a loc st h) : E cx 252 d a pc loc st h Q := wp_ok _ _ _ _ _ _ (kL_law pc) k
end ST
