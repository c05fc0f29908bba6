/-! the class's reader: steps and starts written -/
section T9997
variable {cx : Cx} {d a c : Nat} {h g f : Hp} {m k : Nat}
def stepH (h : Hp) (m : Nat) (o x : Int32) : Hp := wI (wI h o_reader_steps m ((o <<< (10 &&& 31)) ||| (x &&& 1023))) o_reader 6 (nI (m + 1))
theorem m_addStep (em : hI h o_reader 6 = nI m) (hm : m < 400) (hd : 1 ≤ d) {o x : Int32} : M cx jX5_addStep d a [.ref o_reader, .int o, .int x] h (RQ (.int (nI m)) (stepH h m o x)) := by
  have cm : (nI m).toNatClampNeg = m := nI_clamp (by omega)
  have r : (0 : Int32) ≤ hI h o_reader 6 ∧ hI h o_reader 6 ≤ 399 := by rw [em]; exact ⟨nI_pos' (by omega), nI_le (b := 399) (by omega) (by decide)⟩
  have v : vp_in (hI h o_reader 6) 400 := by rw [em]; exact vp_in_nI hm (by decide)
  refine sX5_addStep rfl (wcS m_isWithin (And.intro (fun q1 => (eX5_addStep (And.intro v ?_))) (fun q1 => absurd r (b2i_0.mp q1))))
  rw [em, cm]
  have eh : wI (wI h o_reader_steps m ((o <<< (10 &&& 31)) ||| (x &&& 1023))) o_reader 6 (hI (wI h o_reader_steps m ((o <<< (10 &&& 31)) ||| (x &&& 1023))) o_reader 6 + 1) = stepH h m o x := by
    rw [rd_o (by decide), em]; unfold stepH; rw [nI_succ]
  refine wp_hp (h := wI (wI h o_reader_steps m ((o <<< (10 &&& 31)) ||| (x &&& 1023))) o_reader 6 (hI (wI h o_reader_steps m ((o <<< (10 &&& 31)) ||| (x &&& 1023))) o_reader 6 + 1)) (g := stepH h m o x) eh (RQ_eq ?_)
  rw [show hI (stepH h m o x) o_reader 6 = nI (m + 1) from rd_same, nI_succ, Int32.add_sub_cancel]
def aimH (h : Hp) (k m : Nat) : Hp := wI h o_reader_steps k (hI h o_reader_steps k ||| (nI m &&& 1023))
theorem m_aimHere (em : hI h o_reader 6 = nI m) (hk : k < 400) (hd : 1 ≤ d) : M cx jX5_aimHere d a [.ref o_reader, .int (nI k)] h (RV (aimH h k m)) := by
  have ck : (nI k).toNatClampNeg = k := nI_clamp (by omega)
  have r : (0 : Int32) ≤ nI k ∧ nI k ≤ 399 := ⟨nI_pos' (by omega), nI_le (b := 399) (by omega) (by decide)⟩
  have v : vp_in (nI k) 400 := vp_in_nI hk (by decide)
  refine sX5_aimHere rfl (wcS m_isWithin (And.intro (fun q1 => absurd r (b2i_0.mp q1)) (fun q1 => (And.intro v (And.intro v (eX5_aimHere ⟨rfl, ?_⟩))))))
  rw [ck, em]; rfl
def markH (h : Hp) (k m : Nat) : Hp := wI (wI h o_reader_starts k (nI m)) o_reader 7 (nI (k + 1))
theorem m_mark (em : hI h o_reader 6 = nI m) (ek : hI h o_reader 7 = nI k) (hk : k < ly_al o_reader_starts) (hd : 1 ≤ d) : M cx jX5_mark d a [.ref o_reader] h (RV (markH h k m)) := by
  have al : ly_al o_reader_starts < 1000 := by decide
  have ck : (nI k).toNatClampNeg = k := nI_clamp (by omega)
  have r : (0 : Int32) ≤ hI h o_reader 7 ∧ hI h o_reader 7 ≤ Int32.ofNat (ly_al o_reader_starts) - 1 := by
    rw [ek, show Int32.ofNat (ly_al o_reader_starts) - 1 = nI (ly_al o_reader_starts - 1) by decide]
    exact ⟨nI_pos' (by omega), nI_le (by omega) (by omega)⟩
  have v : vp_in (hI h o_reader 7) (ly_al o_reader_starts) := by rw [ek]; exact vp_in_nI hk (by decide)
  refine sX5_mark rfl (wcS m_isWithin (And.intro (fun q1 => absurd r (b2i_0.mp q1)) (fun q1 => (And.intro v (eX5_mark ⟨rfl, ?_⟩)))))
  rw [ek, ck, em]
  show wI (wI h o_reader_starts k (nI m)) o_reader 7 (hI (wI h o_reader_starts k (nI m)) o_reader 7 + 1) = _
  rw [rd_o (by decide), ek]; unfold markH; rw [nI_succ]
end T9997
