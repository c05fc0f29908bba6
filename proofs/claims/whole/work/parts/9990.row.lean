/-! row on both sides -/
section T9990
variable {cx : Cx} {d a c : Nat} {h g f : Hp} {w w' : Wd} {A A' : Ab} {n s t : Nat}
theorem nI_div {t : Nat} (ht : t ≤ 400) : True := trivial
/-- the wall stays well formed -/
theorem rw_wf {B : Nat → Int32} {w0 : Wd} (ws : wfS w0 n s t) (wt : wfT w0) (wi : wfI w0) (wl : wfL w0 t) : ∀ i, (∃ n, wfS (rwF w0 B i).1 n s t ∧ wfT (rwF w0 B i).1 ∧ wfI (rwF w0 B i).1 ∧ wfL (rwF w0 B i).1 t) ∧ ∀ k, 160 ≤ k → (rwF w0 B i).1 k = w0 k := by
  intro i
  induction i with
  | zero => exact ⟨⟨n, ws, wt, wi, wl⟩, fun _ _ => rfl⟩
  | succ i ih =>
    obtain ⟨⟨n, ws, wt, wi, wl⟩, e⟩ := ih
    by_cases y : rwC (rwF w0 B i).1 (B (5 * i)) (B (5 * i + 1)) (B (5 * i + 2)) (B (5 * i + 3)) (B (5 * i + 4))
    · have en : (rwF w0 B i).1 157 = nI n := ws.2.2.2.1
      have n14 := lt14 en ws.1 y.2.1
      rw [rw_yes y, en, nI_clamp (by have := ws.1; omega)]
      obtain ⟨X, Y, P, R, e1, e2, e3, e4, h1, h2, h3, h4, h5, h6⟩ := can_xy y.1
      obtain ⟨-, -, fr⟩ := y
      rw [e1, e2, e3, e4, nI_clamp (by omega), nI_clamp (by omega)] at fr
      rw [e1, e2, e3, e4]
      exact ⟨⟨n + 1, wfW_add ws wt wi wl n14 h1 h2 h3 h4 h5 h6 fr⟩, fun k hk => (add_o (by omega) (by omega) (by omega)).trans (e k hk)⟩
    · rw [rw_no y]; exact ⟨⟨n, ws, wt, wi, wl⟩, e⟩
/-- what the class's row has changed -/
def rxK (h g : Hp) : Prop := g.2 = h.2 ∧ ∀ o k, o ≠ 65 → o ≠ 68 → ¬ (o = 64 ∧ k = 11) → hI g o k = hI h o k
theorem rxK_t (p : rxK h g) (q : rxK g f) : rxK h f := ⟨q.1.trans p.1, fun o k h1 h2 h3 => (q.2 o k h1 h2 h3).trans (p.2 o k h1 h2 h3)⟩
theorem five {k : Nat} : (5 : Int32) + nI k = nI (5 + k) := nI_add 5 k
theorem x_fromTape (hd : 5 ≤ d) {i T : Nat} {B : Nat → Int32} (et : hI h o_tape 1 = nI T) (hT : T ≤ 400) (hi : 5 * i < T) (hB : ∀ k, k < 400 → hI h o_tape_bytes k = B k) (qf : wFm w h) (ws : wfS w n s t) (wi : wfI w) : M cx jX11_addFromTape d a [.ref o_x, .int (nI (5 * i))] h (fun r g => (5 * i + 5 ≤ T ∧ rwC w (B (5 * i)) (B (5 * i + 1)) (B (5 * i + 2)) (B (5 * i + 3)) (B (5 * i + 4)) ∧ r = some (.int 1) ∧ g = addStoneH h n (B (5 * i)) (B (5 * i + 1)) (B (5 * i + 2)) (B (5 * i + 3)) (B (5 * i + 4))) ∨ (¬ (5 * i + 5 ≤ T ∧ rwC w (B (5 * i)) (B (5 * i + 1)) (B (5 * i + 2)) (B (5 * i + 3)) (B (5 * i + 4))) ∧ r = some (.int 0) ∧ g = h)) := by
  have en : w 157 = nI n := ws.2.2.2.1
  have hn : n ≤ 14 := ws.1
  have eS : hI h (ly_rf o_x 0) 3 = nI n := qf.2.2.1.trans en
  refine sX11_addFromTape rfl (And.intro (fun q1 => (eX11_addFromTape ?_)) (fun q1 => And.intro (Or.inl rfl) (Or.inr ⟨fun z => q1 ?_, rfl, rfl⟩)))
  · have h5 : 5 * i + 5 ≤ T := by
      have q1 : nI (5 * i) + 5 ≤ hI h o_tape 1 := q1
      rw [et, show (5 : Int32) = nI 5 from rfl, nI_add] at q1
      exact (nI_leI (by omega) (by omega)).mp q1
    have bt : ∀ (j : Nat) (v : Int32), j < 5 → v = nI (5 * i + j) → M cx jX8_byteAt (d - 1) 0 [.ref o_tape, .int v] h (RQ (.int (B (5 * i + j))) h) := fun j v hj ev => by
      refine M_mono m_byteAt ?_
      rintro r g ⟨rfl, rfl⟩
      refine ⟨?_, rfl⟩
      rw [ev, if_pos ⟨nI_pos' (by omega), nI_lt (b := 400) (by omega) (by decide)⟩, nI_clamp (by omega), hB _ (by omega)]
    refine wcV (bt 0 _ (by decide) rfl) (wcV (bt 1 _ (by decide) (nI_add (5 * i) 1)) (wcV (bt 2 _ (by decide) (nI_add (5 * i) 2)) (wcV (bt 3 _ (by decide) (nI_add (5 * i) 3)) (wcV (bt 4 _ (by decide) (nI_add (5 * i) 4)) ?_))))
    rw [show 5 * i + 0 = 5 * i from rfl]
    generalize B (5 * i) = x, B (5 * i + 1) = y, B (5 * i + 2) = wd, B (5 * i + 3) = tl, B (5 * i + 4) = wt
    have iff0 : hinR h x y wd tl wt (if n < 14 then 1 else 0) = 0 ↔ rwC w x y wd tl wt := by
      unfold hinR rwC
      rw [en]
      have l14 : nI n < 14 ↔ n < 14 := nI_ltI (b := 14) (by omega) (by decide)
      rw [l14]
      by_cases q : cCan x y wd tl wt
      · obtain ⟨X, Y, P, R, rfl, rfl, rfl, rfl, h1, h2, h3, h4, h5, h6⟩ := can_xy q
        have ft : cFree w (nI X) (nI Y) P R ↔ ¬ fTakenB h (nI X) (nI Y) (nI P) (nI R) 22 := free_taken qf ws wi ⟨X, rfl, by omega⟩ ⟨Y, rfl, by omega⟩ h1 h2 h3 h4
        rw [if_pos q, nI_clamp (by omega), nI_clamp (by omega), ft]
        by_cases tk : fTakenB h (nI X) (nI Y) (nI P) (nI R) 22
        · rw [if_pos tk]; exact ⟨fun z => absurd z (by decide), fun z => absurd tk z.2.2⟩
        · rw [if_neg tk]
          by_cases n14 : n < 14
          · rw [if_pos n14]; exact ⟨fun _ => ⟨q, n14, tk⟩, fun _ => rfl⟩
          · rw [if_neg n14]; exact ⟨fun z => absurd z (by decide), fun z => absurd z.2.1 n14⟩
      · rw [if_neg q]; exact ⟨fun z => absurd z (by decide), fun z => absurd z.1 q⟩
    have e97 : E cx jX11_addFromTape d a 97 [some (.ref o_x), some (.int (nI (5 * i))), some (.int x), some (.int y), some (.int wd), some (.int tl), some (.int wt)] [.int (if n < 14 then 1 else 0), .int wt, .int tl, .int wd, .int y, .int x, .ref o_x] h (fun r g => (5 * i + 5 ≤ T ∧ rwC w x y wd tl wt ∧ r = some (.int 1) ∧ g = addStoneH h n x y wd tl wt) ∨ (¬ (5 * i + 5 ≤ T ∧ rwC w x y wd tl wt) ∧ r = some (.int 0) ∧ g = h)) := by
      refine eX11_addFromTape (wcV (x_hindrance (by omega)) (And.intro (fun q3 => (eX11_addFromTape (wcV (m_addStone (by omega) (qf.2.2.1.trans en) (by omega)) (And.intro (Or.inr rfl) (Or.inl ⟨h5, iff0.mp q3, rfl, rfl⟩))))) (fun q3 => (And.intro (Or.inl rfl) (Or.inr ⟨fun z => q3 (iff0.mpr z.2), rfl, rfl⟩)))))
    refine And.intro (fun q2 => (eX11_addFromTape ?_)) (fun q2 => ?_)
    · rw [eS] at q2
      rw [if_neg (fun z => nI_ge (b := 14) z (by decide) q2)] at e97
      exact e97
    · rw [eS] at q2
      rw [if_pos (Classical.byContradiction fun z => q2 (nI_le (a := 14) (by omega) (by omega)))] at e97
      exact e97
  · show nI (5 * i) + 5 ≤ hI h o_tape 1
    rw [et, show (5 : Int32) = nI 5 from rfl, nI_add]; exact nI_le z.1 (by omega)
end T9990
