/-! the start: all cells as the two constructors make them -/
def trm0 : Nat → Int32 := upd (upd (upd (fun _ => 0) 0 (nI 5)) 1 (nI 2)) 2 (nI 1)
def kpt0 : Nat → Int32 := upd (upd (upd (upd (fun _ => 0) 154 (nI 5)) 155 (nI 2)) 156 (nI 1)) 161 (-1)
def I0 : Nat → Nat → Int32 := fun o => match o with
  | 64 => fun k => if k = 10 then (-1) else if k = 12 then (nI 1) else 0
  | 65 => fun k => if k = 7 then (-1) else 0
  | 66 => fun k => if k = 7 then (-1) else 0
  | 67 => fun k => if k = 7 then (-1) else 0
  | 69 => trm0
  | 72 => trm0
  | 75 => trm0
  | 81 => fun k => if k = 9 then (-1) else 0
  | 91 => fun k => if k = 10 then (-1) else 0
  | 96 => fun k => if k = 0 then (-1) else if k = 1 then (-1) else if k = 2 then (-1) else 0
  | 97 => fun k => if k = 0 then (-1) else if k = 1 then (-1) else if k = 2 then (-1) else 0
  | 98 => fun k => if k = 0 then (-1) else if k = 1 then (-1) else 0
  | 99 => fun k => if k = 0 then (-1) else if k = 1 then (-1) else 0
  | 104 => fun k => if k = 11 then (-1) else if k = 27 then (-1) else if k = 32 then (-1) else 0
  | 106 => kpt0
  | 109 => wdU 64
  | _ => fun _ => 0
def R0 : Nat → Nat → Option Nat := fun o => match o with
  | 77 => va_up (va_up (fun _ => none) 0 (some 66)) 1 (some 67)
  | _ => fun _ => none
def H0 : Hp := (I0, fun _ _ => 0, R0, fun _ => 0, 0)
def pI : Nat → Nat := fun o => match o with
  | 64 => 0
  | 65 => 1
  | 66 => 6
  | 67 => 10
  | 68 => 2
  | 69 => 3
  | 70 => 4
  | 71 => 7
  | 72 => 8
  | 73 => 9
  | 74 => 11
  | 75 => 12
  | 76 => 13
  | 77 => 5
  | _ => o - 64
def adS (F : Nat → Nat × va_E) (b : Nat) (adK adV : Nat → Nat) : Nat → Nat := fun o => if o = 0 then b else if o < 30 then adK (o - 1) else if o < 64 then adV (o - 30) else (F (pI o)).1
def wF0 (cx : Cx) (F : Nat → Nat × va_E) (x a1 a2 a3 a4 a5 a6 a7 a8 a9 a10 a11 a12 a13 a14 a15 a16 a17 a18 a19 a20 a21 a22 a23 a24 a25 a26 a27 a28 a29 a30 a31 a32 a33 a34 a35 a36 a37 a38 a39 y b1 b2 b3 b4 b5 b6 b7 b8 b9 b10 b11 b12 b13 b14 b15 b16 b17 b18 b19 b20 b21 : Nat) : Prop := F 0 = (x, .inr (11, [.ref a1, .ref a5, .ref a14, .ref a15, .ref a17, .ref a20, .ref a27, .ref a37, .ref a39, .int 0, .int (-1), .int 0, .int (nI 1)])) ∧ F 1 = (a1, .inr (10, [.ref a2, .ref a3, .ref a4, .int 0, .int 0, .int 0, .int 0, .int (-1)])) ∧ F 2 = (a2, .inl (cxA cx 0, 154, .inl (fun _ => 0))) ∧ F 3 = (a3, .inl (cxA cx 0, 3, .inl (upd (upd (upd (fun _ => 0) 0 (nI 5)) 1 (nI 2)) 2 (nI 1)))) ∧ F 4 = (a4, .inl (cxA cx 5, 6, .inr (.inr (.inr (.inr (fun _ => none)))))) ∧ F 5 = (a5, .inl (cxA cx 4, 2, .inr (.inr (.inr (.inr (va_up (va_up (fun _ => none) 0 (some a6)) 1 (some a10))))))) ∧ F 6 = (a6, .inr (10, [.ref a7, .ref a8, .ref a9, .int 0, .int 0, .int 0, .int 0, .int (-1)])) ∧ F 7 = (a7, .inl (cxA cx 0, 154, .inl (fun _ => 0))) ∧ F 8 = (a8, .inl (cxA cx 0, 3, .inl (upd (upd (upd (fun _ => 0) 0 (nI 5)) 1 (nI 2)) 2 (nI 1)))) ∧ F 9 = (a9, .inl (cxA cx 5, 6, .inr (.inr (.inr (.inr (fun _ => none)))))) ∧ F 10 = (a10, .inr (10, [.ref a11, .ref a12, .ref a13, .int 0, .int 0, .int 0, .int 0, .int (-1)])) ∧ F 11 = (a11, .inl (cxA cx 0, 154, .inl (fun _ => 0))) ∧ F 12 = (a12, .inl (cxA cx 0, 3, .inl (upd (upd (upd (fun _ => 0) 0 (nI 5)) 1 (nI 2)) 2 (nI 1)))) ∧ F 13 = (a13, .inl (cxA cx 5, 6, .inr (.inr (.inr (.inr (fun _ => none)))))) ∧ F 14 = (a14, .inl (cxA cx 2, 2, .inl (fun _ => 0))) ∧ F 15 = (a15, .inr (8, [.ref a16, .int 0])) ∧ F 16 = (a16, .inl (cxA cx 0, 400, .inl (fun _ => 0))) ∧ F 17 = (a17, .inr (5, [.ref a18, .ref a19, .ref a15, .int 0, .int 0, .int 0, .int 0, .int 0, .int 0, .int (-1)])) ∧ F 18 = (a18, .inl (cxA cx 0, 400, .inl (fun _ => 0))) ∧ F 19 = (a19, .inl (cxA cx 0, 24, .inl (fun _ => 0))) ∧ F 20 = (a20, .inr (2, [.ref a21, .ref a23, .ref a24, .ref a25, .ref a26, .int 0])) ∧ F 21 = (a21, .inr (0, [.ref a22, .int 0, .int 0])) ∧ F 22 = (a22, .inl (cxA cx 1, 64, .inr (.inl (fun _ => 0)))) ∧ F 23 = (a23, .inl (cxA cx 0, 22, .inl (fun _ => 0))) ∧ F 24 = (a24, .inl (cxA cx 0, 22, .inl (fun _ => 0))) ∧ F 25 = (a25, .inl (cxA cx 0, 22, .inl (fun _ => 0))) ∧ F 26 = (a26, .inl (cxA cx 0, 22, .inl (fun _ => 0))) ∧ F 27 = (a27, .inr (9, [.ref a1, .ref a20, .ref a28, .ref a30, .ref a32, .ref a33, .ref a34, .ref a35, .ref a36, .int 0, .int (-1), .int 0, .int 0, .int 0])) ∧ F 28 = (a28, .inr (7, [.ref a29])) ∧ F 29 = (a29, .inl (cxA cx 1, 256, .inr (.inl (fun _ => 0)))) ∧ F 30 = (a30, .inr (7, [.ref a31])) ∧ F 31 = (a31, .inl (cxA cx 1, 256, .inr (.inl (fun _ => 0)))) ∧ F 32 = (a32, .inr (4, [.int (-1), .int (-1), .int (-1), .int 0])) ∧ F 33 = (a33, .inr (4, [.int (-1), .int (-1), .int (-1), .int 0])) ∧ F 34 = (a34, .inr (1, [.int (-1), .int (-1), .int 0])) ∧ F 35 = (a35, .inr (1, [.int (-1), .int (-1), .int 0])) ∧ F 36 = (a36, .inl (cxA cx 0, 14, .inl (fun _ => 0))) ∧ F 37 = (a37, .inr (6, [.ref a38, .int 0, .int 0])) ∧ F 38 = (a38, .inl (cxA cx 0, 40, .inl (fun _ => 0))) ∧ F 39 = (a39, .inl (cxA cx 0, 5, .inl (fun _ => 0))) ∧ F 40 = (y, .inr (12, [.int 0, .int 0, .ref b1, .ref b2, .ref b3, .ref b4, .int 0, .ref b5, .ref b6, .ref b7, .int 0, .int (-1), .ref b8, .ref b9, .ref b10, .int 0, .int 0, .int 0, .int 0, .int 0, .int 0, .int 0, .ref b11, .ref b12, .ref b13, .ref b14, .ref b15, .int (-1), .ref b16, .ref b17, .ref b18, .ref b19, .int (-1), .int 0, .int 0, .ref b20, .ref b21, .int 0, .int 0])) ∧ F 41 = (b1, .inl (cxA cx 0, 7, .inl (fun _ => 0))) ∧ F 42 = (b2, .inl (cxA cx 0, 4968, .inl (upd (upd (upd (upd (fun _ => 0) 154 (nI 5)) 155 (nI 2)) 156 (nI 1)) 161 (-1)))) ∧ F 43 = (b3, .inl (cxA cx 0, 9936, .inl (fun _ => 0))) ∧ F 44 = (b4, .inl (cxA cx 2, 2, .inl (fun _ => 0))) ∧ F 45 = (b5, .inl (cxA cx 3, 64, .inl (wdU 64))) ∧ F 46 = (b6, .inl (cxA cx 3, 400, .inl (fun _ => 0))) ∧ F 47 = (b7, .inl (cxA cx 0, 5, .inl (fun _ => 0))) ∧ F 48 = (b8, .inl (cxA cx 0, 401, .inl (fun _ => 0))) ∧ F 49 = (b9, .inl (cxA cx 0, 401, .inl (fun _ => 0))) ∧ F 50 = (b10, .inl (cxA cx 0, 401, .inl (fun _ => 0))) ∧ F 51 = (b11, .inl (cxA cx 0, 8, .inl (fun _ => 0))) ∧ F 52 = (b12, .inl (cxA cx 0, 22, .inl (fun _ => 0))) ∧ F 53 = (b13, .inl (cxA cx 2, 22, .inl (fun _ => 0))) ∧ F 54 = (b14, .inl (cxA cx 0, 22, .inl (fun _ => 0))) ∧ F 55 = (b15, .inl (cxA cx 0, 22, .inl (fun _ => 0))) ∧ F 56 = (b16, .inl (cxA cx 2, 16384, .inl (fun _ => 0))) ∧ F 57 = (b17, .inl (cxA cx 0, 16384, .inl (fun _ => 0))) ∧ F 58 = (b18, .inl (cxA cx 2, 16384, .inl (fun _ => 0))) ∧ F 59 = (b19, .inl (cxA cx 2, 16384, .inl (fun _ => 0))) ∧ F 60 = (b20, .inl (cxA cx 2, 16384, .inl (fun _ => 0))) ∧ F 61 = (b21, .inl (cxA cx 0, 40, .inl (fun _ => 0)))
theorem st_cls {cx : Cx} {F : Nat → Nat × va_E} {b : Nat} {adK adV : Nat → Nat} {x a1 a2 a3 a4 a5 a6 a7 a8 a9 a10 a11 a12 a13 a14 a15 a16 a17 a18 a19 a20 a21 a22 a23 a24 a25 a26 a27 a28 a29 a30 a31 a32 a33 a34 a35 a36 a37 a38 a39 y b1 b2 b3 b4 b5 b6 b7 b8 b9 b10 b11 b12 b13 b14 b15 b16 b17 b18 b19 b20 b21 : Nat} (q : wF0 cx F x a1 a2 a3 a4 a5 a6 a7 a8 a9 a10 a11 a12 a13 a14 a15 a16 a17 a18 a19 a20 a21 a22 a23 a24 a25 a26 a27 a28 a29 a30 a31 a32 a33 a34 a35 a36 a37 a38 a39 y b1 b2 b3 b4 b5 b6 b7 b8 b9 b10 b11 b12 b13 b14 b15 b16 b17 b18 b19 b20 b21) : ∀ k, k < 62 → (adS F b adK adV (64 + k), cE cx (adS F b adK adV) H0 (64 + k)) = F (pI (64 + k)) := by
  obtain ⟨f0, f1, f2, f3, f4, f5, f6, f7, f8, f9, f10, f11, f12, f13, f14, f15, f16, f17, f18, f19, f20, f21, f22, f23, f24, f25, f26, f27, f28, f29, f30, f31, f32, f33, f34, f35, f36, f37, f38, f39, f40, f41, f42, f43, f44, f45, f46, f47, f48, f49, f50, f51, f52, f53, f54, f55, f56, f57, f58, f59, f60, f61⟩ := q
  generalize had : adS F b adK adV = ad
  have d0 : ad 64 = x := by rw [← had]; show (F 0).1 = _; rw [f0]
  have d1 : ad 65 = a1 := by rw [← had]; show (F 1).1 = _; rw [f1]
  have d2 : ad 68 = a2 := by rw [← had]; show (F 2).1 = _; rw [f2]
  have d3 : ad 69 = a3 := by rw [← had]; show (F 3).1 = _; rw [f3]
  have d4 : ad 70 = a4 := by rw [← had]; show (F 4).1 = _; rw [f4]
  have d5 : ad 77 = a5 := by rw [← had]; show (F 5).1 = _; rw [f5]
  have d6 : ad 66 = a6 := by rw [← had]; show (F 6).1 = _; rw [f6]
  have d7 : ad 71 = a7 := by rw [← had]; show (F 7).1 = _; rw [f7]
  have d8 : ad 72 = a8 := by rw [← had]; show (F 8).1 = _; rw [f8]
  have d9 : ad 73 = a9 := by rw [← had]; show (F 9).1 = _; rw [f9]
  have d10 : ad 67 = a10 := by rw [← had]; show (F 10).1 = _; rw [f10]
  have d11 : ad 74 = a11 := by rw [← had]; show (F 11).1 = _; rw [f11]
  have d12 : ad 75 = a12 := by rw [← had]; show (F 12).1 = _; rw [f12]
  have d13 : ad 76 = a13 := by rw [← had]; show (F 13).1 = _; rw [f13]
  have d14 : ad 78 = a14 := by rw [← had]; show (F 14).1 = _; rw [f14]
  have d15 : ad 79 = a15 := by rw [← had]; show (F 15).1 = _; rw [f15]
  have d16 : ad 80 = a16 := by rw [← had]; show (F 16).1 = _; rw [f16]
  have d17 : ad 81 = a17 := by rw [← had]; show (F 17).1 = _; rw [f17]
  have d18 : ad 82 = a18 := by rw [← had]; show (F 18).1 = _; rw [f18]
  have d19 : ad 83 = a19 := by rw [← had]; show (F 19).1 = _; rw [f19]
  have d20 : ad 84 = a20 := by rw [← had]; show (F 20).1 = _; rw [f20]
  have d21 : ad 85 = a21 := by rw [← had]; show (F 21).1 = _; rw [f21]
  have d22 : ad 86 = a22 := by rw [← had]; show (F 22).1 = _; rw [f22]
  have d23 : ad 87 = a23 := by rw [← had]; show (F 23).1 = _; rw [f23]
  have d24 : ad 88 = a24 := by rw [← had]; show (F 24).1 = _; rw [f24]
  have d25 : ad 89 = a25 := by rw [← had]; show (F 25).1 = _; rw [f25]
  have d26 : ad 90 = a26 := by rw [← had]; show (F 26).1 = _; rw [f26]
  have d27 : ad 91 = a27 := by rw [← had]; show (F 27).1 = _; rw [f27]
  have d28 : ad 92 = a28 := by rw [← had]; show (F 28).1 = _; rw [f28]
  have d29 : ad 93 = a29 := by rw [← had]; show (F 29).1 = _; rw [f29]
  have d30 : ad 94 = a30 := by rw [← had]; show (F 30).1 = _; rw [f30]
  have d31 : ad 95 = a31 := by rw [← had]; show (F 31).1 = _; rw [f31]
  have d32 : ad 96 = a32 := by rw [← had]; show (F 32).1 = _; rw [f32]
  have d33 : ad 97 = a33 := by rw [← had]; show (F 33).1 = _; rw [f33]
  have d34 : ad 98 = a34 := by rw [← had]; show (F 34).1 = _; rw [f34]
  have d35 : ad 99 = a35 := by rw [← had]; show (F 35).1 = _; rw [f35]
  have d36 : ad 100 = a36 := by rw [← had]; show (F 36).1 = _; rw [f36]
  have d37 : ad 101 = a37 := by rw [← had]; show (F 37).1 = _; rw [f37]
  have d38 : ad 102 = a38 := by rw [← had]; show (F 38).1 = _; rw [f38]
  have d39 : ad 103 = a39 := by rw [← had]; show (F 39).1 = _; rw [f39]
  have d40 : ad 104 = y := by rw [← had]; show (F 40).1 = _; rw [f40]
  have d41 : ad 105 = b1 := by rw [← had]; show (F 41).1 = _; rw [f41]
  have d42 : ad 106 = b2 := by rw [← had]; show (F 42).1 = _; rw [f42]
  have d43 : ad 107 = b3 := by rw [← had]; show (F 43).1 = _; rw [f43]
  have d44 : ad 108 = b4 := by rw [← had]; show (F 44).1 = _; rw [f44]
  have d45 : ad 109 = b5 := by rw [← had]; show (F 45).1 = _; rw [f45]
  have d46 : ad 110 = b6 := by rw [← had]; show (F 46).1 = _; rw [f46]
  have d47 : ad 111 = b7 := by rw [← had]; show (F 47).1 = _; rw [f47]
  have d48 : ad 112 = b8 := by rw [← had]; show (F 48).1 = _; rw [f48]
  have d49 : ad 113 = b9 := by rw [← had]; show (F 49).1 = _; rw [f49]
  have d50 : ad 114 = b10 := by rw [← had]; show (F 50).1 = _; rw [f50]
  have d51 : ad 115 = b11 := by rw [← had]; show (F 51).1 = _; rw [f51]
  have d52 : ad 116 = b12 := by rw [← had]; show (F 52).1 = _; rw [f52]
  have d53 : ad 117 = b13 := by rw [← had]; show (F 53).1 = _; rw [f53]
  have d54 : ad 118 = b14 := by rw [← had]; show (F 54).1 = _; rw [f54]
  have d55 : ad 119 = b15 := by rw [← had]; show (F 55).1 = _; rw [f55]
  have d56 : ad 120 = b16 := by rw [← had]; show (F 56).1 = _; rw [f56]
  have d57 : ad 121 = b17 := by rw [← had]; show (F 57).1 = _; rw [f57]
  have d58 : ad 122 = b18 := by rw [← had]; show (F 58).1 = _; rw [f58]
  have d59 : ad 123 = b19 := by rw [← had]; show (F 59).1 = _; rw [f59]
  have d60 : ad 124 = b20 := by rw [← had]; show (F 60).1 = _; rw [f60]
  have d61 : ad 125 = b21 := by rw [← had]; show (F 61).1 = _; rw [f61]
  have e0 : (ad 64, cE cx ad H0 64) = F 0 := by
    have e : cE cx ad H0 64 = .inr (11, [.ref (ad 65), .ref (ad 77), .ref (ad 78), .ref (ad 79), .ref (ad 81), .ref (ad 84), .ref (ad 91), .ref (ad 101), .ref (ad 103), .int 0, .int (-1), .int 0, .int (nI 1)]) := rfl
    rw [d1, d5, d14, d15, d17, d20, d27, d37, d39] at e; rw [f0, d0, e]
  have e1 : (ad 65, cE cx ad H0 65) = F 1 := by
    have e : cE cx ad H0 65 = .inr (10, [.ref (ad 68), .ref (ad 69), .ref (ad 70), .int 0, .int 0, .int 0, .int 0, .int (-1)]) := rfl
    rw [d2, d3, d4] at e; rw [f1, d1, e]
  have e2 : (ad 68, cE cx ad H0 68) = F 2 := by rw [f2, d2]; rfl
  have e3 : (ad 69, cE cx ad H0 69) = F 3 := by rw [f3, d3]; rfl
  have e4 : (ad 70, cE cx ad H0 70) = F 4 := by rw [f4, d4]; rfl
  have e5 : (ad 77, cE cx ad H0 77) = F 5 := by
    have e : (fun k => (R0 77 k).map ad) = va_up (va_up (fun _ => none) 0 (some a6)) 1 (some a10) := by
      funext k
      show (va_up (va_up (fun _ => none) 0 (some 66)) 1 (some 67) k).map ad = _
      unfold va_up
      by_cases k1 : k = 1
      · rw [if_pos k1, if_pos k1]; show some (ad 67) = _; rw [d10]
      · rw [if_neg k1, if_neg k1]
        by_cases k0 : k = 0
        · rw [if_pos k0, if_pos k0]; show some (ad 66) = _; rw [d6]
        · rw [if_neg k0, if_neg k0]; rfl
    rw [f5, d5, ← e]; rfl
  have e6 : (ad 66, cE cx ad H0 66) = F 6 := by
    have e : cE cx ad H0 66 = .inr (10, [.ref (ad 71), .ref (ad 72), .ref (ad 73), .int 0, .int 0, .int 0, .int 0, .int (-1)]) := rfl
    rw [d7, d8, d9] at e; rw [f6, d6, e]
  have e7 : (ad 71, cE cx ad H0 71) = F 7 := by rw [f7, d7]; rfl
  have e8 : (ad 72, cE cx ad H0 72) = F 8 := by rw [f8, d8]; rfl
  have e9 : (ad 73, cE cx ad H0 73) = F 9 := by rw [f9, d9]; rfl
  have e10 : (ad 67, cE cx ad H0 67) = F 10 := by
    have e : cE cx ad H0 67 = .inr (10, [.ref (ad 74), .ref (ad 75), .ref (ad 76), .int 0, .int 0, .int 0, .int 0, .int (-1)]) := rfl
    rw [d11, d12, d13] at e; rw [f10, d10, e]
  have e11 : (ad 74, cE cx ad H0 74) = F 11 := by rw [f11, d11]; rfl
  have e12 : (ad 75, cE cx ad H0 75) = F 12 := by rw [f12, d12]; rfl
  have e13 : (ad 76, cE cx ad H0 76) = F 13 := by rw [f13, d13]; rfl
  have e14 : (ad 78, cE cx ad H0 78) = F 14 := by rw [f14, d14]; rfl
  have e15 : (ad 79, cE cx ad H0 79) = F 15 := by
    have e : cE cx ad H0 79 = .inr (8, [.ref (ad 80), .int 0]) := rfl
    rw [d16] at e; rw [f15, d15, e]
  have e16 : (ad 80, cE cx ad H0 80) = F 16 := by rw [f16, d16]; rfl
  have e17 : (ad 81, cE cx ad H0 81) = F 17 := by
    have e : cE cx ad H0 81 = .inr (5, [.ref (ad 82), .ref (ad 83), .ref (ad 79), .int 0, .int 0, .int 0, .int 0, .int 0, .int 0, .int (-1)]) := rfl
    rw [d18, d19, d15] at e; rw [f17, d17, e]
  have e18 : (ad 82, cE cx ad H0 82) = F 18 := by rw [f18, d18]; rfl
  have e19 : (ad 83, cE cx ad H0 83) = F 19 := by rw [f19, d19]; rfl
  have e20 : (ad 84, cE cx ad H0 84) = F 20 := by
    have e : cE cx ad H0 84 = .inr (2, [.ref (ad 85), .ref (ad 87), .ref (ad 88), .ref (ad 89), .ref (ad 90), .int 0]) := rfl
    rw [d21, d23, d24, d25, d26] at e; rw [f20, d20, e]
  have e21 : (ad 85, cE cx ad H0 85) = F 21 := by
    have e : cE cx ad H0 85 = .inr (0, [.ref (ad 86), .int 0, .int 0]) := rfl
    rw [d22] at e; rw [f21, d21, e]
  have e22 : (ad 86, cE cx ad H0 86) = F 22 := by rw [f22, d22]; rfl
  have e23 : (ad 87, cE cx ad H0 87) = F 23 := by rw [f23, d23]; rfl
  have e24 : (ad 88, cE cx ad H0 88) = F 24 := by rw [f24, d24]; rfl
  have e25 : (ad 89, cE cx ad H0 89) = F 25 := by rw [f25, d25]; rfl
  have e26 : (ad 90, cE cx ad H0 90) = F 26 := by rw [f26, d26]; rfl
  have e27 : (ad 91, cE cx ad H0 91) = F 27 := by
    have e : cE cx ad H0 91 = .inr (9, [.ref (ad 65), .ref (ad 84), .ref (ad 92), .ref (ad 94), .ref (ad 96), .ref (ad 97), .ref (ad 98), .ref (ad 99), .ref (ad 100), .int 0, .int (-1), .int 0, .int 0, .int 0]) := rfl
    rw [d1, d20, d28, d30, d32, d33, d34, d35, d36] at e; rw [f27, d27, e]
  have e28 : (ad 92, cE cx ad H0 92) = F 28 := by
    have e : cE cx ad H0 92 = .inr (7, [.ref (ad 93)]) := rfl
    rw [d29] at e; rw [f28, d28, e]
  have e29 : (ad 93, cE cx ad H0 93) = F 29 := by rw [f29, d29]; rfl
  have e30 : (ad 94, cE cx ad H0 94) = F 30 := by
    have e : cE cx ad H0 94 = .inr (7, [.ref (ad 95)]) := rfl
    rw [d31] at e; rw [f30, d30, e]
  have e31 : (ad 95, cE cx ad H0 95) = F 31 := by rw [f31, d31]; rfl
  have e32 : (ad 96, cE cx ad H0 96) = F 32 := by
    have e : cE cx ad H0 96 = .inr (4, [.int (-1), .int (-1), .int (-1), .int 0]) := rfl
    rw [f32, d32, e]
  have e33 : (ad 97, cE cx ad H0 97) = F 33 := by
    have e : cE cx ad H0 97 = .inr (4, [.int (-1), .int (-1), .int (-1), .int 0]) := rfl
    rw [f33, d33, e]
  have e34 : (ad 98, cE cx ad H0 98) = F 34 := by
    have e : cE cx ad H0 98 = .inr (1, [.int (-1), .int (-1), .int 0]) := rfl
    rw [f34, d34, e]
  have e35 : (ad 99, cE cx ad H0 99) = F 35 := by
    have e : cE cx ad H0 99 = .inr (1, [.int (-1), .int (-1), .int 0]) := rfl
    rw [f35, d35, e]
  have e36 : (ad 100, cE cx ad H0 100) = F 36 := by rw [f36, d36]; rfl
  have e37 : (ad 101, cE cx ad H0 101) = F 37 := by
    have e : cE cx ad H0 101 = .inr (6, [.ref (ad 102), .int 0, .int 0]) := rfl
    rw [d38] at e; rw [f37, d37, e]
  have e38 : (ad 102, cE cx ad H0 102) = F 38 := by rw [f38, d38]; rfl
  have e39 : (ad 103, cE cx ad H0 103) = F 39 := by rw [f39, d39]; rfl
  have e40 : (ad 104, cE cx ad H0 104) = F 40 := by
    have e : cE cx ad H0 104 = .inr (12, [.int 0, .int 0, .ref (ad 105), .ref (ad 106), .ref (ad 107), .ref (ad 108), .int 0, .ref (ad 109), .ref (ad 110), .ref (ad 111), .int 0, .int (-1), .ref (ad 112), .ref (ad 113), .ref (ad 114), .int 0, .int 0, .int 0, .int 0, .int 0, .int 0, .int 0, .ref (ad 115), .ref (ad 116), .ref (ad 117), .ref (ad 118), .ref (ad 119), .int (-1), .ref (ad 120), .ref (ad 121), .ref (ad 122), .ref (ad 123), .int (-1), .int 0, .int 0, .ref (ad 124), .ref (ad 125), .int 0, .int 0]) := rfl
    rw [d41, d42, d43, d44, d45, d46, d47, d48, d49, d50, d51, d52, d53, d54, d55, d56, d57, d58, d59, d60, d61] at e; rw [f40, d40, e]
  have e41 : (ad 105, cE cx ad H0 105) = F 41 := by rw [f41, d41]; rfl
  have e42 : (ad 106, cE cx ad H0 106) = F 42 := by rw [f42, d42]; rfl
  have e43 : (ad 107, cE cx ad H0 107) = F 43 := by rw [f43, d43]; rfl
  have e44 : (ad 108, cE cx ad H0 108) = F 44 := by rw [f44, d44]; rfl
  have e45 : (ad 109, cE cx ad H0 109) = F 45 := by rw [f45, d45]; rfl
  have e46 : (ad 110, cE cx ad H0 110) = F 46 := by rw [f46, d46]; rfl
  have e47 : (ad 111, cE cx ad H0 111) = F 47 := by rw [f47, d47]; rfl
  have e48 : (ad 112, cE cx ad H0 112) = F 48 := by rw [f48, d48]; rfl
  have e49 : (ad 113, cE cx ad H0 113) = F 49 := by rw [f49, d49]; rfl
  have e50 : (ad 114, cE cx ad H0 114) = F 50 := by rw [f50, d50]; rfl
  have e51 : (ad 115, cE cx ad H0 115) = F 51 := by rw [f51, d51]; rfl
  have e52 : (ad 116, cE cx ad H0 116) = F 52 := by rw [f52, d52]; rfl
  have e53 : (ad 117, cE cx ad H0 117) = F 53 := by rw [f53, d53]; rfl
  have e54 : (ad 118, cE cx ad H0 118) = F 54 := by rw [f54, d54]; rfl
  have e55 : (ad 119, cE cx ad H0 119) = F 55 := by rw [f55, d55]; rfl
  have e56 : (ad 120, cE cx ad H0 120) = F 56 := by rw [f56, d56]; rfl
  have e57 : (ad 121, cE cx ad H0 121) = F 57 := by rw [f57, d57]; rfl
  have e58 : (ad 122, cE cx ad H0 122) = F 58 := by rw [f58, d58]; rfl
  have e59 : (ad 123, cE cx ad H0 123) = F 59 := by rw [f59, d59]; rfl
  have e60 : (ad 124, cE cx ad H0 124) = F 60 := by rw [f60, d60]; rfl
  have e61 : (ad 125, cE cx ad H0 125) = F 61 := by rw [f61, d61]; rfl
  intro k hk
  have cs : k = 0 ∨ k = 1 ∨ k = 2 ∨ k = 3 ∨ k = 4 ∨ k = 5 ∨ k = 6 ∨ k = 7 ∨ k = 8 ∨ k = 9 ∨ k = 10 ∨ k = 11 ∨ k = 12 ∨ k = 13 ∨ k = 14 ∨ k = 15 ∨ k = 16 ∨ k = 17 ∨ k = 18 ∨ k = 19 ∨ k = 20 ∨ k = 21 ∨ k = 22 ∨ k = 23 ∨ k = 24 ∨ k = 25 ∨ k = 26 ∨ k = 27 ∨ k = 28 ∨ k = 29 ∨ k = 30 ∨ k = 31 ∨ k = 32 ∨ k = 33 ∨ k = 34 ∨ k = 35 ∨ k = 36 ∨ k = 37 ∨ k = 38 ∨ k = 39 ∨ k = 40 ∨ k = 41 ∨ k = 42 ∨ k = 43 ∨ k = 44 ∨ k = 45 ∨ k = 46 ∨ k = 47 ∨ k = 48 ∨ k = 49 ∨ k = 50 ∨ k = 51 ∨ k = 52 ∨ k = 53 ∨ k = 54 ∨ k = 55 ∨ k = 56 ∨ k = 57 ∨ k = 58 ∨ k = 59 ∨ k = 60 ∨ k = 61 := by omega
  rcases cs with rfl | rfl | rfl | rfl | rfl | rfl | rfl | rfl | rfl | rfl | rfl | rfl | rfl | rfl | rfl | rfl | rfl | rfl | rfl | rfl | rfl | rfl | rfl | rfl | rfl | rfl | rfl | rfl | rfl | rfl | rfl | rfl | rfl | rfl | rfl | rfl | rfl | rfl | rfl | rfl | rfl | rfl | rfl | rfl | rfl | rfl | rfl | rfl | rfl | rfl | rfl | rfl | rfl | rfl | rfl | rfl | rfl | rfl | rfl | rfl | rfl | rfl
  · exact e0
  · exact e1
  · exact e6
  · exact e10
  · exact e2
  · exact e3
  · exact e4
  · exact e7
  · exact e8
  · exact e9
  · exact e11
  · exact e12
  · exact e13
  · exact e5
  · exact e14
  · exact e15
  · exact e16
  · exact e17
  · exact e18
  · exact e19
  · exact e20
  · exact e21
  · exact e22
  · exact e23
  · exact e24
  · exact e25
  · exact e26
  · exact e27
  · exact e28
  · exact e29
  · exact e30
  · exact e31
  · exact e32
  · exact e33
  · exact e34
  · exact e35
  · exact e36
  · exact e37
  · exact e38
  · exact e39
  · exact e40
  · exact e41
  · exact e42
  · exact e43
  · exact e44
  · exact e45
  · exact e46
  · exact e47
  · exact e48
  · exact e49
  · exact e50
  · exact e51
  · exact e52
  · exact e53
  · exact e54
  · exact e55
  · exact e56
  · exact e57
  · exact e58
  · exact e59
  · exact e60
  · exact e61
