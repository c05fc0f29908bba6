/-! the small constructors -/
abbrev cj0_0 : List (Nat × Instr × Nat) := [(0, .aload_n 0, 1), (1, .invokespecial 3, 3), (4, .aload_n 0, 1), (5, .bipush 64, 2), (7, .newarray .long, 2), (9, .putfield 9, 3), (12, .return_, 1)]
theorem ck0_0 : cj0_0.all (dx 0) = true := by decide +kernel
theorem cn0 : (mcn 0 = 0 ∧ mret 0 = none ∧ (my 0).name = "<init>" ∧ mk_ok 0 = true ∧ (decide (lw_tbl[(mh 0).2.2.1]? = some (mw_inst 0)) && decide ((my 0).name = "<init>")) = true) := by decide +kernel
theorem cm0 : mmax 0 = 1 := by decide +kernel
theorem cd0 : ∀ j, j < tb_NN 0 → defaultValue (tb_ty 0 j) = vp_V [.null, .int 0, .int 0] j := by
  intro j hj
  have hj : j < 3 := hj
  have : j = 0 ∨ j = 1 ∨ j = 2 := by omega
  rcases this with rfl | rfl | rfl <;> rfl
theorem ct_X0 {cx : Cx} {d K : Nat} {f : Nat → Nat × va_E} {io x : Nat} (hd : 1 ≤ d) (ho : io < K) (he : f io = (x, .inr (0, [.null, .int 0, .int 0]))) : MK cx true 0 d 1 64 [.ref x] K f (fun r K' f' => r = none ∧ K' = K + 1 ∧ ∃ a1, f' = upW (upW (f) (K) (a1, .inl (cxA cx 1, 64, .inr (.inl (fun _ => 0))))) (io) (x, .inr (0, [.ref a1, .int 0, .int 0]))) := by
  refine mk_of cn0.2.2.2.1 (by rw [cm0]; exact Nat.le_of_ble_eq_true rfl) ?_
  refine b_aload_n (x := x) (dx_at ck0_0 0 rfl) rfl ?_
  refine b_objInit (dx_at ck0_0 1 rfl) (show lw_tbl[219]? = _ by decide +kernel) (Nat.le_of_ble_eq_true rfl) (by omega) ?_
  refine b_aload_n (x := x) (dx_at ck0_0 2 rfl) rfl ?_
  refine b_bipush (v := nI 64) (dx_at ck0_0 3 rfl) (by decide) ?_
  refine b_newaS (t0 := 1) (N := 64) (ty := .long) (a0 := (64, .inr (.inl (fun _ => 0)))) 0 0 (dx_at ck0_0 4 rfl) (show lw_tbl[230]? = _ by decide +kernel) rfl (fun _ => rfl) (fun _ => rfl) (by decide) (by decide) (by decide) (by decide) (fun a1 => ?_)
  refine b_put2 (i := io) (fs := [.null, .int 0, .int 0]) [.ref a1, .int 0, .int 0] (dx_at ck0_0 5 rfl) (show chF 0 9 0 0 = true by decide +kernel) (by omega) ((upW_n (by omega)).trans (he)) (Or.inr ⟨rfl, cn0.2.2.1, by rw [cn0.1]; rfl⟩) rfl rfl (Nat.le_of_ble_eq_true rfl) rfl ?_
  exact b_vret (dx_at ck0_0 6 rfl) cn0.2.1 ⟨rfl, rfl, a1, rfl⟩
abbrev cj8_0 : List (Nat × Instr × Nat) := [(0, .aload_n 0, 1), (1, .invokespecial 3, 3), (4, .aload_n 0, 1), (5, .iconst (-1), 1), (6, .putfield 9, 3), (9, .aload_n 0, 1), (10, .iconst (-1), 1), (11, .putfield 15, 3), (14, .return_, 1)]
theorem ck8_0 : cj8_0.all (dx 8) = true := by decide +kernel
theorem cn8 : (mcn 8 = 1 ∧ mret 8 = none ∧ (my 8).name = "<init>" ∧ mk_ok 8 = true ∧ (decide (lw_tbl[(mh 8).2.2.1]? = some (mw_inst 8)) && decide ((my 8).name = "<init>")) = true) := by decide +kernel
theorem cm8 : mmax 8 = 1 := by decide +kernel
theorem cd1 : ∀ j, j < tb_NN 1 → defaultValue (tb_ty 1 j) = vp_V [.int 0, .int 0, .int 0] j := by
  intro j hj
  have hj : j < 3 := hj
  have : j = 0 ∨ j = 1 ∨ j = 2 := by omega
  rcases this with rfl | rfl | rfl <;> rfl
theorem ct_X1 {cx : Cx} {d K : Nat} {f : Nat → Nat × va_E} {io x : Nat} (hd : 1 ≤ d) (ho : io < K) (he : f io = (x, .inr (1, [.int 0, .int 0, .int 0]))) : MK cx true 8 d 0 0 [.ref x] K f (fun r K' f' => r = none ∧ K' = K + 0 ∧ f' = upW (upW (f) (io) (x, .inr (1, [.int (-1), .int 0, .int 0]))) (io) (x, .inr (1, [.int (-1), .int (-1), .int 0]))) := by
  refine mk_of cn8.2.2.2.1 (by rw [cm8]; exact Nat.le_of_ble_eq_true rfl) ?_
  refine b_aload_n (x := x) (dx_at ck8_0 0 rfl) rfl ?_
  refine b_objInit (dx_at ck8_0 1 rfl) (show lw_tbl[291]? = _ by decide +kernel) (Nat.le_of_ble_eq_true rfl) (by omega) ?_
  refine b_aload_n (x := x) (dx_at ck8_0 2 rfl) rfl ?_
  refine b_iconst (v := -1) (dx_at ck8_0 3 rfl) rfl ?_
  refine b_put2 (i := io) (fs := [.int 0, .int 0, .int 0]) [.int (-1), .int 0, .int 0] (dx_at ck8_0 4 rfl) (show chF 8 9 1 0 = true by decide +kernel) (by omega) (he) (Or.inl rfl) rfl rfl (Nat.le_of_ble_eq_true rfl) rfl ?_
  refine b_aload_n (x := x) (dx_at ck8_0 5 rfl) rfl ?_
  refine b_iconst (v := -1) (dx_at ck8_0 6 rfl) rfl ?_
  refine b_put2 (i := io) (fs := [.int (-1), .int 0, .int 0]) [.int (-1), .int (-1), .int 0] (dx_at ck8_0 7 rfl) (show chF 8 15 1 1 = true by decide +kernel) (by omega) (upW_s) (Or.inl rfl) rfl rfl (Nat.le_of_ble_eq_true rfl) rfl ?_
  exact b_vret (dx_at ck8_0 8 rfl) cn8.2.1 ⟨rfl, rfl, rfl⟩
abbrev cj31_0 : List (Nat × Instr × Nat) := [(0, .aload_n 0, 1), (1, .invokespecial 3, 3), (4, .aload_n 0, 1), (5, .iconst (-1), 1), (6, .putfield 9, 3), (9, .aload_n 0, 1), (10, .iconst (-1), 1), (11, .putfield 15, 3), (14, .aload_n 0, 1), (15, .iconst (-1), 1), (16, .putfield 18, 3), (19, .return_, 1)]
theorem ck31_0 : cj31_0.all (dx 31) = true := by decide +kernel
theorem cn31 : (mcn 31 = 4 ∧ mret 31 = none ∧ (my 31).name = "<init>" ∧ mk_ok 31 = true ∧ (decide (lw_tbl[(mh 31).2.2.1]? = some (mw_inst 31)) && decide ((my 31).name = "<init>")) = true) := by decide +kernel
theorem cm31 : mmax 31 = 1 := by decide +kernel
theorem cd4 : ∀ j, j < tb_NN 4 → defaultValue (tb_ty 4 j) = vp_V [.int 0, .int 0, .int 0, .int 0] j := by
  intro j hj
  have hj : j < 4 := hj
  have : j = 0 ∨ j = 1 ∨ j = 2 ∨ j = 3 := by omega
  rcases this with rfl | rfl | rfl | rfl <;> rfl
theorem ct_X4 {cx : Cx} {d K : Nat} {f : Nat → Nat × va_E} {io x : Nat} (hd : 1 ≤ d) (ho : io < K) (he : f io = (x, .inr (4, [.int 0, .int 0, .int 0, .int 0]))) : MK cx true 31 d 0 0 [.ref x] K f (fun r K' f' => r = none ∧ K' = K + 0 ∧ f' = upW (upW (upW (f) (io) (x, .inr (4, [.int (-1), .int 0, .int 0, .int 0]))) (io) (x, .inr (4, [.int (-1), .int (-1), .int 0, .int 0]))) (io) (x, .inr (4, [.int (-1), .int (-1), .int (-1), .int 0]))) := by
  refine mk_of cn31.2.2.2.1 (by rw [cm31]; exact Nat.le_of_ble_eq_true rfl) ?_
  refine b_aload_n (x := x) (dx_at ck31_0 0 rfl) rfl ?_
  refine b_objInit (dx_at ck31_0 1 rfl) (show lw_tbl[271]? = _ by decide +kernel) (Nat.le_of_ble_eq_true rfl) (by omega) ?_
  refine b_aload_n (x := x) (dx_at ck31_0 2 rfl) rfl ?_
  refine b_iconst (v := -1) (dx_at ck31_0 3 rfl) rfl ?_
  refine b_put2 (i := io) (fs := [.int 0, .int 0, .int 0, .int 0]) [.int (-1), .int 0, .int 0, .int 0] (dx_at ck31_0 4 rfl) (show chF 31 9 4 0 = true by decide +kernel) (by omega) (he) (Or.inl rfl) rfl rfl (Nat.le_of_ble_eq_true rfl) rfl ?_
  refine b_aload_n (x := x) (dx_at ck31_0 5 rfl) rfl ?_
  refine b_iconst (v := -1) (dx_at ck31_0 6 rfl) rfl ?_
  refine b_put2 (i := io) (fs := [.int (-1), .int 0, .int 0, .int 0]) [.int (-1), .int (-1), .int 0, .int 0] (dx_at ck31_0 7 rfl) (show chF 31 15 4 1 = true by decide +kernel) (by omega) (upW_s) (Or.inl rfl) rfl rfl (Nat.le_of_ble_eq_true rfl) rfl ?_
  refine b_aload_n (x := x) (dx_at ck31_0 8 rfl) rfl ?_
  refine b_iconst (v := -1) (dx_at ck31_0 9 rfl) rfl ?_
  refine b_put2 (i := io) (fs := [.int (-1), .int (-1), .int 0, .int 0]) [.int (-1), .int (-1), .int (-1), .int 0] (dx_at ck31_0 10 rfl) (show chF 31 18 4 2 = true by decide +kernel) (by omega) (upW_s) (Or.inl rfl) rfl rfl (Nat.le_of_ble_eq_true rfl) rfl ?_
  exact b_vret (dx_at ck31_0 11 rfl) cn31.2.1 ⟨rfl, rfl, rfl⟩
abbrev cj54_0 : List (Nat × Instr × Nat) := [(0, .aload_n 0, 1), (1, .invokespecial 3, 3), (4, .aload_n 0, 1), (5, .bipush 40, 2), (7, .newarray .int, 2), (9, .putfield 11, 3), (12, .return_, 1)]
theorem ck54_0 : cj54_0.all (dx 54) = true := by decide +kernel
theorem cn54 : (mcn 54 = 6 ∧ mret 54 = none ∧ (my 54).name = "<init>" ∧ mk_ok 54 = true ∧ (decide (lw_tbl[(mh 54).2.2.1]? = some (mw_inst 54)) && decide ((my 54).name = "<init>")) = true) := by decide +kernel
theorem cm54 : mmax 54 = 1 := by decide +kernel
theorem cd6 : ∀ j, j < tb_NN 6 → defaultValue (tb_ty 6 j) = vp_V [.null, .int 0, .int 0] j := by
  intro j hj
  have hj : j < 3 := hj
  have : j = 0 ∨ j = 1 ∨ j = 2 := by omega
  rcases this with rfl | rfl | rfl <;> rfl
theorem ct_X6 {cx : Cx} {d K : Nat} {f : Nat → Nat × va_E} {io x : Nat} (hd : 1 ≤ d) (ho : io < K) (he : f io = (x, .inr (6, [.null, .int 0, .int 0]))) : MK cx true 54 d 1 40 [.ref x] K f (fun r K' f' => r = none ∧ K' = K + 1 ∧ ∃ a1, f' = upW (upW (f) (K) (a1, .inl (cxA cx 0, 40, .inl (fun _ => 0)))) (io) (x, .inr (6, [.ref a1, .int 0, .int 0]))) := by
  refine mk_of cn54.2.2.2.1 (by rw [cm54]; exact Nat.le_of_ble_eq_true rfl) ?_
  refine b_aload_n (x := x) (dx_at ck54_0 0 rfl) rfl ?_
  refine b_objInit (dx_at ck54_0 1 rfl) (show lw_tbl[352]? = _ by decide +kernel) (Nat.le_of_ble_eq_true rfl) (by omega) ?_
  refine b_aload_n (x := x) (dx_at ck54_0 2 rfl) rfl ?_
  refine b_bipush (v := nI 40) (dx_at ck54_0 3 rfl) (by decide) ?_
  refine b_newaS (t0 := 0) (N := 40) (ty := .int) (a0 := (40, .inl (fun _ => 0))) 0 0 (dx_at ck54_0 4 rfl) (show lw_tbl[153]? = _ by decide +kernel) rfl (fun _ => rfl) (fun _ => rfl) (by decide) (by decide) (by decide) (by decide) (fun a1 => ?_)
  refine b_put2 (i := io) (fs := [.null, .int 0, .int 0]) [.ref a1, .int 0, .int 0] (dx_at ck54_0 5 rfl) (show chF 54 11 6 0 = true by decide +kernel) (by omega) ((upW_n (by omega)).trans (he)) (Or.inr ⟨rfl, cn54.2.2.1, by rw [cn54.1]; rfl⟩) rfl rfl (Nat.le_of_ble_eq_true rfl) rfl ?_
  exact b_vret (dx_at ck54_0 6 rfl) cn54.2.1 ⟨rfl, rfl, a1, rfl⟩
abbrev cj60_0 : List (Nat × Instr × Nat) := [(0, .aload_n 0, 1), (1, .invokespecial 3, 3), (4, .aload_n 0, 1), (5, .sipush 256, 3), (8, .newarray .long, 2), (10, .putfield 9, 3), (13, .return_, 1)]
theorem ck60_0 : cj60_0.all (dx 60) = true := by decide +kernel
theorem cn60 : (mcn 60 = 7 ∧ mret 60 = none ∧ (my 60).name = "<init>" ∧ mk_ok 60 = true ∧ (decide (lw_tbl[(mh 60).2.2.1]? = some (mw_inst 60)) && decide ((my 60).name = "<init>")) = true) := by decide +kernel
theorem cm60 : mmax 60 = 1 := by decide +kernel
theorem cd7 : ∀ j, j < tb_NN 7 → defaultValue (tb_ty 7 j) = vp_V [.null] j := by
  intro j hj
  have hj : j < 1 := hj
  have : j = 0 := by omega
  rcases this with rfl <;> rfl
theorem ct_X7 {cx : Cx} {d K : Nat} {f : Nat → Nat × va_E} {io x : Nat} (hd : 1 ≤ d) (ho : io < K) (he : f io = (x, .inr (7, [.null]))) : MK cx true 60 d 1 256 [.ref x] K f (fun r K' f' => r = none ∧ K' = K + 1 ∧ ∃ a1, f' = upW (upW (f) (K) (a1, .inl (cxA cx 1, 256, .inr (.inl (fun _ => 0))))) (io) (x, .inr (7, [.ref a1]))) := by
  refine mk_of cn60.2.2.2.1 (by rw [cm60]; exact Nat.le_of_ble_eq_true rfl) ?_
  refine b_aload_n (x := x) (dx_at ck60_0 0 rfl) rfl ?_
  refine b_objInit (dx_at ck60_0 1 rfl) (show lw_tbl[261]? = _ by decide +kernel) (Nat.le_of_ble_eq_true rfl) (by omega) ?_
  refine b_aload_n (x := x) (dx_at ck60_0 2 rfl) rfl ?_
  refine b_sipush (v := nI 256) (dx_at ck60_0 3 rfl) (by decide) ?_
  refine b_newaS (t0 := 1) (N := 256) (ty := .long) (a0 := (256, .inr (.inl (fun _ => 0)))) 0 0 (dx_at ck60_0 4 rfl) (show lw_tbl[230]? = _ by decide +kernel) rfl (fun _ => rfl) (fun _ => rfl) (by decide) (by decide) (by decide) (by decide) (fun a1 => ?_)
  refine b_put2 (i := io) (fs := [.null]) [.ref a1] (dx_at ck60_0 5 rfl) (show chF 60 9 7 0 = true by decide +kernel) (by omega) ((upW_n (by omega)).trans (he)) (Or.inr ⟨rfl, cn60.2.2.1, by rw [cn60.1]; rfl⟩) rfl rfl (Nat.le_of_ble_eq_true rfl) rfl ?_
  exact b_vret (dx_at ck60_0 6 rfl) cn60.2.1 ⟨rfl, rfl, a1, rfl⟩
abbrev cj66_0 : List (Nat × Instr × Nat) := [(0, .aload_n 0, 1), (1, .invokespecial 3, 3), (4, .aload_n 0, 1), (5, .sipush 400, 3), (8, .newarray .int, 2), (10, .putfield 9, 3), (13, .return_, 1)]
theorem ck66_0 : cj66_0.all (dx 66) = true := by decide +kernel
theorem cn66 : (mcn 66 = 8 ∧ mret 66 = none ∧ (my 66).name = "<init>" ∧ mk_ok 66 = true ∧ (decide (lw_tbl[(mh 66).2.2.1]? = some (mw_inst 66)) && decide ((my 66).name = "<init>")) = true) := by decide +kernel
theorem cm66 : mmax 66 = 1 := by decide +kernel
theorem cd8 : ∀ j, j < tb_NN 8 → defaultValue (tb_ty 8 j) = vp_V [.null, .int 0] j := by
  intro j hj
  have hj : j < 2 := hj
  have : j = 0 ∨ j = 1 := by omega
  rcases this with rfl | rfl <;> rfl
theorem ct_X8 {cx : Cx} {d K : Nat} {f : Nat → Nat × va_E} {io x : Nat} (hd : 1 ≤ d) (ho : io < K) (he : f io = (x, .inr (8, [.null, .int 0]))) : MK cx true 66 d 1 400 [.ref x] K f (fun r K' f' => r = none ∧ K' = K + 1 ∧ ∃ a1, f' = upW (upW (f) (K) (a1, .inl (cxA cx 0, 400, .inl (fun _ => 0)))) (io) (x, .inr (8, [.ref a1, .int 0]))) := by
  refine mk_of cn66.2.2.2.1 (by rw [cm66]; exact Nat.le_of_ble_eq_true rfl) ?_
  refine b_aload_n (x := x) (dx_at ck66_0 0 rfl) rfl ?_
  refine b_objInit (dx_at ck66_0 1 rfl) (show lw_tbl[160]? = _ by decide +kernel) (Nat.le_of_ble_eq_true rfl) (by omega) ?_
  refine b_aload_n (x := x) (dx_at ck66_0 2 rfl) rfl ?_
  refine b_sipush (v := nI 400) (dx_at ck66_0 3 rfl) (by decide) ?_
  refine b_newaS (t0 := 0) (N := 400) (ty := .int) (a0 := (400, .inl (fun _ => 0))) 0 0 (dx_at ck66_0 4 rfl) (show lw_tbl[153]? = _ by decide +kernel) rfl (fun _ => rfl) (fun _ => rfl) (by decide) (by decide) (by decide) (by decide) (fun a1 => ?_)
  refine b_put2 (i := io) (fs := [.null, .int 0]) [.ref a1, .int 0] (dx_at ck66_0 5 rfl) (show chF 66 9 8 0 = true by decide +kernel) (by omega) ((upW_n (by omega)).trans (he)) (Or.inr ⟨rfl, cn66.2.2.1, by rw [cn66.1]; rfl⟩) rfl rfl (Nat.le_of_ble_eq_true rfl) rfl ?_
  exact b_vret (dx_at ck66_0 6 rfl) cn66.2.1 ⟨rfl, rfl, a1, rfl⟩
abbrev cj84_0 : List (Nat × Instr × Nat) := [(0, .aload_n 0, 1), (1, .invokespecial 3, 3), (4, .aload_n 0, 1), (5, .sipush 154, 3), (8, .newarray .int, 2), (10, .putfield 9, 3), (13, .aload_n 0, 1), (14, .iconst 3, 1), (15, .newarray .int, 2), (17, .dup, 1), (18, .iconst 0, 1), (19, .iconst 5, 1), (20, .iastore, 1), (21, .dup, 1), (22, .iconst 1, 1), (23, .iconst 2, 1), (24, .iastore, 1), (25, .dup, 1), (26, .iconst 2, 1), (27, .iconst 1, 1), (28, .iastore, 1), (29, .putfield 15, 3), (32, .aload_n 0, 1), (33, .bipush 6, 2), (35, .anewarray 18, 3), (38, .putfield 20, 3), (41, .aload_n 0, 1), (42, .iconst (-1), 1), (43, .putfield 24, 3), (46, .return_, 1)]
theorem ck84_0 : cj84_0.all (dx 84) = true := by decide +kernel
theorem cn84 : (mcn 84 = 10 ∧ mret 84 = none ∧ (my 84).name = "<init>" ∧ mk_ok 84 = true ∧ (decide (lw_tbl[(mh 84).2.2.1]? = some (mw_inst 84)) && decide ((my 84).name = "<init>")) = true) := by decide +kernel
theorem cm84 : mmax 84 = 1 := by decide +kernel
theorem cd10 : ∀ j, j < tb_NN 10 → defaultValue (tb_ty 10 j) = vp_V [.null, .null, .null, .int 0, .int 0, .int 0, .int 0, .int 0] j := by
  intro j hj
  have hj : j < 8 := hj
  have : j = 0 ∨ j = 1 ∨ j = 2 ∨ j = 3 ∨ j = 4 ∨ j = 5 ∨ j = 6 ∨ j = 7 := by omega
  rcases this with rfl | rfl | rfl | rfl | rfl | rfl | rfl | rfl <;> rfl
theorem ct_X10 {cx : Cx} {d K : Nat} {f : Nat → Nat × va_E} {io x : Nat} (hd : 1 ≤ d) (ho : io < K) (he : f io = (x, .inr (10, [.null, .null, .null, .int 0, .int 0, .int 0, .int 0, .int 0]))) : MK cx true 84 d 3 163 [.ref x] K f (fun r K' f' => r = none ∧ K' = K + 3 ∧ ∃ a1 a2 a3, f' = upW (upW (upW (upW (upW (upW (upW (f) (K) (a1, .inl (cxA cx 0, 154, .inl (fun _ => 0)))) (io) (x, .inr (10, [.ref a1, .null, .null, .int 0, .int 0, .int 0, .int 0, .int 0]))) (K + 1) (a2, .inl (cxA cx 0, 3, .inl (upd (upd (upd (fun _ => 0) 0 (nI 5)) 1 (nI 2)) 2 (nI 1))))) (io) (x, .inr (10, [.ref a1, .ref a2, .null, .int 0, .int 0, .int 0, .int 0, .int 0]))) (K + 1 + 1) (a3, .inl (cxA cx 5, 6, .inr (.inr (.inr (.inr (fun _ => none))))))) (io) (x, .inr (10, [.ref a1, .ref a2, .ref a3, .int 0, .int 0, .int 0, .int 0, .int 0]))) (io) (x, .inr (10, [.ref a1, .ref a2, .ref a3, .int 0, .int 0, .int 0, .int 0, .int (-1)]))) := by
  refine mk_of cn84.2.2.2.1 (by rw [cm84]; exact Nat.le_of_ble_eq_true rfl) ?_
  refine b_aload_n (x := x) (dx_at ck84_0 0 rfl) rfl ?_
  refine b_objInit (dx_at ck84_0 1 rfl) (show lw_tbl[117]? = _ by decide +kernel) (Nat.le_of_ble_eq_true rfl) (by omega) ?_
  refine b_aload_n (x := x) (dx_at ck84_0 2 rfl) rfl ?_
  refine b_sipush (v := nI 154) (dx_at ck84_0 3 rfl) (by decide) ?_
  refine b_newaS (t0 := 0) (N := 154) (ty := .int) (a0 := (154, .inl (fun _ => 0))) 2 9 (dx_at ck84_0 4 rfl) (show lw_tbl[153]? = _ by decide +kernel) rfl (fun _ => rfl) (fun _ => rfl) (by decide) (by decide) (by decide) (by decide) (fun a1 => ?_)
  refine b_put2 (i := io) (fs := [.null, .null, .null, .int 0, .int 0, .int 0, .int 0, .int 0]) [.ref a1, .null, .null, .int 0, .int 0, .int 0, .int 0, .int 0] (dx_at ck84_0 5 rfl) (show chF 84 9 10 0 = true by decide +kernel) (by omega) ((upW_n (by omega)).trans (he)) (Or.inr ⟨rfl, cn84.2.2.1, by rw [cn84.1]; rfl⟩) rfl rfl (Nat.le_of_ble_eq_true rfl) rfl ?_
  refine b_aload_n (x := x) (dx_at ck84_0 6 rfl) rfl ?_
  refine b_iconst (v := nI 3) (dx_at ck84_0 7 rfl) rfl ?_
  refine b_newaS (t0 := 0) (N := 3) (ty := .int) (a0 := (3, .inl (fun _ => 0))) 1 6 (dx_at ck84_0 8 rfl) (show lw_tbl[153]? = _ by decide +kernel) rfl (fun _ => rfl) (fun _ => rfl) (by decide) (by decide) (by decide) (by decide) (fun a2 => ?_)
  refine b_dup (dx_at ck84_0 9 rfl) rfl ?_
  refine b_iconst (v := nI 0) (dx_at ck84_0 10 rfl) rfl ?_
  refine b_iconst (v := nI 5) (dx_at ck84_0 11 rfl) rfl ?_
  refine b_iastT (upd (fun _ => 0) 0 (nI 5)) (dx_at ck84_0 12 rfl) (by omega) (vp_in_nI (by decide) (by decide)) rfl ?_
  refine b_dup (dx_at ck84_0 13 rfl) rfl ?_
  refine b_iconst (v := nI 1) (dx_at ck84_0 14 rfl) rfl ?_
  refine b_iconst (v := nI 2) (dx_at ck84_0 15 rfl) rfl ?_
  refine b_iastT (upd (upd (fun _ => 0) 0 (nI 5)) 1 (nI 2)) (dx_at ck84_0 16 rfl) (by omega) (vp_in_nI (by decide) (by decide)) rfl ?_
  refine b_dup (dx_at ck84_0 17 rfl) rfl ?_
  refine b_iconst (v := nI 2) (dx_at ck84_0 18 rfl) rfl ?_
  refine b_iconst (v := nI 1) (dx_at ck84_0 19 rfl) rfl ?_
  refine b_iastT (upd (upd (upd (fun _ => 0) 0 (nI 5)) 1 (nI 2)) 2 (nI 1)) (dx_at ck84_0 20 rfl) (by omega) (vp_in_nI (by decide) (by decide)) rfl ?_
  refine b_put2 (i := io) (fs := [.ref a1, .null, .null, .int 0, .int 0, .int 0, .int 0, .int 0]) [.ref a1, .ref a2, .null, .int 0, .int 0, .int 0, .int 0, .int 0] (dx_at ck84_0 21 rfl) (show chF 84 15 10 1 = true by decide +kernel) (by omega) ((upW_n (by omega)).trans (upW_s)) (Or.inr ⟨rfl, cn84.2.2.1, by rw [cn84.1]; rfl⟩) rfl rfl (Nat.le_of_ble_eq_true rfl) rfl ?_
  refine b_aload_n (x := x) (dx_at ck84_0 22 rfl) rfl ?_
  refine b_bipush (v := nI 6) (dx_at ck84_0 23 rfl) (by decide) ?_
  refine b_anewS (t0 := 5) (N := 6) (C := "FiveTouch$Law") 0 0 rfl (Or.inl rfl) (dx_at ck84_0 24 rfl) (show lw_tbl[118]? = _ by decide +kernel) (fun _ => rfl) (by decide) (by decide) (by decide) (fun a3 => ?_)
  refine b_put2 (i := io) (fs := [.ref a1, .ref a2, .null, .int 0, .int 0, .int 0, .int 0, .int 0]) [.ref a1, .ref a2, .ref a3, .int 0, .int 0, .int 0, .int 0, .int 0] (dx_at ck84_0 25 rfl) (show chF 84 20 10 2 = true by decide +kernel) (by omega) ((upW_n (by omega)).trans (upW_s)) (Or.inr ⟨rfl, cn84.2.2.1, by rw [cn84.1]; rfl⟩) rfl rfl (Nat.le_of_ble_eq_true rfl) rfl ?_
  refine b_aload_n (x := x) (dx_at ck84_0 26 rfl) rfl ?_
  refine b_iconst (v := -1) (dx_at ck84_0 27 rfl) rfl ?_
  refine b_put2 (i := io) (fs := [.ref a1, .ref a2, .ref a3, .int 0, .int 0, .int 0, .int 0, .int 0]) [.ref a1, .ref a2, .ref a3, .int 0, .int 0, .int 0, .int 0, .int (-1)] (dx_at ck84_0 28 rfl) (show chF 84 24 10 7 = true by decide +kernel) (by omega) (upW_s) (Or.inl rfl) rfl rfl (Nat.le_of_ble_eq_true rfl) rfl ?_
  exact b_vret (dx_at ck84_0 29 rfl) cn84.2.1 ⟨rfl, rfl, a1, a2, a3, rfl⟩
abbrev cj35_0 : List (Nat × Instr × Nat) := [(0, .aload_n 0, 1), (1, .invokespecial 3, 3), (4, .aload_n 0, 1), (5, .sipush 400, 3), (8, .newarray .int, 2), (10, .putfield 9, 3), (13, .aload_n 0, 1), (14, .bipush 24, 2), (16, .newarray .int, 2), (18, .putfield 15, 3), (21, .aload_n 0, 1), (22, .iconst (-1), 1), (23, .putfield 18, 3), (26, .aload_n 0, 1), (27, .aload_n 1, 1), (28, .putfield 22, 3), (31, .return_, 1)]
theorem ck35_0 : cj35_0.all (dx 35) = true := by decide +kernel
theorem cn35 : (mcn 35 = 5 ∧ mret 35 = none ∧ (my 35).name = "<init>" ∧ mk_ok 35 = true ∧ (decide (lw_tbl[(mh 35).2.2.1]? = some (mw_inst 35)) && decide ((my 35).name = "<init>")) = true) := by decide +kernel
theorem cm35 : mmax 35 = 2 := by decide +kernel
theorem cd5 : ∀ j, j < tb_NN 5 → defaultValue (tb_ty 5 j) = vp_V [.null, .null, .null, .int 0, .int 0, .int 0, .int 0, .int 0, .int 0, .int 0] j := by
  intro j hj
  have hj : j < 10 := hj
  have : j = 0 ∨ j = 1 ∨ j = 2 ∨ j = 3 ∨ j = 4 ∨ j = 5 ∨ j = 6 ∨ j = 7 ∨ j = 8 ∨ j = 9 := by omega
  rcases this with rfl | rfl | rfl | rfl | rfl | rfl | rfl | rfl | rfl | rfl <;> rfl
theorem ct_X5 {cx : Cx} {d K : Nat} {f : Nat → Nat × va_E} {io x y1 : Nat} (hd : 1 ≤ d) (ho : io < K) (he : f io = (x, .inr (5, [.null, .null, .null, .int 0, .int 0, .int 0, .int 0, .int 0, .int 0, .int 0]))) : MK cx true 35 d 2 424 [.ref x, .ref y1] K f (fun r K' f' => r = none ∧ K' = K + 2 ∧ ∃ a1 a2, f' = upW (upW (upW (upW (upW (upW (f) (K) (a1, .inl (cxA cx 0, 400, .inl (fun _ => 0)))) (io) (x, .inr (5, [.ref a1, .null, .null, .int 0, .int 0, .int 0, .int 0, .int 0, .int 0, .int 0]))) (K + 1) (a2, .inl (cxA cx 0, 24, .inl (fun _ => 0)))) (io) (x, .inr (5, [.ref a1, .ref a2, .null, .int 0, .int 0, .int 0, .int 0, .int 0, .int 0, .int 0]))) (io) (x, .inr (5, [.ref a1, .ref a2, .null, .int 0, .int 0, .int 0, .int 0, .int 0, .int 0, .int (-1)]))) (io) (x, .inr (5, [.ref a1, .ref a2, .ref y1, .int 0, .int 0, .int 0, .int 0, .int 0, .int 0, .int (-1)]))) := by
  refine mk_of cn35.2.2.2.1 (by rw [cm35]; exact Nat.le_of_ble_eq_true rfl) ?_
  refine b_aload_n (x := x) (dx_at ck35_0 0 rfl) rfl ?_
  refine b_objInit (dx_at ck35_0 1 rfl) (show lw_tbl[175]? = _ by decide +kernel) (Nat.le_of_ble_eq_true rfl) (by omega) ?_
  refine b_aload_n (x := x) (dx_at ck35_0 2 rfl) rfl ?_
  refine b_sipush (v := nI 400) (dx_at ck35_0 3 rfl) (by decide) ?_
  refine b_newaS (t0 := 0) (N := 400) (ty := .int) (a0 := (400, .inl (fun _ => 0))) 1 24 (dx_at ck35_0 4 rfl) (show lw_tbl[153]? = _ by decide +kernel) rfl (fun _ => rfl) (fun _ => rfl) (by decide) (by decide) (by decide) (by decide) (fun a1 => ?_)
  refine b_put2 (i := io) (fs := [.null, .null, .null, .int 0, .int 0, .int 0, .int 0, .int 0, .int 0, .int 0]) [.ref a1, .null, .null, .int 0, .int 0, .int 0, .int 0, .int 0, .int 0, .int 0] (dx_at ck35_0 5 rfl) (show chF 35 9 5 0 = true by decide +kernel) (by omega) ((upW_n (by omega)).trans (he)) (Or.inr ⟨rfl, cn35.2.2.1, by rw [cn35.1]; rfl⟩) rfl rfl (Nat.le_of_ble_eq_true rfl) rfl ?_
  refine b_aload_n (x := x) (dx_at ck35_0 6 rfl) rfl ?_
  refine b_bipush (v := nI 24) (dx_at ck35_0 7 rfl) (by decide) ?_
  refine b_newaS (t0 := 0) (N := 24) (ty := .int) (a0 := (24, .inl (fun _ => 0))) 0 0 (dx_at ck35_0 8 rfl) (show lw_tbl[153]? = _ by decide +kernel) rfl (fun _ => rfl) (fun _ => rfl) (by decide) (by decide) (by decide) (by decide) (fun a2 => ?_)
  refine b_put2 (i := io) (fs := [.ref a1, .null, .null, .int 0, .int 0, .int 0, .int 0, .int 0, .int 0, .int 0]) [.ref a1, .ref a2, .null, .int 0, .int 0, .int 0, .int 0, .int 0, .int 0, .int 0] (dx_at ck35_0 9 rfl) (show chF 35 15 5 1 = true by decide +kernel) (by omega) ((upW_n (by omega)).trans (upW_s)) (Or.inr ⟨rfl, cn35.2.2.1, by rw [cn35.1]; rfl⟩) rfl rfl (Nat.le_of_ble_eq_true rfl) rfl ?_
  refine b_aload_n (x := x) (dx_at ck35_0 10 rfl) rfl ?_
  refine b_iconst (v := -1) (dx_at ck35_0 11 rfl) rfl ?_
  refine b_put2 (i := io) (fs := [.ref a1, .ref a2, .null, .int 0, .int 0, .int 0, .int 0, .int 0, .int 0, .int 0]) [.ref a1, .ref a2, .null, .int 0, .int 0, .int 0, .int 0, .int 0, .int 0, .int (-1)] (dx_at ck35_0 12 rfl) (show chF 35 18 5 9 = true by decide +kernel) (by omega) (upW_s) (Or.inl rfl) rfl rfl (Nat.le_of_ble_eq_true rfl) rfl ?_
  refine b_aload_n (x := x) (dx_at ck35_0 13 rfl) rfl ?_
  refine b_aload_n (x := y1) (dx_at ck35_0 14 rfl) rfl ?_
  refine b_put2 (i := io) (fs := [.ref a1, .ref a2, .null, .int 0, .int 0, .int 0, .int 0, .int 0, .int 0, .int (-1)]) [.ref a1, .ref a2, .ref y1, .int 0, .int 0, .int 0, .int 0, .int 0, .int 0, .int (-1)] (dx_at ck35_0 15 rfl) (show chF 35 22 5 2 = true by decide +kernel) (by omega) (upW_s) (Or.inr ⟨rfl, cn35.2.2.1, by rw [cn35.1]; rfl⟩) rfl rfl (Nat.le_of_ble_eq_true rfl) rfl ?_
  exact b_vret (dx_at ck35_0 16 rfl) cn35.2.1 ⟨rfl, rfl, a1, a2, rfl⟩
abbrev cj12_0 : List (Nat × Instr × Nat) := [(0, .aload_n 0, 1), (1, .invokespecial 3, 3), (4, .aload_n 0, 1), (5, .new 9, 3), (8, .dup, 1), (9, .invokespecial 11, 3), (12, .putfield 12, 3), (15, .aload_n 0, 1), (16, .bipush 22, 2), (18, .newarray .int, 2), (20, .putfield 18, 3), (23, .aload_n 0, 1), (24, .bipush 22, 2), (26, .newarray .int, 2), (28, .putfield 22, 3), (31, .aload_n 0, 1), (32, .bipush 22, 2), (34, .newarray .int, 2), (36, .putfield 25, 3), (39, .aload_n 0, 1), (40, .bipush 22, 2), (42, .newarray .int, 2), (44, .putfield 28, 3), (47, .return_, 1)]
theorem ck12_0 : cj12_0.all (dx 12) = true := by decide +kernel
theorem cn12 : (mcn 12 = 2 ∧ mret 12 = none ∧ (my 12).name = "<init>" ∧ mk_ok 12 = true ∧ (decide (lw_tbl[(mh 12).2.2.1]? = some (mw_inst 12)) && decide ((my 12).name = "<init>")) = true) := by decide +kernel
theorem cm12 : mmax 12 = 1 := by decide +kernel
theorem cd2 : ∀ j, j < tb_NN 2 → defaultValue (tb_ty 2 j) = vp_V [.null, .null, .null, .null, .null, .int 0] j := by
  intro j hj
  have hj : j < 6 := hj
  have : j = 0 ∨ j = 1 ∨ j = 2 ∨ j = 3 ∨ j = 4 ∨ j = 5 := by omega
  rcases this with rfl | rfl | rfl | rfl | rfl | rfl <;> rfl
theorem ct_X2 {cx : Cx} {d K : Nat} {f : Nat → Nat × va_E} {io x : Nat} (hd : 2 ≤ d) (ho : io < K) (he : f io = (x, .inr (2, [.null, .null, .null, .null, .null, .int 0]))) : MK cx true 12 d 6 155 [.ref x] K f (fun r K' f' => r = none ∧ K' = K + 6 ∧ ∃ a1 a2 a3 a4 a5 a6, f' = upW (upW (upW (upW (upW (upW (upW (upW (upW (upW (upW (upW (f) (K) (a1, .inr (0, [.null, .int 0, .int 0]))) (K + 1) (a2, .inl (cxA cx 1, 64, .inr (.inl (fun _ => 0))))) (K) (a1, .inr (0, [.ref a2, .int 0, .int 0]))) (io) (x, .inr (2, [.ref a1, .null, .null, .null, .null, .int 0]))) (K + 1 + 1) (a3, .inl (cxA cx 0, 22, .inl (fun _ => 0)))) (io) (x, .inr (2, [.ref a1, .ref a3, .null, .null, .null, .int 0]))) (K + 1 + 1 + 1) (a4, .inl (cxA cx 0, 22, .inl (fun _ => 0)))) (io) (x, .inr (2, [.ref a1, .ref a3, .ref a4, .null, .null, .int 0]))) (K + 1 + 1 + 1 + 1) (a5, .inl (cxA cx 0, 22, .inl (fun _ => 0)))) (io) (x, .inr (2, [.ref a1, .ref a3, .ref a4, .ref a5, .null, .int 0]))) (K + 1 + 1 + 1 + 1 + 1) (a6, .inl (cxA cx 0, 22, .inl (fun _ => 0)))) (io) (x, .inr (2, [.ref a1, .ref a3, .ref a4, .ref a5, .ref a6, .int 0]))) := by
  refine mk_of cn12.2.2.2.1 (by rw [cm12]; exact Nat.le_of_ble_eq_true rfl) ?_
  refine b_aload_n (x := x) (dx_at ck12_0 0 rfl) rfl ?_
  refine b_objInit (dx_at ck12_0 1 rfl) (show lw_tbl[213]? = _ by decide +kernel) (Nat.le_of_ble_eq_true rfl) (by omega) ?_
  refine b_aload_n (x := x) (dx_at ck12_0 2 rfl) rfl ?_
  refine b_newS (ci := 0) (fs := [.null, .int 0, .int 0]) 5 152 (dx_at ck12_0 3 rfl) (show lw_tbl[214]? = _ by decide +kernel) (show lw_tbl[215]? = _ by decide +kernel) (show lw_tbl[90]? = _ by decide +kernel) (by decide) cd0 (by decide) (by decide) (fun a1 => ?_)
  refine b_dup (dx_at ck12_0 4 rfl) rfl ?_
  refine b_callNS (x := a1) (vs := []) 4 88 rfl (dx_at ck12_0 5 rfl) (show (mcn 12, 11, 0, 4, 216) ∈ tb_C by decide +kernel) cn0.2.2.2.1 cn0.2.2.2.2 cn0.2.1 (use_np (by decide)) (Nat.le_of_ble_eq_true rfl) (by omega) (ct_X0 (cx := cx) (d := d - 1)  (by omega) (show K < K + 1 by omega) (upW_s)) (fun r K' f' z => z.1) (by decide) (by decide) (fun K' f' z => ?_)
  obtain ⟨-, rfl, a2, rfl⟩ := z
  refine b_put2 (i := io) (fs := [.null, .null, .null, .null, .null, .int 0]) [.ref a1, .null, .null, .null, .null, .int 0] (dx_at ck12_0 6 rfl) (show chF 12 12 2 0 = true by decide +kernel) (by omega) ((upW_n (by omega)).trans ((upW_n (by omega)).trans ((upW_n (by omega)).trans (he)))) (Or.inr ⟨rfl, cn12.2.2.1, by rw [cn12.1]; rfl⟩) rfl rfl (Nat.le_of_ble_eq_true rfl) rfl ?_
  refine b_aload_n (x := x) (dx_at ck12_0 7 rfl) rfl ?_
  refine b_bipush (v := nI 22) (dx_at ck12_0 8 rfl) (by decide) ?_
  refine b_newaS (t0 := 0) (N := 22) (ty := .int) (a0 := (22, .inl (fun _ => 0))) 3 66 (dx_at ck12_0 9 rfl) (show lw_tbl[153]? = _ by decide +kernel) rfl (fun _ => rfl) (fun _ => rfl) (by decide) (by decide) (by decide) (by decide) (fun a3 => ?_)
  refine b_put2 (i := io) (fs := [.ref a1, .null, .null, .null, .null, .int 0]) [.ref a1, .ref a3, .null, .null, .null, .int 0] (dx_at ck12_0 10 rfl) (show chF 12 18 2 1 = true by decide +kernel) (by omega) ((upW_n (by omega)).trans (upW_s)) (Or.inr ⟨rfl, cn12.2.2.1, by rw [cn12.1]; rfl⟩) rfl rfl (Nat.le_of_ble_eq_true rfl) rfl ?_
  refine b_aload_n (x := x) (dx_at ck12_0 11 rfl) rfl ?_
  refine b_bipush (v := nI 22) (dx_at ck12_0 12 rfl) (by decide) ?_
  refine b_newaS (t0 := 0) (N := 22) (ty := .int) (a0 := (22, .inl (fun _ => 0))) 2 44 (dx_at ck12_0 13 rfl) (show lw_tbl[153]? = _ by decide +kernel) rfl (fun _ => rfl) (fun _ => rfl) (by decide) (by decide) (by decide) (by decide) (fun a4 => ?_)
  refine b_put2 (i := io) (fs := [.ref a1, .ref a3, .null, .null, .null, .int 0]) [.ref a1, .ref a3, .ref a4, .null, .null, .int 0] (dx_at ck12_0 14 rfl) (show chF 12 22 2 2 = true by decide +kernel) (by omega) ((upW_n (by omega)).trans (upW_s)) (Or.inr ⟨rfl, cn12.2.2.1, by rw [cn12.1]; rfl⟩) rfl rfl (Nat.le_of_ble_eq_true rfl) rfl ?_
  refine b_aload_n (x := x) (dx_at ck12_0 15 rfl) rfl ?_
  refine b_bipush (v := nI 22) (dx_at ck12_0 16 rfl) (by decide) ?_
  refine b_newaS (t0 := 0) (N := 22) (ty := .int) (a0 := (22, .inl (fun _ => 0))) 1 22 (dx_at ck12_0 17 rfl) (show lw_tbl[153]? = _ by decide +kernel) rfl (fun _ => rfl) (fun _ => rfl) (by decide) (by decide) (by decide) (by decide) (fun a5 => ?_)
  refine b_put2 (i := io) (fs := [.ref a1, .ref a3, .ref a4, .null, .null, .int 0]) [.ref a1, .ref a3, .ref a4, .ref a5, .null, .int 0] (dx_at ck12_0 18 rfl) (show chF 12 25 2 3 = true by decide +kernel) (by omega) ((upW_n (by omega)).trans (upW_s)) (Or.inr ⟨rfl, cn12.2.2.1, by rw [cn12.1]; rfl⟩) rfl rfl (Nat.le_of_ble_eq_true rfl) rfl ?_
  refine b_aload_n (x := x) (dx_at ck12_0 19 rfl) rfl ?_
  refine b_bipush (v := nI 22) (dx_at ck12_0 20 rfl) (by decide) ?_
  refine b_newaS (t0 := 0) (N := 22) (ty := .int) (a0 := (22, .inl (fun _ => 0))) 0 0 (dx_at ck12_0 21 rfl) (show lw_tbl[153]? = _ by decide +kernel) rfl (fun _ => rfl) (fun _ => rfl) (by decide) (by decide) (by decide) (by decide) (fun a6 => ?_)
  refine b_put2 (i := io) (fs := [.ref a1, .ref a3, .ref a4, .ref a5, .null, .int 0]) [.ref a1, .ref a3, .ref a4, .ref a5, .ref a6, .int 0] (dx_at ck12_0 22 rfl) (show chF 12 28 2 4 = true by decide +kernel) (by omega) ((upW_n (by omega)).trans (upW_s)) (Or.inr ⟨rfl, cn12.2.2.1, by rw [cn12.1]; rfl⟩) rfl rfl (Nat.le_of_ble_eq_true rfl) rfl ?_
  exact b_vret (dx_at ck12_0 23 rfl) cn12.2.1 ⟨rfl, rfl, a1, a2, a3, a4, a5, a6, rfl⟩
abbrev cj69_0 : List (Nat × Instr × Nat) := [(0, .aload_n 0, 1), (1, .invokespecial 3, 3), (4, .aload_n 0, 1), (5, .new 9, 3), (8, .dup, 1), (9, .invokespecial 11, 3), (12, .putfield 12, 3), (15, .aload_n 0, 1), (16, .new 9, 3), (19, .dup, 1), (20, .invokespecial 11, 3), (23, .putfield 18, 3), (26, .aload_n 0, 1), (27, .new 21, 3), (30, .dup, 1), (31, .invokespecial 23, 3), (34, .putfield 24, 3), (37, .aload_n 0, 1), (38, .new 21, 3), (41, .dup, 1), (42, .invokespecial 23, 3), (45, .putfield 28, 3), (48, .aload_n 0, 1), (49, .new 31, 3), (52, .dup, 1), (53, .invokespecial 33, 3), (56, .putfield 34, 3), (59, .aload_n 0, 1), (60, .new 31, 3), (63, .dup, 1), (64, .invokespecial 33, 3), (67, .putfield 38, 3), (70, .aload_n 0, 1), (71, .bipush 14, 2), (73, .newarray .int, 2), (75, .putfield 41, 3)]
theorem ck69_0 : cj69_0.all (dx 69) = true := by decide +kernel
abbrev cj69_1 : List (Nat × Instr × Nat) := [(78, .aload_n 0, 1), (79, .iconst (-1), 1), (80, .putfield 45, 3), (83, .aload_n 0, 1), (84, .aload_n 1, 1), (85, .putfield 49, 3), (88, .aload_n 0, 1), (89, .aload_n 2, 1), (90, .putfield 53, 3), (93, .return_, 1)]
theorem ck69_1 : cj69_1.all (dx 69) = true := by decide +kernel
theorem cn69 : (mcn 69 = 9 ∧ mret 69 = none ∧ (my 69).name = "<init>" ∧ mk_ok 69 = true ∧ (decide (lw_tbl[(mh 69).2.2.1]? = some (mw_inst 69)) && decide ((my 69).name = "<init>")) = true) := by decide +kernel
theorem cm69 : mmax 69 = 3 := by decide +kernel
theorem cd9 : ∀ j, j < tb_NN 9 → defaultValue (tb_ty 9 j) = vp_V [.null, .null, .null, .null, .null, .null, .null, .null, .null, .int 0, .int 0, .int 0, .int 0, .int 0] j := by
  intro j hj
  have hj : j < 14 := hj
  have : j = 0 ∨ j = 1 ∨ j = 2 ∨ j = 3 ∨ j = 4 ∨ j = 5 ∨ j = 6 ∨ j = 7 ∨ j = 8 ∨ j = 9 ∨ j = 10 ∨ j = 11 ∨ j = 12 ∨ j = 13 := by omega
  rcases this with rfl | rfl | rfl | rfl | rfl | rfl | rfl | rfl | rfl | rfl | rfl | rfl | rfl | rfl <;> rfl
theorem ct_X9 {cx : Cx} {d K : Nat} {f : Nat → Nat × va_E} {io x y1 y2 : Nat} (hd : 2 ≤ d) (ho : io < K) (he : f io = (x, .inr (9, [.null, .null, .null, .null, .null, .null, .null, .null, .null, .int 0, .int 0, .int 0, .int 0, .int 0]))) : MK cx true 69 d 9 542 [.ref x, .ref y1, .ref y2] K f (fun r K' f' => r = none ∧ K' = K + 9 ∧ ∃ a1 a2 a3 a4 a5 a6 a7 a8 a9, f' = upW (upW (upW (upW (upW (upW (upW (upW (upW (upW (upW (upW (upW (upW (upW (upW (upW (upW (upW (upW (upW (upW (upW (upW (upW (upW (upW (upW (upW (upW (upW (f) (K) (a1, .inr (7, [.null]))) (K + 1) (a2, .inl (cxA cx 1, 256, .inr (.inl (fun _ => 0))))) (K) (a1, .inr (7, [.ref a2]))) (io) (x, .inr (9, [.null, .null, .ref a1, .null, .null, .null, .null, .null, .null, .int 0, .int 0, .int 0, .int 0, .int 0]))) (K + 1 + 1) (a3, .inr (7, [.null]))) (K + 1 + 1 + 1) (a4, .inl (cxA cx 1, 256, .inr (.inl (fun _ => 0))))) (K + 1 + 1) (a3, .inr (7, [.ref a4]))) (io) (x, .inr (9, [.null, .null, .ref a1, .ref a3, .null, .null, .null, .null, .null, .int 0, .int 0, .int 0, .int 0, .int 0]))) (K + 1 + 1 + 1 + 1) (a5, .inr (4, [.int 0, .int 0, .int 0, .int 0]))) (K + 1 + 1 + 1 + 1) (a5, .inr (4, [.int (-1), .int 0, .int 0, .int 0]))) (K + 1 + 1 + 1 + 1) (a5, .inr (4, [.int (-1), .int (-1), .int 0, .int 0]))) (K + 1 + 1 + 1 + 1) (a5, .inr (4, [.int (-1), .int (-1), .int (-1), .int 0]))) (io) (x, .inr (9, [.null, .null, .ref a1, .ref a3, .ref a5, .null, .null, .null, .null, .int 0, .int 0, .int 0, .int 0, .int 0]))) (K + 1 + 1 + 1 + 1 + 1) (a6, .inr (4, [.int 0, .int 0, .int 0, .int 0]))) (K + 1 + 1 + 1 + 1 + 1) (a6, .inr (4, [.int (-1), .int 0, .int 0, .int 0]))) (K + 1 + 1 + 1 + 1 + 1) (a6, .inr (4, [.int (-1), .int (-1), .int 0, .int 0]))) (K + 1 + 1 + 1 + 1 + 1) (a6, .inr (4, [.int (-1), .int (-1), .int (-1), .int 0]))) (io) (x, .inr (9, [.null, .null, .ref a1, .ref a3, .ref a5, .ref a6, .null, .null, .null, .int 0, .int 0, .int 0, .int 0, .int 0]))) (K + 1 + 1 + 1 + 1 + 1 + 1) (a7, .inr (1, [.int 0, .int 0, .int 0]))) (K + 1 + 1 + 1 + 1 + 1 + 1) (a7, .inr (1, [.int (-1), .int 0, .int 0]))) (K + 1 + 1 + 1 + 1 + 1 + 1) (a7, .inr (1, [.int (-1), .int (-1), .int 0]))) (io) (x, .inr (9, [.null, .null, .ref a1, .ref a3, .ref a5, .ref a6, .ref a7, .null, .null, .int 0, .int 0, .int 0, .int 0, .int 0]))) (K + 1 + 1 + 1 + 1 + 1 + 1 + 1) (a8, .inr (1, [.int 0, .int 0, .int 0]))) (K + 1 + 1 + 1 + 1 + 1 + 1 + 1) (a8, .inr (1, [.int (-1), .int 0, .int 0]))) (K + 1 + 1 + 1 + 1 + 1 + 1 + 1) (a8, .inr (1, [.int (-1), .int (-1), .int 0]))) (io) (x, .inr (9, [.null, .null, .ref a1, .ref a3, .ref a5, .ref a6, .ref a7, .ref a8, .null, .int 0, .int 0, .int 0, .int 0, .int 0]))) (K + 1 + 1 + 1 + 1 + 1 + 1 + 1 + 1) (a9, .inl (cxA cx 0, 14, .inl (fun _ => 0)))) (io) (x, .inr (9, [.null, .null, .ref a1, .ref a3, .ref a5, .ref a6, .ref a7, .ref a8, .ref a9, .int 0, .int 0, .int 0, .int 0, .int 0]))) (io) (x, .inr (9, [.null, .null, .ref a1, .ref a3, .ref a5, .ref a6, .ref a7, .ref a8, .ref a9, .int 0, .int (-1), .int 0, .int 0, .int 0]))) (io) (x, .inr (9, [.ref y1, .null, .ref a1, .ref a3, .ref a5, .ref a6, .ref a7, .ref a8, .ref a9, .int 0, .int (-1), .int 0, .int 0, .int 0]))) (io) (x, .inr (9, [.ref y1, .ref y2, .ref a1, .ref a3, .ref a5, .ref a6, .ref a7, .ref a8, .ref a9, .int 0, .int (-1), .int 0, .int 0, .int 0]))) := by
  refine mk_of cn69.2.2.2.1 (by rw [cm69]; exact Nat.le_of_ble_eq_true rfl) ?_
  refine b_aload_n (x := x) (dx_at ck69_0 0 rfl) rfl ?_
  refine b_objInit (dx_at ck69_0 1 rfl) (show lw_tbl[255]? = _ by decide +kernel) (Nat.le_of_ble_eq_true rfl) (by omega) ?_
  refine b_aload_n (x := x) (dx_at ck69_0 2 rfl) rfl ?_
  refine b_newS (ci := 7) (fs := [.null]) 8 541 (dx_at ck69_0 3 rfl) (show lw_tbl[256]? = _ by decide +kernel) (show lw_tbl[257]? = _ by decide +kernel) (show lw_tbl[92]? = _ by decide +kernel) (by decide) cd7 (by decide) (by decide) (fun a1 => ?_)
  refine b_dup (dx_at ck69_0 4 rfl) rfl ?_
  refine b_callNS (x := a1) (vs := []) 7 285 rfl (dx_at ck69_0 5 rfl) (show (mcn 69, 11, 60, 4, 258) ∈ tb_C by decide +kernel) cn60.2.2.2.1 cn60.2.2.2.2 cn60.2.1 (use_np (by decide)) (Nat.le_of_ble_eq_true rfl) (by omega) (ct_X7 (cx := cx) (d := d - 1)  (by omega) (show K < K + 1 by omega) (upW_s)) (fun r K' f' z => z.1) (by decide) (by decide) (fun K' f' z => ?_)
  obtain ⟨-, rfl, a2, rfl⟩ := z
  refine b_put2 (i := io) (fs := [.null, .null, .null, .null, .null, .null, .null, .null, .null, .int 0, .int 0, .int 0, .int 0, .int 0]) [.null, .null, .ref a1, .null, .null, .null, .null, .null, .null, .int 0, .int 0, .int 0, .int 0, .int 0] (dx_at ck69_0 6 rfl) (show chF 69 12 9 2 = true by decide +kernel) (by omega) ((upW_n (by omega)).trans ((upW_n (by omega)).trans ((upW_n (by omega)).trans (he)))) (Or.inr ⟨rfl, cn69.2.2.1, by rw [cn69.1]; rfl⟩) rfl rfl (Nat.le_of_ble_eq_true rfl) rfl ?_
  refine b_aload_n (x := x) (dx_at ck69_0 7 rfl) rfl ?_
  refine b_newS (ci := 7) (fs := [.null]) 6 284 (dx_at ck69_0 8 rfl) (show lw_tbl[256]? = _ by decide +kernel) (show lw_tbl[257]? = _ by decide +kernel) (show lw_tbl[92]? = _ by decide +kernel) (by decide) cd7 (by decide) (by decide) (fun a3 => ?_)
  refine b_dup (dx_at ck69_0 9 rfl) rfl ?_
  refine b_callNS (x := a3) (vs := []) 5 28 rfl (dx_at ck69_0 10 rfl) (show (mcn 69, 11, 60, 4, 258) ∈ tb_C by decide +kernel) cn60.2.2.2.1 cn60.2.2.2.2 cn60.2.1 (use_np (by decide)) (Nat.le_of_ble_eq_true rfl) (by omega) (ct_X7 (cx := cx) (d := d - 1)  (by omega) (show K + 1 + 1 < K + 1 + 1 + 1 by omega) (upW_s)) (fun r K' f' z => z.1) (by decide) (by decide) (fun K' f' z => ?_)
  obtain ⟨-, rfl, a4, rfl⟩ := z
  refine b_put2 (i := io) (fs := [.null, .null, .ref a1, .null, .null, .null, .null, .null, .null, .int 0, .int 0, .int 0, .int 0, .int 0]) [.null, .null, .ref a1, .ref a3, .null, .null, .null, .null, .null, .int 0, .int 0, .int 0, .int 0, .int 0] (dx_at ck69_0 11 rfl) (show chF 69 18 9 3 = true by decide +kernel) (by omega) ((upW_n (by omega)).trans ((upW_n (by omega)).trans ((upW_n (by omega)).trans (upW_s)))) (Or.inr ⟨rfl, cn69.2.2.1, by rw [cn69.1]; rfl⟩) rfl rfl (Nat.le_of_ble_eq_true rfl) rfl ?_
  refine b_aload_n (x := x) (dx_at ck69_0 12 rfl) rfl ?_
  refine b_newS (ci := 4) (fs := [.int 0, .int 0, .int 0, .int 0]) 4 24 (dx_at ck69_0 13 rfl) (show lw_tbl[266]? = _ by decide +kernel) (show lw_tbl[267]? = _ by decide +kernel) (show lw_tbl[93]? = _ by decide +kernel) (by decide) cd4 (by decide) (by decide) (fun a5 => ?_)
  refine b_dup (dx_at ck69_0 14 rfl) rfl ?_
  refine b_callNS (x := a5) (vs := []) 4 24 rfl (dx_at ck69_0 15 rfl) (show (mcn 69, 23, 31, 4, 268) ∈ tb_C by decide +kernel) cn31.2.2.2.1 cn31.2.2.2.2 cn31.2.1 (use_np (by decide)) (Nat.le_of_ble_eq_true rfl) (by omega) (ct_X4 (cx := cx) (d := d - 1)  (by omega) (show K + 1 + 1 + 1 + 1 < K + 1 + 1 + 1 + 1 + 1 by omega) (upW_s)) (fun r K' f' z => z.1) (by decide) (by decide) (fun K' f' z => ?_)
  obtain ⟨-, rfl, rfl⟩ := z
  refine b_put2 (i := io) (fs := [.null, .null, .ref a1, .ref a3, .null, .null, .null, .null, .null, .int 0, .int 0, .int 0, .int 0, .int 0]) [.null, .null, .ref a1, .ref a3, .ref a5, .null, .null, .null, .null, .int 0, .int 0, .int 0, .int 0, .int 0] (dx_at ck69_0 16 rfl) (show chF 69 24 9 4 = true by decide +kernel) (by omega) ((upW_n (by omega)).trans ((upW_n (by omega)).trans ((upW_n (by omega)).trans ((upW_n (by omega)).trans (upW_s))))) (Or.inr ⟨rfl, cn69.2.2.1, by rw [cn69.1]; rfl⟩) rfl rfl (Nat.le_of_ble_eq_true rfl) rfl ?_
  refine b_aload_n (x := x) (dx_at ck69_0 17 rfl) rfl ?_
  refine b_newS (ci := 4) (fs := [.int 0, .int 0, .int 0, .int 0]) 3 20 (dx_at ck69_0 18 rfl) (show lw_tbl[266]? = _ by decide +kernel) (show lw_tbl[267]? = _ by decide +kernel) (show lw_tbl[93]? = _ by decide +kernel) (by decide) cd4 (by decide) (by decide) (fun a6 => ?_)
  refine b_dup (dx_at ck69_0 19 rfl) rfl ?_
  refine b_callNS (x := a6) (vs := []) 3 20 rfl (dx_at ck69_0 20 rfl) (show (mcn 69, 23, 31, 4, 268) ∈ tb_C by decide +kernel) cn31.2.2.2.1 cn31.2.2.2.2 cn31.2.1 (use_np (by decide)) (Nat.le_of_ble_eq_true rfl) (by omega) (ct_X4 (cx := cx) (d := d - 1)  (by omega) (show K + 1 + 1 + 1 + 1 + 1 < K + 1 + 1 + 1 + 1 + 1 + 1 by omega) (upW_s)) (fun r K' f' z => z.1) (by decide) (by decide) (fun K' f' z => ?_)
  obtain ⟨-, rfl, rfl⟩ := z
  refine b_put2 (i := io) (fs := [.null, .null, .ref a1, .ref a3, .ref a5, .null, .null, .null, .null, .int 0, .int 0, .int 0, .int 0, .int 0]) [.null, .null, .ref a1, .ref a3, .ref a5, .ref a6, .null, .null, .null, .int 0, .int 0, .int 0, .int 0, .int 0] (dx_at ck69_0 21 rfl) (show chF 69 28 9 5 = true by decide +kernel) (by omega) ((upW_n (by omega)).trans ((upW_n (by omega)).trans ((upW_n (by omega)).trans ((upW_n (by omega)).trans (upW_s))))) (Or.inr ⟨rfl, cn69.2.2.1, by rw [cn69.1]; rfl⟩) rfl rfl (Nat.le_of_ble_eq_true rfl) rfl ?_
  refine b_aload_n (x := x) (dx_at ck69_0 22 rfl) rfl ?_
  refine b_newS (ci := 1) (fs := [.int 0, .int 0, .int 0]) 2 17 (dx_at ck69_0 23 rfl) (show lw_tbl[286]? = _ by decide +kernel) (show lw_tbl[287]? = _ by decide +kernel) (show lw_tbl[94]? = _ by decide +kernel) (by decide) cd1 (by decide) (by decide) (fun a7 => ?_)
  refine b_dup (dx_at ck69_0 24 rfl) rfl ?_
  refine b_callNS (x := a7) (vs := []) 2 17 rfl (dx_at ck69_0 25 rfl) (show (mcn 69, 33, 8, 4, 288) ∈ tb_C by decide +kernel) cn8.2.2.2.1 cn8.2.2.2.2 cn8.2.1 (use_np (by decide)) (Nat.le_of_ble_eq_true rfl) (by omega) (ct_X1 (cx := cx) (d := d - 1)  (by omega) (show K + 1 + 1 + 1 + 1 + 1 + 1 < K + 1 + 1 + 1 + 1 + 1 + 1 + 1 by omega) (upW_s)) (fun r K' f' z => z.1) (by decide) (by decide) (fun K' f' z => ?_)
  obtain ⟨-, rfl, rfl⟩ := z
  refine b_put2 (i := io) (fs := [.null, .null, .ref a1, .ref a3, .ref a5, .ref a6, .null, .null, .null, .int 0, .int 0, .int 0, .int 0, .int 0]) [.null, .null, .ref a1, .ref a3, .ref a5, .ref a6, .ref a7, .null, .null, .int 0, .int 0, .int 0, .int 0, .int 0] (dx_at ck69_0 26 rfl) (show chF 69 34 9 6 = true by decide +kernel) (by omega) ((upW_n (by omega)).trans ((upW_n (by omega)).trans ((upW_n (by omega)).trans (upW_s)))) (Or.inr ⟨rfl, cn69.2.2.1, by rw [cn69.1]; rfl⟩) rfl rfl (Nat.le_of_ble_eq_true rfl) rfl ?_
  refine b_aload_n (x := x) (dx_at ck69_0 27 rfl) rfl ?_
  refine b_newS (ci := 1) (fs := [.int 0, .int 0, .int 0]) 1 14 (dx_at ck69_0 28 rfl) (show lw_tbl[286]? = _ by decide +kernel) (show lw_tbl[287]? = _ by decide +kernel) (show lw_tbl[94]? = _ by decide +kernel) (by decide) cd1 (by decide) (by decide) (fun a8 => ?_)
  refine b_dup (dx_at ck69_0 29 rfl) rfl ?_
  refine b_callNS (x := a8) (vs := []) 1 14 rfl (dx_at ck69_0 30 rfl) (show (mcn 69, 33, 8, 4, 288) ∈ tb_C by decide +kernel) cn8.2.2.2.1 cn8.2.2.2.2 cn8.2.1 (use_np (by decide)) (Nat.le_of_ble_eq_true rfl) (by omega) (ct_X1 (cx := cx) (d := d - 1)  (by omega) (show K + 1 + 1 + 1 + 1 + 1 + 1 + 1 < K + 1 + 1 + 1 + 1 + 1 + 1 + 1 + 1 by omega) (upW_s)) (fun r K' f' z => z.1) (by decide) (by decide) (fun K' f' z => ?_)
  obtain ⟨-, rfl, rfl⟩ := z
  refine b_put2 (i := io) (fs := [.null, .null, .ref a1, .ref a3, .ref a5, .ref a6, .ref a7, .null, .null, .int 0, .int 0, .int 0, .int 0, .int 0]) [.null, .null, .ref a1, .ref a3, .ref a5, .ref a6, .ref a7, .ref a8, .null, .int 0, .int 0, .int 0, .int 0, .int 0] (dx_at ck69_0 31 rfl) (show chF 69 38 9 7 = true by decide +kernel) (by omega) ((upW_n (by omega)).trans ((upW_n (by omega)).trans ((upW_n (by omega)).trans (upW_s)))) (Or.inr ⟨rfl, cn69.2.2.1, by rw [cn69.1]; rfl⟩) rfl rfl (Nat.le_of_ble_eq_true rfl) rfl ?_
  refine b_aload_n (x := x) (dx_at ck69_0 32 rfl) rfl ?_
  refine b_bipush (v := nI 14) (dx_at ck69_0 33 rfl) (by decide) ?_
  refine b_newaS (t0 := 0) (N := 14) (ty := .int) (a0 := (14, .inl (fun _ => 0))) 0 0 (dx_at ck69_0 34 rfl) (show lw_tbl[153]? = _ by decide +kernel) rfl (fun _ => rfl) (fun _ => rfl) (by decide) (by decide) (by decide) (by decide) (fun a9 => ?_)
  refine b_put2 (i := io) (fs := [.null, .null, .ref a1, .ref a3, .ref a5, .ref a6, .ref a7, .ref a8, .null, .int 0, .int 0, .int 0, .int 0, .int 0]) [.null, .null, .ref a1, .ref a3, .ref a5, .ref a6, .ref a7, .ref a8, .ref a9, .int 0, .int 0, .int 0, .int 0, .int 0] (dx_at ck69_0 35 rfl) (show chF 69 41 9 8 = true by decide +kernel) (by omega) ((upW_n (by omega)).trans (upW_s)) (Or.inr ⟨rfl, cn69.2.2.1, by rw [cn69.1]; rfl⟩) rfl rfl (Nat.le_of_ble_eq_true rfl) rfl ?_
  refine b_aload_n (x := x) (dx_at ck69_1 0 rfl) rfl ?_
  refine b_iconst (v := -1) (dx_at ck69_1 1 rfl) rfl ?_
  refine b_put2 (i := io) (fs := [.null, .null, .ref a1, .ref a3, .ref a5, .ref a6, .ref a7, .ref a8, .ref a9, .int 0, .int 0, .int 0, .int 0, .int 0]) [.null, .null, .ref a1, .ref a3, .ref a5, .ref a6, .ref a7, .ref a8, .ref a9, .int 0, .int (-1), .int 0, .int 0, .int 0] (dx_at ck69_1 2 rfl) (show chF 69 45 9 10 = true by decide +kernel) (by omega) (upW_s) (Or.inl rfl) rfl rfl (Nat.le_of_ble_eq_true rfl) rfl ?_
  refine b_aload_n (x := x) (dx_at ck69_1 3 rfl) rfl ?_
  refine b_aload_n (x := y1) (dx_at ck69_1 4 rfl) rfl ?_
  refine b_put2 (i := io) (fs := [.null, .null, .ref a1, .ref a3, .ref a5, .ref a6, .ref a7, .ref a8, .ref a9, .int 0, .int (-1), .int 0, .int 0, .int 0]) [.ref y1, .null, .ref a1, .ref a3, .ref a5, .ref a6, .ref a7, .ref a8, .ref a9, .int 0, .int (-1), .int 0, .int 0, .int 0] (dx_at ck69_1 5 rfl) (show chF 69 49 9 0 = true by decide +kernel) (by omega) (upW_s) (Or.inr ⟨rfl, cn69.2.2.1, by rw [cn69.1]; rfl⟩) rfl rfl (Nat.le_of_ble_eq_true rfl) rfl ?_
  refine b_aload_n (x := x) (dx_at ck69_1 6 rfl) rfl ?_
  refine b_aload_n (x := y2) (dx_at ck69_1 7 rfl) rfl ?_
  refine b_put2 (i := io) (fs := [.ref y1, .null, .ref a1, .ref a3, .ref a5, .ref a6, .ref a7, .ref a8, .ref a9, .int 0, .int (-1), .int 0, .int 0, .int 0]) [.ref y1, .ref y2, .ref a1, .ref a3, .ref a5, .ref a6, .ref a7, .ref a8, .ref a9, .int 0, .int (-1), .int 0, .int 0, .int 0] (dx_at ck69_1 8 rfl) (show chF 69 53 9 1 = true by decide +kernel) (by omega) (upW_s) (Or.inr ⟨rfl, cn69.2.2.1, by rw [cn69.1]; rfl⟩) rfl rfl (Nat.le_of_ble_eq_true rfl) rfl ?_
  exact b_vret (dx_at ck69_1 9 rfl) cn69.2.1 ⟨rfl, rfl, a1, a2, a3, a4, a5, a6, a7, a8, a9, rfl⟩
