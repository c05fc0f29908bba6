/-! where each field's place in its class stands in the tables -/
def tb_L : List (List Nat) := [[223, 225, 227], [295, 297, 299], [237, 239, 241, 243, 245, 247], [682, 684, 686], [277, 279, 281, 283], [187, 189, 191, 193, 195, 197, 199, 201, 203, 205], [356, 358, 360], [263], [164, 166], [318, 320, 322, 324, 326, 328, 330, 332, 334, 336, 338, 340, 342, 344], [136, 138, 140, 142, 144, 146, 148, 150], [376, 378, 380, 382, 384, 386, 388, 390, 392, 394, 396, 398, 400], [1125, 1127, 1129, 1131, 1133, 1135, 1137, 1139, 1141, 1143, 1145, 1147, 1149, 1151, 1153, 1155, 1157, 1159, 1161, 1163, 1165, 1167, 1169, 1171, 1173, 1175, 1177, 1179, 1181, 1183, 1185, 1187, 1189, 1191, 1193, 1195, 1197, 1199, 1201]]
theorem tb_L_ok : ((List.range 13).all (fun ci => (List.range (tb_NN ci)).all (fun k => decide (lw_tbl[(tb_L.getD ci []).getD k 0]? = some (u_lay (tb_RR ci) (tb_TT ci) k)) && goodWord (u_lay (tb_RR ci) (tb_TT ci) k)))) = true := by decide +kernel
theorem u_in {ci : Nat} (hc : ci < 13) : ∀ w ∈ u_ws (tb_RR ci) (tb_TT ci) (tb_NN ci), w ∈ gT := by
  intro w hw
  obtain ⟨k, hk, rfl⟩ := List.mem_map.mp hw
  have h1 := List.all_eq_true.mp (List.all_eq_true.mp tb_L_ok ci (List.mem_range.mpr hc)) k hk
  simp only [Bool.and_eq_true, decide_eq_true_eq] at h1
  exact gT_of h1.1 h1.2
theorem vw_get {ci : Nat} (hc : ci < 13) : vwCl[ci]? = some (tb_RR ci, tb_TT ci, tb_NN ci) := by
  match ci, hc with
  | 0, _ => rfl
  | 1, _ => rfl
  | 2, _ => rfl
  | 3, _ => rfl
  | 4, _ => rfl
  | 5, _ => rfl
  | 6, _ => rfl
  | 7, _ => rfl
  | 8, _ => rfl
  | 9, _ => rfl
  | 10, _ => rfl
  | 11, _ => rfl
  | 12, _ => rfl
theorem tb_ty_ok {ci : Nat} (hc : ci < 13) : ∀ k, k < tb_NN ci → parseFieldDescriptor (tb_TT ci k).2.2.1 = some (tb_ty ci k) := by
  match ci, hc with
  | 0, _ => exact tyX0_ok
  | 1, _ => exact tyX1_ok
  | 2, _ => exact tyX2_ok
  | 3, _ => exact tyX3_ok
  | 4, _ => exact tyX4_ok
  | 5, _ => exact tyX5_ok
  | 6, _ => exact tyX6_ok
  | 7, _ => exact tyX7_ok
  | 8, _ => exact tyX8_ok
  | 9, _ => exact tyX9_ok
  | 10, _ => exact tyX10_ok
  | 11, _ => exact tyX11_ok
  | 12, _ => exact tyX12_ok
theorem tb_nm {ci : Nat} (hc : ci < 13) : ∀ a, a < tb_NN ci → ∀ b, b < tb_NN ci → a ≠ b → (tb_TT ci a).2.1 ≠ (tb_TT ci b).2.1 := by
  match ci, hc with
  | 0, _ => exact nmX0
  | 1, _ => exact nmX1
  | 2, _ => exact nmX2
  | 3, _ => exact nmX3
  | 4, _ => exact nmX4
  | 5, _ => exact nmX5
  | 6, _ => exact nmX6
  | 7, _ => exact nmX7
  | 8, _ => exact nmX8
  | 9, _ => exact nmX9
  | 10, _ => exact nmX10
  | 11, _ => exact nmX11
  | 12, _ => exact nmX12
theorem tb_F_use {own idx ci k hint : Nat} (h : (own, idx, ci, k, hint) ∈ tb_F) : Cond.fieldLink (tb_RR own) idx (tb_TT ci k).1 (tb_TT ci k).2.1 (tb_TT ci k).2.2.1 ∈ gT ∧ k < tb_NN ci ∧ ci < 13 := by
  have h1 := List.all_eq_true.mp tb_F_ok _ h
  simp only [Bool.and_eq_true, decide_eq_true_eq] at h1
  exact ⟨gT_of h1.1.1 rfl, h1.1.2, h1.2⟩
