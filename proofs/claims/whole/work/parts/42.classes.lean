set_option maxRecDepth 100000 in
theorem gX0 : ∀ w ∈ u_ws RX0 TX0 9, w ∈ GB := fun w h => List.mem_filter.mpr (List.all_eq_true.mp (show (u_ws RX0 TX0 9).all (fun w => decide (w ∈ lw_tbl ∧ goodWord w = true)) = true from by decide +kernel) w h |> fun h => of_decide_eq_true h)
set_option maxRecDepth 100000 in
theorem gX1 : ∀ w ∈ u_ws RX1 TX1 5, w ∈ GB := fun w h => List.mem_filter.mpr (List.all_eq_true.mp (show (u_ws RX1 TX1 5).all (fun w => decide (w ∈ lw_tbl ∧ goodWord w = true)) = true from by decide +kernel) w h |> fun h => of_decide_eq_true h)
set_option maxRecDepth 100000 in
theorem gX2 : ∀ w ∈ u_ws RX2 TX2 4, w ∈ GB := fun w h => List.mem_filter.mpr (List.all_eq_true.mp (show (u_ws RX2 TX2 4).all (fun w => decide (w ∈ lw_tbl ∧ goodWord w = true)) = true from by decide +kernel) w h |> fun h => of_decide_eq_true h)
set_option maxRecDepth 100000 in
theorem gX3 : ∀ w ∈ u_ws RX3 TX3 7, w ∈ GB := fun w h => List.mem_filter.mpr (List.all_eq_true.mp (show (u_ws RX3 TX3 7).all (fun w => decide (w ∈ lw_tbl ∧ goodWord w = true)) = true from by decide +kernel) w h |> fun h => of_decide_eq_true h)
set_option maxRecDepth 100000 in
theorem gX4 : ∀ w ∈ u_ws RX4 TX4 15, w ∈ GB := fun w h => List.mem_filter.mpr (List.all_eq_true.mp (show (u_ws RX4 TX4 15).all (fun w => decide (w ∈ lw_tbl ∧ goodWord w = true)) = true from by decide +kernel) w h |> fun h => of_decide_eq_true h)
set_option maxRecDepth 100000 in
theorem gX5 : ∀ w ∈ u_ws RX5 TX5 5, w ∈ GB := fun w h => List.mem_filter.mpr (List.all_eq_true.mp (show (u_ws RX5 TX5 5).all (fun w => decide (w ∈ lw_tbl ∧ goodWord w = true)) = true from by decide +kernel) w h |> fun h => of_decide_eq_true h)
set_option maxRecDepth 100000 in
theorem gX6 : ∀ w ∈ u_ws RX6 TX6 7, w ∈ GB := fun w h => List.mem_filter.mpr (List.all_eq_true.mp (show (u_ws RX6 TX6 7).all (fun w => decide (w ∈ lw_tbl ∧ goodWord w = true)) = true from by decide +kernel) w h |> fun h => of_decide_eq_true h)
set_option maxRecDepth 100000 in
theorem gX7 : ∀ w ∈ u_ws RX7 TX7 7, w ∈ GB := fun w h => List.mem_filter.mpr (List.all_eq_true.mp (show (u_ws RX7 TX7 7).all (fun w => decide (w ∈ lw_tbl ∧ goodWord w = true)) = true from by decide +kernel) w h |> fun h => of_decide_eq_true h)
set_option maxRecDepth 100000 in
theorem gX8 : ∀ w ∈ u_ws RX8 TX8 15, w ∈ GB := fun w h => List.mem_filter.mpr (List.all_eq_true.mp (show (u_ws RX8 TX8 15).all (fun w => decide (w ∈ lw_tbl ∧ goodWord w = true)) = true from by decide +kernel) w h |> fun h => of_decide_eq_true h)
set_option maxRecDepth 100000 in
theorem gX9 : ∀ w ∈ u_ws RX9 TX9 13, w ∈ GB := fun w h => List.mem_filter.mpr (List.all_eq_true.mp (show (u_ws RX9 TX9 13).all (fun w => decide (w ∈ lw_tbl ∧ goodWord w = true)) = true from by decide +kernel) w h |> fun h => of_decide_eq_true h)
set_option maxRecDepth 100000 in
theorem gX10 : ∀ w ∈ u_ws RX10 TX10 14, w ∈ GB := fun w h => List.mem_filter.mpr (List.all_eq_true.mp (show (u_ws RX10 TX10 14).all (fun w => decide (w ∈ lw_tbl ∧ goodWord w = true)) = true from by decide +kernel) w h |> fun h => of_decide_eq_true h)
set_option maxRecDepth 100000 in
theorem gX11 : ∀ w ∈ u_ws RX11 TX11 54, w ∈ GB := fun w h => List.mem_filter.mpr (List.all_eq_true.mp (show (u_ws RX11 TX11 54).all (fun w => decide (w ∈ lw_tbl ∧ goodWord w = true)) = true from by decide +kernel) w h |> fun h => of_decide_eq_true h)
theorem cl_ok {ci : Nat} {q : vw_C} (h : vwCl[ci]? = some q) : (∀ k, k < q.2.2 → parseFieldDescriptor (q.2.1 k).2.2.1 = some (clTy ci k)) ∧ (∀ a, a < q.2.2 → ∀ b, b < q.2.2 → a ≠ b → (q.2.1 a).2.1 ≠ (q.2.1 b).2.1) ∧ ∀ w ∈ u_ws q.1 q.2.1 q.2.2, w ∈ GB := by
  match ci, h with
  | 0, h => cases h; exact ⟨tyX0_ok, nmX0, gX0⟩
  | 1, h => cases h; exact ⟨tyX1_ok, nmX1, gX1⟩
  | 2, h => cases h; exact ⟨tyX2_ok, nmX2, gX2⟩
  | 3, h => cases h; exact ⟨tyX3_ok, nmX3, gX3⟩
  | 4, h => cases h; exact ⟨tyX4_ok, nmX4, gX4⟩
  | 5, h => cases h; exact ⟨tyX5_ok, nmX5, gX5⟩
  | 6, h => cases h; exact ⟨tyX6_ok, nmX6, gX6⟩
  | 7, h => cases h; exact ⟨tyX7_ok, nmX7, gX7⟩
  | 8, h => cases h; exact ⟨tyX8_ok, nmX8, gX8⟩
  | 9, h => cases h; exact ⟨tyX9_ok, nmX9, gX9⟩
  | 10, h => cases h; exact ⟨tyX10_ok, nmX10, gX10⟩
  | 11, h => cases h; exact ⟨tyX11_ok, nmX11, gX11⟩
  | n + 12, h => cases h
