theorem e_X2_clear {S : ShT} {σ : StT} {Q : Int → StT → Prop} (hS : SHP S) (k : Q 0 (up2 σ 53 3 0)) : WPs mX2_clear [vR 53] S σ Q := by
  refine s_entry (by decide) (Nat.le_of_ble_eq_true rfl) rfl rfl ?_
  refine r_aload_n dX2_clear_0 rfl ?_
  refine r_iconst dX2_clear_1 ⟨by decide, by decide⟩ ?_
  refine r_putIv dX2_clear_2 fl_X2_25 (fun _ h => by cases h; rfl) (Or.inl rfl) (k_53 hS) ?_
  exact s_vret dX2_clear_5 rfl k
theorem e_X2_keep {d : Nat} {p : Nat} {S : ShT} {σ : StT} {Q : Int → StT → Prop} (hS : SHP S) (hd : isD d) (hp : isP p) (k : inR ((σ 53 2) + 1) ∧ 0 ≤ (σ 53 2) + 1 ∧ (0 ≤ ((σ 53 2) + 1) % 10 ∧ ((σ 53 2) + 1) % 10 < 10) ∧ WPs mX0_copy [vR (56 + 5 * (((σ 53 2) + 1) % 10).toNat), vR d] S (up2 σ 53 2 (((σ 53 2) + 1) % 10)) (fun r23 s23 => (0 ≤ s23 53 2 ∧ s23 53 2 < 10) ∧ WPs mX5_copy [vR (59 + 5 * (s23 53 2).toNat), vR p] S s23 (fun r36 s36 => inR ((s36 53 3) + 1) ∧ Q 0 (up2 s36 53 3 (min ((s36 53 3) + 1) 10))))) : WPs mX2_keep [vR 53, vR d, vR p] S σ Q := by
  refine s_entry (by decide) (Nat.le_of_ble_eq_true rfl) rfl rfl ?_
  refine r_aload_n dX2_keep_0 rfl ?_
  refine r_aload_n dX2_keep_1 rfl ?_
  refine r_getIv dX2_keep_2 fl_X2_21 rfl (k_53 hS) ?_
  refine r_iconst dX2_keep_5 ⟨by decide, by decide⟩ ?_
  obtain ⟨h, k⟩ := k
  refine r_iadd dX2_keep_6 h ?_
  refine r_bipush dX2_keep_7 (by decide +kernel) ⟨by decide, by decide⟩ ?_
  obtain ⟨h, k⟩ := k
  refine r_irem dX2_keep_9 h (by decide) ?_
  refine r_putIv dX2_keep_10 fl_X2_21 (fun _ h => by cases h; rfl) (Or.inl rfl) (k_53 hS) ?_
  refine r_aload_n dX2_keep_13 rfl ?_
  refine r_getRv dX2_keep_14 fl_X2_11 rfl (k_53 hS) (f_53_0 hS) (by decide) ?_
  refine r_aload_n dX2_keep_17 rfl ?_
  refine r_getIv dX2_keep_18 fl_X2_21 rfl (k_53 hS) ?_
  refine r_top (up2_s _ _ _ _) ?_
  obtain ⟨⟨h0, h1⟩, k⟩ := k
  refine r_aaldv dX2_keep_21 (Or.inl (k_54 hS)) h0 h1 (el_54 hS h0 h1) (by omega) ?_
  refine r_aload_n dX2_keep_22 rfl ?_
  refine s_callVv (z := mX0_copy) [vR d] dX2_keep_23 mv_X0_copy lk_X2_32 rfl (by decide) (kD hS (is_54 h0 h1)) (Nat.le_of_ble_eq_true rfl) (WPs.mono k (fun r23 s23 k => ?_))
  refine r_aload_n dX2_keep_26 rfl ?_
  refine r_getRv dX2_keep_27 fl_X2_17 rfl (k_53 hS) (f_53_1 hS) (by decide) ?_
  refine r_aload_n dX2_keep_30 rfl ?_
  refine r_getIv dX2_keep_31 fl_X2_21 rfl (k_53 hS) ?_
  obtain ⟨⟨h0, h1⟩, k⟩ := k
  refine r_aaldv dX2_keep_34 (Or.inr (k_55 hS)) h0 h1 (el_55 hS h0 h1) (by omega) ?_
  refine r_aload_n dX2_keep_35 rfl ?_
  refine s_callVv (z := mX5_copy) [vR p] dX2_keep_36 mv_X5_copy lk_X2_36 rfl (by decide) (kP hS (is_55 h0 h1)) (Nat.le_of_ble_eq_true rfl) (WPs.mono k (fun r36 s36 k => ?_))
  refine r_aload_n dX2_keep_39 rfl ?_
  refine r_aload_n dX2_keep_40 rfl ?_
  refine r_getIv dX2_keep_41 fl_X2_25 rfl (k_53 hS) ?_
  refine r_iconst dX2_keep_44 ⟨by decide, by decide⟩ ?_
  obtain ⟨h, k⟩ := k
  refine r_iadd dX2_keep_45 h ?_
  refine r_bipush dX2_keep_46 (by decide +kernel) ⟨by decide, by decide⟩ ?_
  refine r_mmin dX2_keep_48 lk_X2_39 (by decide) (Nat.le_of_ble_eq_true rfl) ?_
  refine r_putIv dX2_keep_51 fl_X2_25 (fun _ h => by cases h; rfl) (Or.inl rfl) (k_53 hS) ?_
  exact s_vret dX2_keep_54 rfl k
theorem e_X2_takeBack {d : Nat} {p : Nat} {S : ShT} {σ : StT} {Q : Int → StT → Prop} (hS : SHP S) (hd : isD d) (hp : isP p) (k : (¬ σ 53 3 = 0 → (0 ≤ σ 53 2 ∧ σ 53 2 < 10) ∧ WPs mX0_copy [vR d, vR (56 + 5 * (σ 53 2).toNat)] S σ (fun r18 s18 => (0 ≤ s18 53 2 ∧ s18 53 2 < 10) ∧ WPs mX5_copy [vR p, vR (59 + 5 * (s18 53 2).toNat)] S s18 (fun r31 s31 => inR ((s31 53 2) + 10) ∧ inR (((s31 53 2) + 10) - 1) ∧ 0 ≤ ((s31 53 2) + 10) - 1 ∧ inR ((s31 53 3) - 1) ∧ Q 0 (up2 (up2 s31 53 2 ((((s31 53 2) + 10) - 1) % 10)) 53 3 ((s31 53 3) - 1))))) ∧ (σ 53 3 = 0 → Q 0 σ)) : WPs mX2_takeBack [vR 53, vR d, vR p] S σ Q := by
  refine s_entry (by decide) (Nat.le_of_ble_eq_true rfl) rfl rfl ?_
  refine r_aload_n dX2_takeBack_0 rfl ?_
  refine r_getIv dX2_takeBack_1 fl_X2_25 rfl (k_53 hS) ?_
  refine r_if_ne (tgt := 8) dX2_takeBack_4 rfl (fun h => ?_) (fun h => ?_)
  · have k := k.1 h
    refine r_aload_n dX2_takeBack_8 rfl ?_
    refine r_aload_n dX2_takeBack_9 rfl ?_
    refine r_getRv dX2_takeBack_10 fl_X2_11 rfl (k_53 hS) (f_53_0 hS) (by decide) ?_
    refine r_aload_n dX2_takeBack_13 rfl ?_
    refine r_getIv dX2_takeBack_14 fl_X2_21 rfl (k_53 hS) ?_
    obtain ⟨⟨h0, h1⟩, k⟩ := k
    refine r_aaldv dX2_takeBack_17 (Or.inl (k_54 hS)) h0 h1 (el_54 hS h0 h1) (by omega) ?_
    refine s_callVv (z := mX0_copy) [vR (56 + 5 * (σ 53 2).toNat)] dX2_takeBack_18 mv_X0_copy lk_X2_32 rfl (by decide) (kD hS hd) (Nat.le_of_ble_eq_true rfl) (WPs.mono k (fun r18 s18 k => ?_))
    refine r_aload_n dX2_takeBack_21 rfl ?_
    refine r_aload_n dX2_takeBack_22 rfl ?_
    refine r_getRv dX2_takeBack_23 fl_X2_17 rfl (k_53 hS) (f_53_1 hS) (by decide) ?_
    refine r_aload_n dX2_takeBack_26 rfl ?_
    refine r_getIv dX2_takeBack_27 fl_X2_21 rfl (k_53 hS) ?_
    obtain ⟨⟨h0, h1⟩, k⟩ := k
    refine r_aaldv dX2_takeBack_30 (Or.inr (k_55 hS)) h0 h1 (el_55 hS h0 h1) (by omega) ?_
    refine s_callVv (z := mX5_copy) [vR (59 + 5 * (s18 53 2).toNat)] dX2_takeBack_31 mv_X5_copy lk_X2_36 rfl (by decide) (kP hS hp) (Nat.le_of_ble_eq_true rfl) (WPs.mono k (fun r31 s31 k => ?_))
    refine r_aload_n dX2_takeBack_34 rfl ?_
    refine r_aload_n dX2_takeBack_35 rfl ?_
    refine r_getIv dX2_takeBack_36 fl_X2_21 rfl (k_53 hS) ?_
    refine r_bipush dX2_takeBack_39 (by decide +kernel) ⟨by decide, by decide⟩ ?_
    obtain ⟨h, k⟩ := k
    refine r_iadd dX2_takeBack_41 h ?_
    refine r_iconst dX2_takeBack_42 ⟨by decide, by decide⟩ ?_
    obtain ⟨h, k⟩ := k
    refine r_isub dX2_takeBack_43 h ?_
    refine r_bipush dX2_takeBack_44 (by decide +kernel) ⟨by decide, by decide⟩ ?_
    obtain ⟨h, k⟩ := k
    refine r_irem dX2_takeBack_46 h (by decide) ?_
    refine r_putIv dX2_takeBack_47 fl_X2_21 (fun _ h => by cases h; rfl) (Or.inl rfl) (k_53 hS) ?_
    refine r_aload_n dX2_takeBack_50 rfl ?_
    refine r_dup dX2_takeBack_51 rfl ?_
    refine r_getIv dX2_takeBack_52 fl_X2_25 rfl (k_53 hS) ?_
    refine r_top (up2_i (by decide)) ?_
    refine r_iconst dX2_takeBack_55 ⟨by decide, by decide⟩ ?_
    obtain ⟨h, k⟩ := k
    refine r_isub dX2_takeBack_56 h ?_
    refine r_putIv dX2_takeBack_57 fl_X2_25 (fun _ h => by cases h; rfl) (Or.inl rfl) (k_53 hS) ?_
    exact s_vret dX2_takeBack_60 rfl k
  · have k := k.2 h
    exact s_vret dX2_takeBack_7 rfl k
