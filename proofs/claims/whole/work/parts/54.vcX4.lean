theorem e_X4_gather {S : ShT} {σ : StT} {Q : Int → StT → Prop} (hS : SHP S) (k : AWs mX4_gather 7 [(0, vR 20), (1, vI 0)] [] S (up2 σ 20 6 0) Q) : WPs mX4_gather [vR 20] S σ Q := by
  refine s_entry (by decide) (Nat.le_of_ble_eq_true rfl) rfl rfl ?_
  refine r_aload_n dX4_gather_0 rfl ?_
  refine r_iconst dX4_gather_1 ⟨by decide, by decide⟩ ?_
  refine r_putIv dX4_gather_2 fl_X4_28 (fun _ h => by cases h; rfl) (Or.inl rfl) (k_20 hS) ?_
  refine r_iconst dX4_gather_5 ⟨by decide, by decide⟩ ?_
  refine r_istore_n dX4_gather_6 (by decide) rfl rfl ?_
  exact k
theorem t_X4_gather_7 {v1 : Int} {S : ShT} {σ : StT} {Q : Int → StT → Prop} (hS : SHP S) (k : WPs mX3_parts [vR 7] S σ (fun r12 s12 => (r12 ≤ v1 → Q 0 s12) ∧ (¬ (r12 ≤ v1) → (0 ≤ v1 ∧ v1 < 25) ∧ WPs mX4_listOdds [vR 20, vI v1] S (up2 s12 25 v1.toNat (s12 20 6)) (fun r30 s30 => (s30 20 8 ≤ 14 → WPs mX4_pairByLeast [vR 20] S s30 (fun r50 s50 => AWs mX4_gather 53 [(0, vR 20), (1, vI v1)] [] S s50 Q)) ∧ (¬ (s30 20 8 ≤ 14) → WPs mX4_pairNeighbours [vR 20] S s30 (fun r43 s43 => AWs mX4_gather 53 [(0, vR 20), (1, vI v1)] [] S s43 Q)))))) : AWs mX4_gather 7 [(0, vR 20), (1, vI v1)] [] S σ Q := by
  refine r_iload_n dX4_gather_7 rfl ?_
  refine r_aload_n dX4_gather_8 rfl ?_
  refine r_getRv dX4_gather_9 fl_X4_56 rfl (k_20 hS) (f_20_0 hS) (by decide) ?_
  refine s_callVv (z := mX3_parts) [] dX4_gather_12 mv_X3_parts lk_X4_60 rfl (by decide) (k_7 hS) (Nat.le_of_ble_eq_true rfl) (WPs.mono k (fun r12 s12 k => ?_))
  refine r_icmp_ge (tgt := 76) dX4_gather_15 rfl (fun h => ?_) (fun h => ?_)
  · have k := k.1 h
    exact s_vret dX4_gather_76 rfl k
  · have k := k.2 h
    refine r_aload_n dX4_gather_18 rfl ?_
    refine r_getRv dX4_gather_19 fl_X4_25 rfl (k_20 hS) (f_20_5 hS) (by decide) ?_
    refine r_iload_n dX4_gather_22 rfl ?_
    refine r_aload_n dX4_gather_23 rfl ?_
    refine r_getIv dX4_gather_24 fl_X4_28 rfl (k_20 hS) ?_
    obtain ⟨⟨h0, h1⟩, k⟩ := k
    refine r_iast dX4_gather_27 (k_25 hS) h0 h1 ?_
    refine r_aload_n dX4_gather_28 rfl ?_
    refine r_iload_n dX4_gather_29 rfl ?_
    refine s_callVv (z := mX4_listOdds) [vI v1] dX4_gather_30 mv_X4_listOdds lk_X4_66 rfl (by decide) (k_20 hS) (Nat.le_of_ble_eq_true rfl) (WPs.mono k (fun r30 s30 k => ?_))
    refine r_aload_n dX4_gather_33 rfl ?_
    refine r_getIv dX4_gather_34 fl_X4_35 rfl (k_20 hS) ?_
    refine r_bipush dX4_gather_37 (by decide +kernel) ⟨by decide, by decide⟩ ?_
    refine r_icmp_le (tgt := 49) dX4_gather_39 rfl (fun h => ?_) (fun h => ?_)
    · have k := k.1 h
      refine r_aload_n dX4_gather_49 rfl ?_
      refine s_callVv (z := mX4_pairByLeast) [] dX4_gather_50 mv_X4_pairByLeast lk_X4_73 rfl (by decide) (k_20 hS) (Nat.le_of_ble_eq_true rfl) (WPs.mono k (fun r50 s50 k => ?_))
      exact k
    · have k := k.2 h
      refine r_aload_n dX4_gather_42 rfl ?_
      refine s_callVv (z := mX4_pairNeighbours) [] dX4_gather_43 mv_X4_pairNeighbours lk_X4_70 rfl (by decide) (k_20 hS) (Nat.le_of_ble_eq_true rfl) (WPs.mono k (fun r43 s43 k => ?_))
      refine r_goto (tgt := 53) dX4_gather_46 rfl ?_
      exact k
theorem t_X4_gather_53 {v1 : Int} {S : ShT} {σ : StT} {Q : Int → StT → Prop} (hS : SHP S) (k : inR (v1 + 1) ∧ (0 ≤ v1 + 1 ∧ v1 + 1 < 25) ∧ WPs mX4_markCut [vR 20, vI v1] S (up2 σ 25 (v1 + 1).toNat (σ 20 6)) (fun r67 s67 => inR (v1 + 1) ∧ AWs mX4_gather 7 [(0, vR 20), (1, vI (v1 + 1))] [] S s67 Q)) : AWs mX4_gather 53 [(0, vR 20), (1, vI v1)] [] S σ Q := by
  refine r_aload_n dX4_gather_53 rfl ?_
  refine r_getRv dX4_gather_54 fl_X4_25 rfl (k_20 hS) (f_20_5 hS) (by decide) ?_
  refine r_iload_n dX4_gather_57 rfl ?_
  refine r_iconst dX4_gather_58 ⟨by decide, by decide⟩ ?_
  obtain ⟨h, k⟩ := k
  refine r_iadd dX4_gather_59 h ?_
  refine r_aload_n dX4_gather_60 rfl ?_
  refine r_getIv dX4_gather_61 fl_X4_28 rfl (k_20 hS) ?_
  obtain ⟨⟨h0, h1⟩, k⟩ := k
  refine r_iast dX4_gather_64 (k_25 hS) h0 h1 ?_
  refine r_aload_n dX4_gather_65 rfl ?_
  refine r_iload_n dX4_gather_66 rfl ?_
  refine s_callVv (z := mX4_markCut) [vI v1] dX4_gather_67 mv_X4_markCut lk_X4_76 rfl (by decide) (k_20 hS) (Nat.le_of_ble_eq_true rfl) (WPs.mono k (fun r67 s67 k => ?_))
  obtain ⟨h, k⟩ := k
  refine r_iinc dX4_gather_70 rfl (by decide) rfl rfl h ?_
  refine r_goto (tgt := 7) dX4_gather_73 rfl ?_
  exact k
theorem e_X4_firstIn {v1 : Int} {S : ShT} {σ : StT} {Q : Int → StT → Prop} (hS : SHP S) (k : (0 ≤ v1 ∧ v1 < 25) ∧ Q (σ 25 v1.toNat) σ) : WPs mX4_firstIn [vR 20, vI v1] S σ Q := by
  refine s_entry (by decide) (Nat.le_of_ble_eq_true rfl) rfl rfl ?_
  refine r_aload_n dX4_firstIn_0 rfl ?_
  refine r_getRv dX4_firstIn_1 fl_X4_25 rfl (k_20 hS) (f_20_5 hS) (by decide) ?_
  refine r_iload_n dX4_firstIn_4 rfl ?_
  obtain ⟨⟨h0, h1⟩, k⟩ := k
  refine r_iald dX4_firstIn_5 (Or.inl (k_25 hS)) h0 h1 ?_
  exact s_iret dX4_firstIn_6 rfl k
theorem e_X4_behindLastIn {v1 : Int} {S : ShT} {σ : StT} {Q : Int → StT → Prop} (hS : SHP S) (k : inR (v1 + 1) ∧ (0 ≤ v1 + 1 ∧ v1 + 1 < 25) ∧ Q (σ 25 (v1 + 1).toNat) σ) : WPs mX4_behindLastIn [vR 20, vI v1] S σ Q := by
  refine s_entry (by decide) (Nat.le_of_ble_eq_true rfl) rfl rfl ?_
  refine r_aload_n dX4_behindLastIn_0 rfl ?_
  refine r_getRv dX4_behindLastIn_1 fl_X4_25 rfl (k_20 hS) (f_20_5 hS) (by decide) ?_
  refine r_iload_n dX4_behindLastIn_4 rfl ?_
  refine r_iconst dX4_behindLastIn_5 ⟨by decide, by decide⟩ ?_
  obtain ⟨h, k⟩ := k
  refine r_iadd dX4_behindLastIn_6 h ?_
  obtain ⟨⟨h0, h1⟩, k⟩ := k
  refine r_iald dX4_behindLastIn_7 (Or.inl (k_25 hS)) h0 h1 ?_
  exact s_iret dX4_behindLastIn_8 rfl k
theorem e_X4_cutOf {v1 : Int} {S : ShT} {σ : StT} {Q : Int → StT → Prop} (hS : SHP S) (k : (0 ≤ v1 ∧ v1 < 25) ∧ ∀ x6 : Int, x6 = σ 25 v1.toNat → AWs mX4_cutOf 7 [(0, vR 20), (1, vI v1), (2, vI x6)] [] S σ Q) : WPs mX4_cutOf [vR 20, vI v1] S σ Q := by
  refine s_entry (by decide) (Nat.le_of_ble_eq_true rfl) rfl rfl ?_
  refine r_aload_n dX4_cutOf_0 rfl ?_
  refine r_getRv dX4_cutOf_1 fl_X4_25 rfl (k_20 hS) (f_20_5 hS) (by decide) ?_
  refine r_iload_n dX4_cutOf_4 rfl ?_
  obtain ⟨⟨h0, h1⟩, k⟩ := k
  refine r_iald dX4_cutOf_5 (Or.inl (k_25 hS)) h0 h1 ?_
  refine r_gen (fun x6 hx6 => ?_)
  have k := k x6 hx6
  refine r_istore_n dX4_cutOf_6 (by decide) rfl rfl ?_
  exact k
theorem t_X4_cutOf_7 {v1 v2 : Int} {S : ShT} {σ : StT} {Q : Int → StT → Prop} (hS : SHP S) (k : inR (v1 + 1) ∧ ((0 ≤ v1 + 1 ∧ v1 + 1 < 25) ∧ ((σ 25 (v1 + 1).toNat ≤ v2 → Q (-1) σ) ∧ (¬ (σ 25 (v1 + 1).toNat ≤ v2) → (0 ≤ v2 ∧ v2 < 24) ∧ ((σ 24 v2.toNat = 0 → inR (v2 + 1) ∧ AWs mX4_cutOf 7 [(0, vR 20), (1, vI v1), (2, vI (v2 + 1))] [] S σ Q) ∧ (¬ (σ 24 v2.toNat = 0) → Q v2 σ)))))) : AWs mX4_cutOf 7 [(0, vR 20), (1, vI v1), (2, vI v2)] [] S σ Q := by
  refine r_iload_n dX4_cutOf_7 rfl ?_
  refine r_aload_n dX4_cutOf_8 rfl ?_
  refine r_getRv dX4_cutOf_9 fl_X4_25 rfl (k_20 hS) (f_20_5 hS) (by decide) ?_
  refine r_iload_n dX4_cutOf_12 rfl ?_
  refine r_iconst dX4_cutOf_13 ⟨by decide, by decide⟩ ?_
  obtain ⟨h, k⟩ := k
  refine r_iadd dX4_cutOf_14 h ?_
  obtain ⟨⟨h0, h1⟩, k⟩ := k
  refine r_iald dX4_cutOf_15 (Or.inl (k_25 hS)) h0 h1 ?_
  refine r_icmp_ge (tgt := 36) dX4_cutOf_16 rfl (fun h => ?_) (fun h => ?_)
  · have k := k.1 h
    refine r_iconst dX4_cutOf_36 ⟨by decide, by decide⟩ ?_
    exact s_iret dX4_cutOf_37 rfl k
  · have k := k.2 h
    refine r_aload_n dX4_cutOf_19 rfl ?_
    refine r_getRv dX4_cutOf_20 fl_X4_21 rfl (k_20 hS) (f_20_4 hS) (by decide) ?_
    refine r_iload_n dX4_cutOf_23 rfl ?_
    obtain ⟨⟨h0, h1⟩, k⟩ := k
    refine r_zald dX4_cutOf_24 (k_24 hS) h0 h1 ?_
    refine r_if_eq (tgt := 30) dX4_cutOf_25 rfl (fun h => ?_) (fun h => ?_)
    · have k := k.1 h
      obtain ⟨h, k⟩ := k
      refine r_iinc dX4_cutOf_30 rfl (by decide) rfl rfl h ?_
      refine r_goto (tgt := 7) dX4_cutOf_33 rfl ?_
      exact k
    · have k := k.2 h
      refine r_iload_n dX4_cutOf_28 rfl ?_
      exact s_iret dX4_cutOf_29 rfl k
theorem e_X4_gapsIn {v1 : Int} {S : ShT} {σ : StT} {Q : Int → StT → Prop} (hS : SHP S) (k : (0 ≤ v1 ∧ v1 < 25) ∧ ∀ x8 : Int, x8 = σ 25 v1.toNat → AWs mX4_gapsIn 9 [(0, vR 20), (1, vI v1), (2, vI 0), (3, vI x8)] [] S σ Q) : WPs mX4_gapsIn [vR 20, vI v1] S σ Q := by
  refine s_entry (by decide) (Nat.le_of_ble_eq_true rfl) rfl rfl ?_
  refine r_iconst dX4_gapsIn_0 ⟨by decide, by decide⟩ ?_
  refine r_istore_n dX4_gapsIn_1 (by decide) rfl rfl ?_
  refine r_aload_n dX4_gapsIn_2 rfl ?_
  refine r_getRv dX4_gapsIn_3 fl_X4_25 rfl (k_20 hS) (f_20_5 hS) (by decide) ?_
  refine r_iload_n dX4_gapsIn_6 rfl ?_
  obtain ⟨⟨h0, h1⟩, k⟩ := k
  refine r_iald dX4_gapsIn_7 (Or.inl (k_25 hS)) h0 h1 ?_
  refine r_gen (fun x8 hx8 => ?_)
  have k := k x8 hx8
  refine r_istore_n dX4_gapsIn_8 (by decide) rfl rfl ?_
  exact k
theorem t_X4_gapsIn_9 {v1 v2 v3 : Int} {S : ShT} {σ : StT} {Q : Int → StT → Prop} (hS : SHP S) (k : inR (v1 + 1) ∧ ((0 ≤ v1 + 1 ∧ v1 + 1 < 25) ∧ ((σ 25 (v1 + 1).toNat ≤ v3 → Q v2 σ) ∧ (¬ (σ 25 (v1 + 1).toNat ≤ v3) → (0 ≤ v3 ∧ v3 < 24) ∧ inR (v2 + (σ 23 v3.toNat)) ∧ ∀ x29 : Int, x29 = v2 + (σ 23 v3.toNat) → inR (v3 + 1) ∧ AWs mX4_gapsIn 9 [(0, vR 20), (1, vI v1), (2, vI x29), (3, vI (v3 + 1))] [] S σ Q)))) : AWs mX4_gapsIn 9 [(0, vR 20), (1, vI v1), (2, vI v2), (3, vI v3)] [] S σ Q := by
  refine r_iload_n dX4_gapsIn_9 rfl ?_
  refine r_aload_n dX4_gapsIn_10 rfl ?_
  refine r_getRv dX4_gapsIn_11 fl_X4_25 rfl (k_20 hS) (f_20_5 hS) (by decide) ?_
  refine r_iload_n dX4_gapsIn_14 rfl ?_
  refine r_iconst dX4_gapsIn_15 ⟨by decide, by decide⟩ ?_
  obtain ⟨h, k⟩ := k
  refine r_iadd dX4_gapsIn_16 h ?_
  obtain ⟨⟨h0, h1⟩, k⟩ := k
  refine r_iald dX4_gapsIn_17 (Or.inl (k_25 hS)) h0 h1 ?_
  refine r_icmp_ge (tgt := 36) dX4_gapsIn_18 rfl (fun h => ?_) (fun h => ?_)
  · have k := k.1 h
    refine r_iload_n dX4_gapsIn_36 rfl ?_
    exact s_iret dX4_gapsIn_37 rfl k
  · have k := k.2 h
    refine r_iload_n dX4_gapsIn_21 rfl ?_
    refine r_aload_n dX4_gapsIn_22 rfl ?_
    refine r_getRv dX4_gapsIn_23 fl_X4_18 rfl (k_20 hS) (f_20_3 hS) (by decide) ?_
    refine r_iload_n dX4_gapsIn_26 rfl ?_
    obtain ⟨⟨h0, h1⟩, k⟩ := k
    refine r_iald dX4_gapsIn_27 (Or.inl (k_23 hS)) h0 h1 ?_
    obtain ⟨h, k⟩ := k
    refine r_iadd dX4_gapsIn_28 h ?_
    refine r_gen (fun x29 hx29 => ?_)
    have k := k x29 hx29
    refine r_istore_n dX4_gapsIn_29 (by decide) rfl rfl ?_
    obtain ⟨h, k⟩ := k
    refine r_iinc dX4_gapsIn_30 rfl (by decide) rfl rfl h ?_
    refine r_goto (tgt := 9) dX4_gapsIn_33 rfl ?_
    exact k
theorem e_X4_listOdds {v1 : Int} {S : ShT} {σ : StT} {Q : Int → StT → Prop} (hS : SHP S) (k : AWs mX4_listOdds 7 [(0, vR 20), (1, vI v1), (2, vI 0)] [] S (up2 σ 20 8 0) Q) : WPs mX4_listOdds [vR 20, vI v1] S σ Q := by
  refine s_entry (by decide) (Nat.le_of_ble_eq_true rfl) rfl rfl ?_
  refine r_aload_n dX4_listOdds_0 rfl ?_
  refine r_iconst dX4_listOdds_1 ⟨by decide, by decide⟩ ?_
  refine r_putIv dX4_listOdds_2 fl_X4_35 (fun _ h => by cases h; rfl) (Or.inl rfl) (k_20 hS) ?_
  refine r_iconst dX4_listOdds_5 ⟨by decide, by decide⟩ ?_
  refine r_istore_n dX4_listOdds_6 (by decide) rfl rfl ?_
  exact k
theorem t_X4_listOdds_7 {v1 v2 : Int} {S : ShT} {σ : StT} {Q : Int → StT → Prop} (hS : SHP S) (k : WPs mX3_count [vR 7] S σ (fun r12 s12 => (r12 ≤ v2 → Q 0 s12) ∧ (¬ (r12 ≤ v2) → WPs mX3_partOf [vR 7, vI v2] S s12 (fun r23 s23 => (¬ r23 = v1 → inR (v2 + 1) ∧ AWs mX4_listOdds 7 [(0, vR 20), (1, vI v1), (2, vI (v2 + 1))] [] S s23 Q) ∧ (r23 = v1 → WPs mX3_isOdd [vR 7, vI v2] S s23 (fun r35 s35 => (r35 = 0 → inR (v2 + 1) ∧ AWs mX4_listOdds 7 [(0, vR 20), (1, vI v1), (2, vI (v2 + 1))] [] S s35 Q) ∧ (¬ (r35 = 0) → (0 ≤ s35 20 8 ∧ s35 20 8 < 48) ∧ inR ((s35 20 8) + 1) ∧ inR (v2 + 1) ∧ AWs mX4_listOdds 7 [(0, vR 20), (1, vI v1), (2, vI (v2 + 1))] [] S (up2 (up2 s35 26 (s35 20 8).toNat v2) 20 8 ((s35 20 8) + 1)) Q))))))) : AWs mX4_listOdds 7 [(0, vR 20), (1, vI v1), (2, vI v2)] [] S σ Q := by
  refine r_iload_n dX4_listOdds_7 rfl ?_
  refine r_aload_n dX4_listOdds_8 rfl ?_
  refine r_getRv dX4_listOdds_9 fl_X4_56 rfl (k_20 hS) (f_20_0 hS) (by decide) ?_
  refine s_callVv (z := mX3_count) [] dX4_listOdds_12 mv_X3_count lk_X4_79 rfl (by decide) (k_7 hS) (Nat.le_of_ble_eq_true rfl) (WPs.mono k (fun r12 s12 k => ?_))
  refine r_icmp_ge (tgt := 67) dX4_listOdds_15 rfl (fun h => ?_) (fun h => ?_)
  · have k := k.1 h
    exact s_vret dX4_listOdds_67 rfl k
  · have k := k.2 h
    refine r_aload_n dX4_listOdds_18 rfl ?_
    refine r_getRv dX4_listOdds_19 fl_X4_56 rfl (k_20 hS) (f_20_0 hS) (by decide) ?_
    refine r_iload_n dX4_listOdds_22 rfl ?_
    refine s_callVv (z := mX3_partOf) [vI v2] dX4_listOdds_23 mv_X3_partOf lk_X4_81 rfl (by decide) (k_7 hS) (Nat.le_of_ble_eq_true rfl) (WPs.mono k (fun r23 s23 k => ?_))
    refine r_iload_n dX4_listOdds_26 rfl ?_
    refine r_icmp_ne (tgt := 61) dX4_listOdds_27 rfl (fun h => ?_) (fun h => ?_)
    · have k := k.1 h
      obtain ⟨h, k⟩ := k
      refine r_iinc dX4_listOdds_61 rfl (by decide) rfl rfl h ?_
      refine r_goto (tgt := 7) dX4_listOdds_64 rfl ?_
      exact k
    · have k := k.2 h
      refine r_aload_n dX4_listOdds_30 rfl ?_
      refine r_getRv dX4_listOdds_31 fl_X4_56 rfl (k_20 hS) (f_20_0 hS) (by decide) ?_
      refine r_iload_n dX4_listOdds_34 rfl ?_
      refine s_callVv (z := mX3_isOdd) [vI v2] dX4_listOdds_35 mv_X3_isOdd lk_X4_85 rfl (by decide) (k_7 hS) (Nat.le_of_ble_eq_true rfl) (WPs.mono k (fun r35 s35 k => ?_))
      refine r_if_eq (tgt := 61) dX4_listOdds_38 rfl (fun h => ?_) (fun h => ?_)
      · have k := k.1 h
        obtain ⟨h, k⟩ := k
        refine r_iinc dX4_listOdds_61 rfl (by decide) rfl rfl h ?_
        refine r_goto (tgt := 7) dX4_listOdds_64 rfl ?_
        exact k
      · have k := k.2 h
        refine r_aload_n dX4_listOdds_41 rfl ?_
        refine r_getRv dX4_listOdds_42 fl_X4_32 rfl (k_20 hS) (f_20_7 hS) (by decide) ?_
        refine r_aload_n dX4_listOdds_45 rfl ?_
        refine r_getIv dX4_listOdds_46 fl_X4_35 rfl (k_20 hS) ?_
        refine r_iload_n dX4_listOdds_49 rfl ?_
        obtain ⟨⟨h0, h1⟩, k⟩ := k
        refine r_iast dX4_listOdds_50 (k_26 hS) h0 h1 ?_
        refine r_aload_n dX4_listOdds_51 rfl ?_
        refine r_dup dX4_listOdds_52 rfl ?_
        refine r_getIv dX4_listOdds_53 fl_X4_35 rfl (k_20 hS) ?_
        refine r_top (up2_a (by decide)) ?_
        refine r_iconst dX4_listOdds_56 ⟨by decide, by decide⟩ ?_
        obtain ⟨h, k⟩ := k
        refine r_iadd dX4_listOdds_57 h ?_
        refine r_putIv dX4_listOdds_58 fl_X4_35 (fun _ h => by cases h; rfl) (Or.inl rfl) (k_20 hS) ?_
        obtain ⟨h, k⟩ := k
        refine r_iinc dX4_listOdds_61 rfl (by decide) rfl rfl h ?_
        refine r_goto (tgt := 7) dX4_listOdds_64 rfl ?_
        exact k
theorem e_X4_markCut {v1 : Int} {S : ShT} {σ : StT} {Q : Int → StT → Prop} (hS : SHP S) (k : (0 ≤ v1 ∧ v1 < 25) ∧ ∀ x8 : Int, x8 = σ 25 v1.toNat → AWs mX4_markCut 9 [(0, vR 20), (1, vI v1), (2, vI (-1)), (3, vI x8)] [] S σ Q) : WPs mX4_markCut [vR 20, vI v1] S σ Q := by
  refine s_entry (by decide) (Nat.le_of_ble_eq_true rfl) rfl rfl ?_
  refine r_iconst dX4_markCut_0 ⟨by decide, by decide⟩ ?_
  refine r_istore_n dX4_markCut_1 (by decide) rfl rfl ?_
  refine r_aload_n dX4_markCut_2 rfl ?_
  refine r_getRv dX4_markCut_3 fl_X4_25 rfl (k_20 hS) (f_20_5 hS) (by decide) ?_
  refine r_iload_n dX4_markCut_6 rfl ?_
  obtain ⟨⟨h0, h1⟩, k⟩ := k
  refine r_iald dX4_markCut_7 (Or.inl (k_25 hS)) h0 h1 ?_
  refine r_gen (fun x8 hx8 => ?_)
  have k := k x8 hx8
  refine r_istore_n dX4_markCut_8 (by decide) rfl rfl ?_
  exact k
theorem t_X4_markCut_9 {v1 v2 v3 : Int} {S : ShT} {σ : StT} {Q : Int → StT → Prop} (hS : SHP S) (k : inR (v1 + 1) ∧ ((0 ≤ v1 + 1 ∧ v1 + 1 < 25) ∧ ((σ 25 (v1 + 1).toNat ≤ v3 → (v2 = -1 → Q 0 σ) ∧ (¬ (v2 = -1) → (0 ≤ v2 ∧ v2 < 24) ∧ Q 0 (up2 σ 24 v2.toNat 1))) ∧ (¬ (σ 25 (v1 + 1).toNat ≤ v3) → (0 ≤ v3 ∧ v3 < 24) ∧ ((v2 = -1 → inR (v3 + 1) ∧ AWs mX4_markCut 9 [(0, vR 20), (1, vI v1), (2, vI v3), (3, vI (v3 + 1))] [] S (up2 σ 24 v3.toNat 0) Q) ∧ (¬ (v2 = -1) → (0 ≤ v3 ∧ v3 < 24) ∧ ((0 ≤ v2 ∧ v2 < 24) ∧ ((σ 23 v3.toNat ≤ σ 23 v2.toNat → inR (v3 + 1) ∧ AWs mX4_markCut 9 [(0, vR 20), (1, vI v1), (2, vI v2), (3, vI (v3 + 1))] [] S (up2 σ 24 v3.toNat 0) Q) ∧ (¬ (σ 23 v3.toNat ≤ σ 23 v2.toNat) → inR (v3 + 1) ∧ AWs mX4_markCut 9 [(0, vR 20), (1, vI v1), (2, vI v3), (3, vI (v3 + 1))] [] S (up2 σ 24 v3.toNat 0) Q))))))))) : AWs mX4_markCut 9 [(0, vR 20), (1, vI v1), (2, vI v2), (3, vI v3)] [] S σ Q := by
  refine r_iload_n dX4_markCut_9 rfl ?_
  refine r_aload_n dX4_markCut_10 rfl ?_
  refine r_getRv dX4_markCut_11 fl_X4_25 rfl (k_20 hS) (f_20_5 hS) (by decide) ?_
  refine r_iload_n dX4_markCut_14 rfl ?_
  refine r_iconst dX4_markCut_15 ⟨by decide, by decide⟩ ?_
  obtain ⟨h, k⟩ := k
  refine r_iadd dX4_markCut_16 h ?_
  obtain ⟨⟨h0, h1⟩, k⟩ := k
  refine r_iald dX4_markCut_17 (Or.inl (k_25 hS)) h0 h1 ?_
  refine r_icmp_ge (tgt := 56) dX4_markCut_18 rfl (fun h => ?_) (fun h => ?_)
  · have k := k.1 h
    refine r_iload_n dX4_markCut_56 rfl ?_
    refine r_iconst dX4_markCut_57 ⟨by decide, by decide⟩ ?_
    refine r_icmp_eq (tgt := 68) dX4_markCut_58 rfl (fun h => ?_) (fun h => ?_)
    · have k := k.1 h
      exact s_vret dX4_markCut_68 rfl k
    · have k := k.2 h
      refine r_aload_n dX4_markCut_61 rfl ?_
      refine r_getRv dX4_markCut_62 fl_X4_21 rfl (k_20 hS) (f_20_4 hS) (by decide) ?_
      refine r_iload_n dX4_markCut_65 rfl ?_
      refine r_iconst dX4_markCut_66 ⟨by decide, by decide⟩ ?_
      obtain ⟨⟨h0, h1⟩, k⟩ := k
      refine r_zast dX4_markCut_67 (k_24 hS) (by decide) h0 h1 ?_
      exact s_vret dX4_markCut_68 rfl k
  · have k := k.2 h
    refine r_aload_n dX4_markCut_21 rfl ?_
    refine r_getRv dX4_markCut_22 fl_X4_21 rfl (k_20 hS) (f_20_4 hS) (by decide) ?_
    refine r_iload_n dX4_markCut_25 rfl ?_
    refine r_iconst dX4_markCut_26 ⟨by decide, by decide⟩ ?_
    obtain ⟨⟨h0, h1⟩, k⟩ := k
    refine r_zast dX4_markCut_27 (k_24 hS) (by decide) h0 h1 ?_
    refine r_iload_n dX4_markCut_28 rfl ?_
    refine r_iconst dX4_markCut_29 ⟨by decide, by decide⟩ ?_
    refine r_icmp_eq (tgt := 48) dX4_markCut_30 rfl (fun h => ?_) (fun h => ?_)
    · have k := k.1 h
      refine r_iload_n dX4_markCut_48 rfl ?_
      refine r_istore_n dX4_markCut_49 (by decide) rfl rfl ?_
      obtain ⟨h, k⟩ := k
      refine r_iinc dX4_markCut_50 rfl (by decide) rfl rfl h ?_
      refine r_goto (tgt := 9) dX4_markCut_53 rfl ?_
      exact k
    · have k := k.2 h
      refine r_aload_n dX4_markCut_33 rfl ?_
      refine r_getRv dX4_markCut_34 fl_X4_18 rfl (k_20 hS) (f_20_3 hS) (by decide) ?_
      refine r_iload_n dX4_markCut_37 rfl ?_
      obtain ⟨⟨h0, h1⟩, k⟩ := k
      refine r_iald dX4_markCut_38 (Or.inl (k_23 hS)) h0 h1 ?_
      refine r_top (up2_a (by decide)) ?_
      refine r_aload_n dX4_markCut_39 rfl ?_
      refine r_getRv dX4_markCut_40 fl_X4_18 rfl (k_20 hS) (f_20_3 hS) (by decide) ?_
      refine r_iload_n dX4_markCut_43 rfl ?_
      obtain ⟨⟨h0, h1⟩, k⟩ := k
      refine r_iald dX4_markCut_44 (Or.inl (k_23 hS)) h0 h1 ?_
      refine r_top (up2_a (by decide)) ?_
      refine r_icmp_le (tgt := 50) dX4_markCut_45 rfl (fun h => ?_) (fun h => ?_)
      · have k := k.1 h
        obtain ⟨h, k⟩ := k
        refine r_iinc dX4_markCut_50 rfl (by decide) rfl rfl h ?_
        refine r_goto (tgt := 9) dX4_markCut_53 rfl ?_
        exact k
      · have k := k.2 h
        refine r_iload_n dX4_markCut_48 rfl ?_
        refine r_istore_n dX4_markCut_49 (by decide) rfl rfl ?_
        obtain ⟨h, k⟩ := k
        refine r_iinc dX4_markCut_50 rfl (by decide) rfl rfl h ?_
        refine r_goto (tgt := 9) dX4_markCut_53 rfl ?_
        exact k
theorem e_X4_putPair {v1 v2 : Int} {S : ShT} {σ : StT} {Q : Int → StT → Prop} (hS : SHP S) (k : (σ 20 6 < 24 → (0 ≤ v1 ∧ v1 < 48) ∧ (0 ≤ σ 20 6 ∧ σ 20 6 < 24) ∧ (0 ≤ v2 ∧ v2 < 48) ∧ (0 ≤ σ 20 6 ∧ σ 20 6 < 24) ∧ (0 ≤ v1 ∧ v1 < 48) ∧ (0 ≤ v2 ∧ v2 < 48) ∧ WPs mX3_apart [vR 7, vI (σ 26 v1.toNat), vI (σ 26 v2.toNat)] S (up2 (up2 σ 21 (σ 20 6).toNat (σ 26 v1.toNat)) 22 (σ 20 6).toNat (σ 26 v2.toNat)) (fun r64 s64 => (0 ≤ σ 20 6 ∧ σ 20 6 < 24) ∧ inR ((s64 20 6) + 1) ∧ Q 0 (up2 (up2 s64 23 (σ 20 6).toNat r64) 20 6 ((s64 20 6) + 1)))) ∧ (¬ (σ 20 6 < 24) → Q 0 σ)) : WPs mX4_putPair [vR 20, vI v1, vI v2] S σ Q := by
  refine s_entry (by decide) (Nat.le_of_ble_eq_true rfl) rfl rfl ?_
  refine r_aload_n dX4_putPair_0 rfl ?_
  refine r_getIv dX4_putPair_1 fl_X4_28 rfl (k_20 hS) ?_
  refine r_bipush dX4_putPair_4 (by decide +kernel) ⟨by decide, by decide⟩ ?_
  refine r_icmp_lt (tgt := 10) dX4_putPair_6 rfl (fun h => ?_) (fun h => ?_)
  · have k := k.1 h
    refine r_aload_n dX4_putPair_10 rfl ?_
    refine r_getRv dX4_putPair_11 fl_X4_11 rfl (k_20 hS) (f_20_1 hS) (by decide) ?_
    refine r_aload_n dX4_putPair_14 rfl ?_
    refine r_getIv dX4_putPair_15 fl_X4_28 rfl (k_20 hS) ?_
    refine r_aload_n dX4_putPair_18 rfl ?_
    refine r_getRv dX4_putPair_19 fl_X4_32 rfl (k_20 hS) (f_20_7 hS) (by decide) ?_
    refine r_iload_n dX4_putPair_22 rfl ?_
    obtain ⟨⟨h0, h1⟩, k⟩ := k
    refine r_iald dX4_putPair_23 (Or.inl (k_26 hS)) h0 h1 ?_
    obtain ⟨⟨h0, h1⟩, k⟩ := k
    refine r_iast dX4_putPair_24 (k_21 hS) h0 h1 ?_
    refine r_aload_n dX4_putPair_25 rfl ?_
    refine r_getRv dX4_putPair_26 fl_X4_15 rfl (k_20 hS) (f_20_2 hS) (by decide) ?_
    refine r_aload_n dX4_putPair_29 rfl ?_
    refine r_getIv dX4_putPair_30 fl_X4_28 rfl (k_20 hS) ?_
    refine r_top (up2_a (by decide)) ?_
    refine r_aload_n dX4_putPair_33 rfl ?_
    refine r_getRv dX4_putPair_34 fl_X4_32 rfl (k_20 hS) (f_20_7 hS) (by decide) ?_
    refine r_iload_n dX4_putPair_37 rfl ?_
    obtain ⟨⟨h0, h1⟩, k⟩ := k
    refine r_iald dX4_putPair_38 (Or.inl (k_26 hS)) h0 h1 ?_
    refine r_top (up2_a (by decide)) ?_
    obtain ⟨⟨h0, h1⟩, k⟩ := k
    refine r_iast dX4_putPair_39 (k_22 hS) h0 h1 ?_
    refine r_aload_n dX4_putPair_40 rfl ?_
    refine r_getRv dX4_putPair_41 fl_X4_18 rfl (k_20 hS) (f_20_3 hS) (by decide) ?_
    refine r_aload_n dX4_putPair_44 rfl ?_
    refine r_getIv dX4_putPair_45 fl_X4_28 rfl (k_20 hS) ?_
    refine r_top ((up2_a (by decide)).trans (up2_a (by decide))) ?_
    refine r_aload_n dX4_putPair_48 rfl ?_
    refine r_getRv dX4_putPair_49 fl_X4_56 rfl (k_20 hS) (f_20_0 hS) (by decide) ?_
    refine r_aload_n dX4_putPair_52 rfl ?_
    refine r_getRv dX4_putPair_53 fl_X4_32 rfl (k_20 hS) (f_20_7 hS) (by decide) ?_
    refine r_iload_n dX4_putPair_56 rfl ?_
    obtain ⟨⟨h0, h1⟩, k⟩ := k
    refine r_iald dX4_putPair_57 (Or.inl (k_26 hS)) h0 h1 ?_
    refine r_top ((up2_a (by decide)).trans (up2_a (by decide))) ?_
    refine r_aload_n dX4_putPair_58 rfl ?_
    refine r_getRv dX4_putPair_59 fl_X4_32 rfl (k_20 hS) (f_20_7 hS) (by decide) ?_
    refine r_iload_n dX4_putPair_62 rfl ?_
    obtain ⟨⟨h0, h1⟩, k⟩ := k
    refine r_iald dX4_putPair_63 (Or.inl (k_26 hS)) h0 h1 ?_
    refine r_top ((up2_a (by decide)).trans (up2_a (by decide))) ?_
    refine s_callVv (z := mX3_apart) [vI (σ 26 v1.toNat), vI (σ 26 v2.toNat)] dX4_putPair_64 mv_X3_apart lk_X4_89 rfl (by decide) (k_7 hS) (Nat.le_of_ble_eq_true rfl) (WPs.mono k (fun r64 s64 k => ?_))
    obtain ⟨⟨h0, h1⟩, k⟩ := k
    refine r_iast dX4_putPair_67 (k_23 hS) h0 h1 ?_
    refine r_aload_n dX4_putPair_68 rfl ?_
    refine r_dup dX4_putPair_69 rfl ?_
    refine r_getIv dX4_putPair_70 fl_X4_28 rfl (k_20 hS) ?_
    refine r_top (up2_a (by decide)) ?_
    refine r_iconst dX4_putPair_73 ⟨by decide, by decide⟩ ?_
    obtain ⟨h, k⟩ := k
    refine r_iadd dX4_putPair_74 h ?_
    refine r_putIv dX4_putPair_75 fl_X4_28 (fun _ h => by cases h; rfl) (Or.inl rfl) (k_20 hS) ?_
    exact s_vret dX4_putPair_78 rfl k
  · have k := k.2 h
    exact s_vret dX4_putPair_9 rfl k
theorem e_X4_pairNeighbours {S : ShT} {σ : StT} {Q : Int → StT → Prop} (hS : SHP S) (k : AWs mX4_pairNeighbours 2 [(0, vR 20), (1, vI 0)] [] S σ Q) : WPs mX4_pairNeighbours [vR 20] S σ Q := by
  refine s_entry (by decide) (Nat.le_of_ble_eq_true rfl) rfl rfl ?_
  refine r_iconst dX4_pairNeighbours_0 ⟨by decide, by decide⟩ ?_
  refine r_istore_n dX4_pairNeighbours_1 (by decide) rfl rfl ?_
  exact k
theorem t_X4_pairNeighbours_2 {v1 : Int} {S : ShT} {σ : StT} {Q : Int → StT → Prop} (hS : SHP S) (k : inR (v1 + 1) ∧ ((σ 20 8 ≤ v1 + 1 → Q 0 σ) ∧ (¬ (σ 20 8 ≤ v1 + 1) → inR (v1 + 1) ∧ WPs mX4_putPair [vR 20, vI v1, vI (v1 + 1)] S σ (fun r17 s17 => inR (v1 + 2) ∧ AWs mX4_pairNeighbours 2 [(0, vR 20), (1, vI (v1 + 2))] [] S s17 Q)))) : AWs mX4_pairNeighbours 2 [(0, vR 20), (1, vI v1)] [] S σ Q := by
  refine r_iload_n dX4_pairNeighbours_2 rfl ?_
  refine r_iconst dX4_pairNeighbours_3 ⟨by decide, by decide⟩ ?_
  obtain ⟨h, k⟩ := k
  refine r_iadd dX4_pairNeighbours_4 h ?_
  refine r_aload_n dX4_pairNeighbours_5 rfl ?_
  refine r_getIv dX4_pairNeighbours_6 fl_X4_35 rfl (k_20 hS) ?_
  refine r_icmp_ge (tgt := 26) dX4_pairNeighbours_9 rfl (fun h => ?_) (fun h => ?_)
  · have k := k.1 h
    exact s_vret dX4_pairNeighbours_26 rfl k
  · have k := k.2 h
    refine r_aload_n dX4_pairNeighbours_12 rfl ?_
    refine r_iload_n dX4_pairNeighbours_13 rfl ?_
    refine r_iload_n dX4_pairNeighbours_14 rfl ?_
    refine r_iconst dX4_pairNeighbours_15 ⟨by decide, by decide⟩ ?_
    obtain ⟨h, k⟩ := k
    refine r_iadd dX4_pairNeighbours_16 h ?_
    refine s_callVv (z := mX4_putPair) [vI v1, vI (v1 + 1)] dX4_pairNeighbours_17 mv_X4_putPair lk_X4_93 rfl (by decide) (k_20 hS) (Nat.le_of_ble_eq_true rfl) (WPs.mono k (fun r17 s17 k => ?_))
    obtain ⟨h, k⟩ := k
    refine r_iinc dX4_pairNeighbours_20 rfl (by decide) rfl rfl h ?_
    refine r_goto (tgt := 2) dX4_pairNeighbours_23 rfl ?_
    exact k
theorem e_X4_pairByLeast {S : ShT} {σ : StT} {Q : Int → StT → Prop} (hS : SHP S) (k : WPs mX4_measureOdds [vR 20] S σ (fun r1 s1 => WPs mX4_listSets [vR 20] S s1 (fun r5 s5 => WPs mX4_fillLeast [vR 20] S s5 (fun r9 s9 => AWs mX4_pairByLeast 16 [(0, vR 20), (1, vI 0), (2, vI 0)] [] S s9 Q)))) : WPs mX4_pairByLeast [vR 20] S σ Q := by
  refine s_entry (by decide) (Nat.le_of_ble_eq_true rfl) rfl rfl ?_
  refine r_aload_n dX4_pairByLeast_0 rfl ?_
  refine s_callVv (z := mX4_measureOdds) [] dX4_pairByLeast_1 mv_X4_measureOdds lk_X4_97 rfl (by decide) (k_20 hS) (Nat.le_of_ble_eq_true rfl) (WPs.mono k (fun r1 s1 k => ?_))
  refine r_aload_n dX4_pairByLeast_4 rfl ?_
  refine s_callVv (z := mX4_listSets) [] dX4_pairByLeast_5 mv_X4_listSets lk_X4_100 rfl (by decide) (k_20 hS) (Nat.le_of_ble_eq_true rfl) (WPs.mono k (fun r5 s5 k => ?_))
  refine r_aload_n dX4_pairByLeast_8 rfl ?_
  refine s_callVv (z := mX4_fillLeast) [] dX4_pairByLeast_9 mv_X4_fillLeast lk_X4_103 rfl (by decide) (k_20 hS) (Nat.le_of_ble_eq_true rfl) (WPs.mono k (fun r9 s9 k => ?_))
  refine r_iconst dX4_pairByLeast_12 ⟨by decide, by decide⟩ ?_
  refine r_istore_n dX4_pairByLeast_13 (by decide) rfl rfl ?_
  refine r_iconst dX4_pairByLeast_14 ⟨by decide, by decide⟩ ?_
  refine r_istore_n dX4_pairByLeast_15 (by decide) rfl rfl ?_
  exact k
theorem t_X4_pairByLeast_16 {v1 v2 : Int} {S : ShT} {σ : StT} {Q : Int → StT → Prop} (hS : SHP S) (k : inR (v2 + 1) ∧ ((σ 20 8 ≤ v2 + 1 → WPs mX4_clearSets [vR 20] S σ (fun r65 s65 => Q 0 s65)) ∧ (¬ (σ 20 8 ≤ v2 + 1) → WPs mX4_firstFree [vR 20, vI v1] S σ (fun r28 s28 => WPs mX4_bestPartner [vR 20, vI v1, vI r28] S s28 (fun r35 s35 => WPs mX4_putPair [vR 20, vI r28, vI r35] S s35 (fun r44 s44 => ∀ x57 : Int, x57 = iOr v1 (iOr (iShl 1 r28) (iShl 1 r35)) → inR (v2 + 2) ∧ AWs mX4_pairByLeast 16 [(0, vR 20), (1, vI x57), (2, vI (v2 + 2))] [] S s44 Q)))))) : AWs mX4_pairByLeast 16 [(0, vR 20), (1, vI v1), (2, vI v2)] [] S σ Q := by
  refine r_iload_n dX4_pairByLeast_16 rfl ?_
  refine r_iconst dX4_pairByLeast_17 ⟨by decide, by decide⟩ ?_
  obtain ⟨h, k⟩ := k
  refine r_iadd dX4_pairByLeast_18 h ?_
  refine r_aload_n dX4_pairByLeast_19 rfl ?_
  refine r_getIv dX4_pairByLeast_20 fl_X4_35 rfl (k_20 hS) ?_
  refine r_icmp_ge (tgt := 64) dX4_pairByLeast_23 rfl (fun h => ?_) (fun h => ?_)
  · have k := k.1 h
    refine r_aload_n dX4_pairByLeast_64 rfl ?_
    refine s_callVv (z := mX4_clearSets) [] dX4_pairByLeast_65 mv_X4_clearSets lk_X4_112 rfl (by decide) (k_20 hS) (Nat.le_of_ble_eq_true rfl) (WPs.mono k (fun r65 s65 k => ?_))
    exact s_vret dX4_pairByLeast_68 rfl k
  · have k := k.2 h
    refine r_aload_n dX4_pairByLeast_26 rfl ?_
    refine r_iload_n dX4_pairByLeast_27 rfl ?_
    refine s_callVv (z := mX4_firstFree) [vI v1] dX4_pairByLeast_28 mv_X4_firstFree lk_X4_106 rfl (by decide) (k_20 hS) (Nat.le_of_ble_eq_true rfl) (WPs.mono k (fun r28 s28 k => ?_))
    refine r_istore_n dX4_pairByLeast_31 (by decide) rfl rfl ?_
    refine r_aload_n dX4_pairByLeast_32 rfl ?_
    refine r_iload_n dX4_pairByLeast_33 rfl ?_
    refine r_iload_n dX4_pairByLeast_34 rfl ?_
    refine s_callVv (z := mX4_bestPartner) [vI v1, vI r28] dX4_pairByLeast_35 mv_X4_bestPartner lk_X4_109 rfl (by decide) (k_20 hS) (Nat.le_of_ble_eq_true rfl) (WPs.mono k (fun r35 s35 k => ?_))
    refine r_istore dX4_pairByLeast_38 (by decide) rfl rfl ?_
    refine r_aload_n dX4_pairByLeast_40 rfl ?_
    refine r_iload_n dX4_pairByLeast_41 rfl ?_
    refine r_iload dX4_pairByLeast_42 rfl ?_
    refine s_callVv (z := mX4_putPair) [vI r28, vI r35] dX4_pairByLeast_44 mv_X4_putPair lk_X4_93 rfl (by decide) (k_20 hS) (Nat.le_of_ble_eq_true rfl) (WPs.mono k (fun r44 s44 k => ?_))
    refine r_iload_n dX4_pairByLeast_47 rfl ?_
    refine r_iconst dX4_pairByLeast_48 ⟨by decide, by decide⟩ ?_
    refine r_iload_n dX4_pairByLeast_49 rfl ?_
    refine r_ishl dX4_pairByLeast_50 ?_
    refine r_iconst dX4_pairByLeast_51 ⟨by decide, by decide⟩ ?_
    refine r_iload dX4_pairByLeast_52 rfl ?_
    refine r_ishl dX4_pairByLeast_54 ?_
    refine r_ior dX4_pairByLeast_55 ?_
    refine r_ior dX4_pairByLeast_56 ?_
    refine r_gen (fun x57 hx57 => ?_)
    have k := k x57 hx57
    refine r_istore_n dX4_pairByLeast_57 (by decide) rfl rfl ?_
    obtain ⟨h, k⟩ := k
    refine r_iinc dX4_pairByLeast_58 rfl (by decide) rfl rfl h ?_
    refine r_goto (tgt := 16) dX4_pairByLeast_61 rfl ?_
    refine r_loc [0, 1, 2] rfl ?_
    exact k
theorem e_X4_measureOdds {S : ShT} {σ : StT} {Q : Int → StT → Prop} (hS : SHP S) (k : AWs mX4_measureOdds 2 [(0, vR 20), (1, vI 0)] [] S σ Q) : WPs mX4_measureOdds [vR 20] S σ Q := by
  refine s_entry (by decide) (Nat.le_of_ble_eq_true rfl) rfl rfl ?_
  refine r_iconst dX4_measureOdds_0 ⟨by decide, by decide⟩ ?_
  refine r_istore_n dX4_measureOdds_1 (by decide) rfl rfl ?_
  exact k
theorem t_X4_measureOdds_2 {v1 : Int} {S : ShT} {σ : StT} {Q : Int → StT → Prop} (hS : SHP S) (k : (σ 20 8 ≤ v1 → Q 0 σ) ∧ (¬ (σ 20 8 ≤ v1) → AWs mX4_measureOdds 12 [(0, vR 20), (1, vI v1), (2, vI 0)] [] S σ Q)) : AWs mX4_measureOdds 2 [(0, vR 20), (1, vI v1)] [] S σ Q := by
  refine r_iload_n dX4_measureOdds_2 rfl ?_
  refine r_aload_n dX4_measureOdds_3 rfl ?_
  refine r_getIv dX4_measureOdds_4 fl_X4_35 rfl (k_20 hS) ?_
  refine r_icmp_ge (tgt := 62) dX4_measureOdds_7 rfl (fun h => ?_) (fun h => ?_)
  · have k := k.1 h
    exact s_vret dX4_measureOdds_62 rfl k
  · have k := k.2 h
    refine r_iconst dX4_measureOdds_10 ⟨by decide, by decide⟩ ?_
    refine r_istore_n dX4_measureOdds_11 (by decide) rfl rfl ?_
    exact k
theorem t_X4_measureOdds_12 {v1 v2 : Int} {S : ShT} {σ : StT} {Q : Int → StT → Prop} (hS : SHP S) (k : (σ 20 8 ≤ v2 → inR (v1 + 1) ∧ AWs mX4_measureOdds 2 [(0, vR 20), (1, vI (v1 + 1))] [] S σ Q) ∧ (¬ (σ 20 8 ≤ v2) → inR (v1 * 14) ∧ inR ((v1 * 14) + v2) ∧ (0 ≤ v1 ∧ v1 < 48) ∧ (0 ≤ v2 ∧ v2 < 48) ∧ WPs mX3_apart [vR 7, vI (σ 26 v1.toNat), vI (σ 26 v2.toNat)] S σ (fun r46 s46 => (0 ≤ (v1 * 14) + v2 ∧ (v1 * 14) + v2 < 196) ∧ inR (v2 + 1) ∧ AWs mX4_measureOdds 12 [(0, vR 20), (1, vI v1), (2, vI (v2 + 1))] [] S (up2 s46 27 ((v1 * 14) + v2).toNat r46) Q))) : AWs mX4_measureOdds 12 [(0, vR 20), (1, vI v1), (2, vI v2)] [] S σ Q := by
  refine r_iload_n dX4_measureOdds_12 rfl ?_
  refine r_aload_n dX4_measureOdds_13 rfl ?_
  refine r_getIv dX4_measureOdds_14 fl_X4_35 rfl (k_20 hS) ?_
  refine r_icmp_ge (tgt := 56) dX4_measureOdds_17 rfl (fun h => ?_) (fun h => ?_)
  · have k := k.1 h
    obtain ⟨h, k⟩ := k
    refine r_iinc dX4_measureOdds_56 rfl (by decide) rfl rfl h ?_
    refine r_goto (tgt := 2) dX4_measureOdds_59 rfl ?_
    refine r_loc [0, 1] rfl ?_
    exact k
  · have k := k.2 h
    refine r_aload_n dX4_measureOdds_20 rfl ?_
    refine r_getRv dX4_measureOdds_21 fl_X4_38 rfl (k_20 hS) (f_20_9 hS) (by decide) ?_
    refine r_iload_n dX4_measureOdds_24 rfl ?_
    refine r_bipush dX4_measureOdds_25 (by decide +kernel) ⟨by decide, by decide⟩ ?_
    obtain ⟨h, k⟩ := k
    refine r_imul dX4_measureOdds_27 h ?_
    refine r_iload_n dX4_measureOdds_28 rfl ?_
    obtain ⟨h, k⟩ := k
    refine r_iadd dX4_measureOdds_29 h ?_
    refine r_aload_n dX4_measureOdds_30 rfl ?_
    refine r_getRv dX4_measureOdds_31 fl_X4_56 rfl (k_20 hS) (f_20_0 hS) (by decide) ?_
    refine r_aload_n dX4_measureOdds_34 rfl ?_
    refine r_getRv dX4_measureOdds_35 fl_X4_32 rfl (k_20 hS) (f_20_7 hS) (by decide) ?_
    refine r_iload_n dX4_measureOdds_38 rfl ?_
    obtain ⟨⟨h0, h1⟩, k⟩ := k
    refine r_iald dX4_measureOdds_39 (Or.inl (k_26 hS)) h0 h1 ?_
    refine r_aload_n dX4_measureOdds_40 rfl ?_
    refine r_getRv dX4_measureOdds_41 fl_X4_32 rfl (k_20 hS) (f_20_7 hS) (by decide) ?_
    refine r_iload_n dX4_measureOdds_44 rfl ?_
    obtain ⟨⟨h0, h1⟩, k⟩ := k
    refine r_iald dX4_measureOdds_45 (Or.inl (k_26 hS)) h0 h1 ?_
    refine s_callVv (z := mX3_apart) [vI (σ 26 v1.toNat), vI (σ 26 v2.toNat)] dX4_measureOdds_46 mv_X3_apart lk_X4_89 rfl (by decide) (k_7 hS) (Nat.le_of_ble_eq_true rfl) (WPs.mono k (fun r46 s46 k => ?_))
    obtain ⟨⟨h0, h1⟩, k⟩ := k
    refine r_iast dX4_measureOdds_49 (k_27 hS) h0 h1 ?_
    obtain ⟨h, k⟩ := k
    refine r_iinc dX4_measureOdds_50 rfl (by decide) rfl rfl h ?_
    refine r_goto (tgt := 12) dX4_measureOdds_53 rfl ?_
    exact k
theorem e_X4_firstFree {v1 : Int} {S : ShT} {σ : StT} {Q : Int → StT → Prop} (hS : SHP S) (k : AWs mX4_firstFree 2 [(0, vR 20), (1, vI v1), (2, vI 0)] [] S σ Q) : WPs mX4_firstFree [vR 20, vI v1] S σ Q := by
  refine s_entry (by decide) (Nat.le_of_ble_eq_true rfl) rfl rfl ?_
  refine r_iconst dX4_firstFree_0 ⟨by decide, by decide⟩ ?_
  refine r_istore_n dX4_firstFree_1 (by decide) rfl rfl ?_
  exact k
theorem t_X4_firstFree_2 {v1 v2 : Int} {S : ShT} {σ : StT} {Q : Int → StT → Prop} (hS : SHP S) (k : inR ((σ 20 8) - 1) ∧ (((σ 20 8) - 1 ≤ v2 → Q v2 σ) ∧ (¬ ((σ 20 8) - 1 ≤ v2) → (¬ iAnd (iShr v1 v2) 1 = 1 → Q v2 σ) ∧ (iAnd (iShr v1 v2) 1 = 1 → inR (v2 + 1) ∧ AWs mX4_firstFree 2 [(0, vR 20), (1, vI v1), (2, vI (v2 + 1))] [] S σ Q)))) : AWs mX4_firstFree 2 [(0, vR 20), (1, vI v1), (2, vI v2)] [] S σ Q := by
  refine r_iload_n dX4_firstFree_2 rfl ?_
  refine r_aload_n dX4_firstFree_3 rfl ?_
  refine r_getIv dX4_firstFree_4 fl_X4_35 rfl (k_20 hS) ?_
  refine r_iconst dX4_firstFree_7 ⟨by decide, by decide⟩ ?_
  obtain ⟨h, k⟩ := k
  refine r_isub dX4_firstFree_8 h ?_
  refine r_icmp_ge (tgt := 27) dX4_firstFree_9 rfl (fun h => ?_) (fun h => ?_)
  · have k := k.1 h
    refine r_iload_n dX4_firstFree_27 rfl ?_
    exact s_iret dX4_firstFree_28 rfl k
  · have k := k.2 h
    refine r_iload_n dX4_firstFree_12 rfl ?_
    refine r_iload_n dX4_firstFree_13 rfl ?_
    refine r_ishr dX4_firstFree_14 ?_
    refine r_iconst dX4_firstFree_15 ⟨by decide, by decide⟩ ?_
    refine r_iand dX4_firstFree_16 ?_
    refine r_iconst dX4_firstFree_17 ⟨by decide, by decide⟩ ?_
    refine r_icmp_ne (tgt := 27) dX4_firstFree_18 rfl (fun h => ?_) (fun h => ?_)
    · have k := k.1 h
      refine r_iload_n dX4_firstFree_27 rfl ?_
      exact s_iret dX4_firstFree_28 rfl k
    · have k := k.2 h
      obtain ⟨h, k⟩ := k
      refine r_iinc dX4_firstFree_21 rfl (by decide) rfl rfl h ?_
      refine r_goto (tgt := 2) dX4_firstFree_24 rfl ?_
      exact k
theorem e_X4_listSets {S : ShT} {σ : StT} {Q : Int → StT → Prop} (hS : SHP S) (k : AWs mX4_listSets 14 [(0, vR 20), (1, vI 1)] [] S (up2 (up2 σ 28 1 0) 20 11 1) Q) : WPs mX4_listSets [vR 20] S σ Q := by
  refine s_entry (by decide) (Nat.le_of_ble_eq_true rfl) rfl rfl ?_
  refine r_aload_n dX4_listSets_0 rfl ?_
  refine r_getRv dX4_listSets_1 fl_X4_41 rfl (k_20 hS) (f_20_10 hS) (by decide) ?_
  refine r_iconst dX4_listSets_4 ⟨by decide, by decide⟩ ?_
  refine r_iconst dX4_listSets_5 ⟨by decide, by decide⟩ ?_
  refine r_iast dX4_listSets_6 (k_28 hS) (by decide) (by decide) ?_
  refine r_aload_n dX4_listSets_7 rfl ?_
  refine r_iconst dX4_listSets_8 ⟨by decide, by decide⟩ ?_
  refine r_putIv dX4_listSets_9 fl_X4_44 (fun _ h => by cases h; rfl) (Or.inl rfl) (k_20 hS) ?_
  refine r_iconst dX4_listSets_12 ⟨by decide, by decide⟩ ?_
  refine r_istore_n dX4_listSets_13 (by decide) rfl rfl ?_
  exact k
theorem t_X4_listSets_14 {v1 : Int} {S : ShT} {σ : StT} {Q : Int → StT → Prop} (hS : SHP S) (k : (σ 20 11 < v1 → Q 0 σ) ∧ (¬ (σ 20 11 < v1) → (610 < v1 → Q 0 σ) ∧ (¬ (610 < v1) → (0 ≤ v1 ∧ v1 < 611) ∧ ∀ x35 : Int, x35 = σ 28 v1.toNat → WPs mX4_firstFree [vR 20, vI x35] S σ (fun r38 s38 => inR (r38 + 1) ∧ AWs mX4_listSets 47 [(0, vR 20), (1, vI v1), (2, vI x35), (3, vI r38), (4, vI (r38 + 1))] [] S s38 Q)))) : AWs mX4_listSets 14 [(0, vR 20), (1, vI v1)] [] S σ Q := by
  refine r_iload_n dX4_listSets_14 rfl ?_
  refine r_aload_n dX4_listSets_15 rfl ?_
  refine r_getIv dX4_listSets_16 fl_X4_44 rfl (k_20 hS) ?_
  refine r_icmp_gt (tgt := 91) dX4_listSets_19 rfl (fun h => ?_) (fun h => ?_)
  · have k := k.1 h
    exact s_vret dX4_listSets_91 rfl k
  · have k := k.2 h
    refine r_iload_n dX4_listSets_22 rfl ?_
    refine r_sipush dX4_listSets_23 (by decide +kernel) ⟨by decide, by decide⟩ ?_
    refine r_icmp_gt (tgt := 91) dX4_listSets_26 rfl (fun h => ?_) (fun h => ?_)
    · have k := k.1 h
      exact s_vret dX4_listSets_91 rfl k
    · have k := k.2 h
      refine r_aload_n dX4_listSets_29 rfl ?_
      refine r_getRv dX4_listSets_30 fl_X4_41 rfl (k_20 hS) (f_20_10 hS) (by decide) ?_
      refine r_iload_n dX4_listSets_33 rfl ?_
      obtain ⟨⟨h0, h1⟩, k⟩ := k
      refine r_iald dX4_listSets_34 (Or.inl (k_28 hS)) h0 h1 ?_
      refine r_gen (fun x35 hx35 => ?_)
      have k := k x35 hx35
      refine r_istore_n dX4_listSets_35 (by decide) rfl rfl ?_
      refine r_aload_n dX4_listSets_36 rfl ?_
      refine r_iload_n dX4_listSets_37 rfl ?_
      refine s_callVv (z := mX4_firstFree) [vI x35] dX4_listSets_38 mv_X4_firstFree lk_X4_106 rfl (by decide) (k_20 hS) (Nat.le_of_ble_eq_true rfl) (WPs.mono k (fun r38 s38 k => ?_))
      refine r_istore_n dX4_listSets_41 (by decide) rfl rfl ?_
      refine r_iload_n dX4_listSets_42 rfl ?_
      refine r_iconst dX4_listSets_43 ⟨by decide, by decide⟩ ?_
      obtain ⟨h, k⟩ := k
      refine r_iadd dX4_listSets_44 h ?_
      refine r_istore dX4_listSets_45 (by decide) rfl rfl ?_
      exact k
theorem t_X4_listSets_47 {v1 v2 v3 v4 : Int} {S : ShT} {σ : StT} {Q : Int → StT → Prop} (hS : SHP S) (k : (σ 20 8 ≤ v4 → inR (v1 + 1) ∧ AWs mX4_listSets 14 [(0, vR 20), (1, vI (v1 + 1))] [] S σ Q) ∧ (¬ (σ 20 8 ≤ v4) → (¬ iAnd (iShr v2 v4) 1 = 0 → inR (v4 + 1) ∧ AWs mX4_listSets 47 [(0, vR 20), (1, vI v1), (2, vI v2), (3, vI v3), (4, vI (v4 + 1))] [] S σ Q) ∧ (iAnd (iShr v2 v4) 1 = 0 → WPs mX4_putSet [vR 20, vI (iOr (iOr v2 (iShl 1 v3)) (iShl 1 v4))] S σ (fun r76 s76 => inR (v4 + 1) ∧ AWs mX4_listSets 47 [(0, vR 20), (1, vI v1), (2, vI v2), (3, vI v3), (4, vI (v4 + 1))] [] S s76 Q)))) : AWs mX4_listSets 47 [(0, vR 20), (1, vI v1), (2, vI v2), (3, vI v3), (4, vI v4)] [] S σ Q := by
  refine r_iload dX4_listSets_47 rfl ?_
  refine r_aload_n dX4_listSets_49 rfl ?_
  refine r_getIv dX4_listSets_50 fl_X4_35 rfl (k_20 hS) ?_
  refine r_icmp_ge (tgt := 85) dX4_listSets_53 rfl (fun h => ?_) (fun h => ?_)
  · have k := k.1 h
    obtain ⟨h, k⟩ := k
    refine r_iinc dX4_listSets_85 rfl (by decide) rfl rfl h ?_
    refine r_goto (tgt := 14) dX4_listSets_88 rfl ?_
    refine r_loc [0, 1] rfl ?_
    exact k
  · have k := k.2 h
    refine r_iload_n dX4_listSets_56 rfl ?_
    refine r_iload dX4_listSets_57 rfl ?_
    refine r_ishr dX4_listSets_59 ?_
    refine r_iconst dX4_listSets_60 ⟨by decide, by decide⟩ ?_
    refine r_iand dX4_listSets_61 ?_
    refine r_if_ne (tgt := 79) dX4_listSets_62 rfl (fun h => ?_) (fun h => ?_)
    · have k := k.1 h
      obtain ⟨h, k⟩ := k
      refine r_iinc dX4_listSets_79 rfl (by decide) rfl rfl h ?_
      refine r_goto (tgt := 47) dX4_listSets_82 rfl ?_
      exact k
    · have k := k.2 h
      refine r_aload_n dX4_listSets_65 rfl ?_
      refine r_iload_n dX4_listSets_66 rfl ?_
      refine r_iconst dX4_listSets_67 ⟨by decide, by decide⟩ ?_
      refine r_iload_n dX4_listSets_68 rfl ?_
      refine r_ishl dX4_listSets_69 ?_
      refine r_ior dX4_listSets_70 ?_
      refine r_iconst dX4_listSets_71 ⟨by decide, by decide⟩ ?_
      refine r_iload dX4_listSets_72 rfl ?_
      refine r_ishl dX4_listSets_74 ?_
      refine r_ior dX4_listSets_75 ?_
      refine s_callVv (z := mX4_putSet) [vI (iOr (iOr v2 (iShl 1 v3)) (iShl 1 v4))] dX4_listSets_76 mv_X4_putSet lk_X4_115 rfl (by decide) (k_20 hS) (Nat.le_of_ble_eq_true rfl) (WPs.mono k (fun r76 s76 k => ?_))
      obtain ⟨h, k⟩ := k
      refine r_iinc dX4_listSets_79 rfl (by decide) rfl rfl h ?_
      refine r_goto (tgt := 47) dX4_listSets_82 rfl ?_
      exact k
theorem e_X4_putSet {v1 : Int} {S : ShT} {σ : StT} {Q : Int → StT → Prop} (hS : SHP S) (k : WPs mX4_slotOf [vI v1] S σ (fun r1 s1 => (0 ≤ r1 ∧ r1 < 4096) ∧ ((¬ s1 30 r1.toNat = 0 → Q 0 s1) ∧ (s1 30 r1.toNat = 0 → (s1 20 11 < 610 → inR ((s1 20 11) + 1) ∧ (0 ≤ (s1 20 11) + 1 ∧ (s1 20 11) + 1 < 611) ∧ (0 ≤ r1 ∧ r1 < 4096) ∧ Q 0 (up2 (up2 (up2 s1 20 11 ((s1 20 11) + 1)) 28 ((s1 20 11) + 1).toNat v1) 30 r1.toNat ((s1 20 11) + 1))) ∧ (¬ (s1 20 11 < 610) → Q 0 s1))))) : WPs mX4_putSet [vR 20, vI v1] S σ Q := by
  refine s_entry (by decide) (Nat.le_of_ble_eq_true rfl) rfl rfl ?_
  refine r_iload_n dX4_putSet_0 rfl ?_
  refine s_callS (z := mX4_slotOf) [vI v1] dX4_putSet_1 ms_X4_slotOf lk_X4_118 rfl (by decide) (Nat.le_of_ble_eq_true rfl) (WPs.mono k (fun r1 s1 k => ?_))
  refine r_istore_n dX4_putSet_4 (by decide) rfl rfl ?_
  refine r_aload_n dX4_putSet_5 rfl ?_
  refine r_getRv dX4_putSet_6 fl_X4_50 rfl (k_20 hS) (f_20_13 hS) (by decide) ?_
  refine r_iload_n dX4_putSet_9 rfl ?_
  obtain ⟨⟨h0, h1⟩, k⟩ := k
  refine r_iald dX4_putSet_10 (Or.inl (k_30 hS)) h0 h1 ?_
  refine r_if_ne (tgt := 24) dX4_putSet_11 rfl (fun h => ?_) (fun h => ?_)
  · have k := k.1 h
    exact s_vret dX4_putSet_24 rfl k
  · have k := k.2 h
    refine r_aload_n dX4_putSet_14 rfl ?_
    refine r_getIv dX4_putSet_15 fl_X4_44 rfl (k_20 hS) ?_
    refine r_sipush dX4_putSet_18 (by decide +kernel) ⟨by decide, by decide⟩ ?_
    refine r_icmp_lt (tgt := 25) dX4_putSet_21 rfl (fun h => ?_) (fun h => ?_)
    · have k := k.1 h
      refine r_aload_n dX4_putSet_25 rfl ?_
      refine r_dup dX4_putSet_26 rfl ?_
      refine r_getIv dX4_putSet_27 fl_X4_44 rfl (k_20 hS) ?_
      refine r_iconst dX4_putSet_30 ⟨by decide, by decide⟩ ?_
      obtain ⟨h, k⟩ := k
      refine r_iadd dX4_putSet_31 h ?_
      refine r_putIv dX4_putSet_32 fl_X4_44 (fun _ h => by cases h; rfl) (Or.inl rfl) (k_20 hS) ?_
      refine r_aload_n dX4_putSet_35 rfl ?_
      refine r_getRv dX4_putSet_36 fl_X4_41 rfl (k_20 hS) (f_20_10 hS) (by decide) ?_
      refine r_aload_n dX4_putSet_39 rfl ?_
      refine r_getIv dX4_putSet_40 fl_X4_44 rfl (k_20 hS) ?_
      refine r_top (up2_s _ _ _ _) ?_
      refine r_iload_n dX4_putSet_43 rfl ?_
      obtain ⟨⟨h0, h1⟩, k⟩ := k
      refine r_iast dX4_putSet_44 (k_28 hS) h0 h1 ?_
      refine r_aload_n dX4_putSet_45 rfl ?_
      refine r_getRv dX4_putSet_46 fl_X4_50 rfl (k_20 hS) (f_20_13 hS) (by decide) ?_
      refine r_iload_n dX4_putSet_49 rfl ?_
      refine r_aload_n dX4_putSet_50 rfl ?_
      refine r_getIv dX4_putSet_51 fl_X4_44 rfl (k_20 hS) ?_
      refine r_top ((up2_a (by decide)).trans (up2_s _ _ _ _)) ?_
      obtain ⟨⟨h0, h1⟩, k⟩ := k
      refine r_iast dX4_putSet_54 (k_30 hS) h0 h1 ?_
      exact s_vret dX4_putSet_55 rfl k
    · have k := k.2 h
      exact s_vret dX4_putSet_24 rfl k
theorem e_X4_slotOf {v0 : Int} {S : ShT} {σ : StT} {Q : Int → StT → Prop} (hS : SHP S) (k : Q (iAnd (iShr v0 1) 4095) σ) : WPs mX4_slotOf [vI v0] S σ Q := by
  refine s_entry (by decide) (Nat.le_of_ble_eq_true rfl) rfl rfl ?_
  refine r_iload_n dX4_slotOf_0 rfl ?_
  refine r_iconst dX4_slotOf_1 ⟨by decide, by decide⟩ ?_
  refine r_ishr dX4_slotOf_2 ?_
  refine r_sipush dX4_slotOf_3 (by decide +kernel) ⟨by decide, by decide⟩ ?_
  refine r_iand dX4_slotOf_6 ?_
  exact s_iret dX4_slotOf_7 rfl k
theorem e_X4_clearSets {S : ShT} {σ : StT} {Q : Int → StT → Prop} (hS : SHP S) (k : AWs mX4_clearSets 2 [(0, vR 20), (1, vI 1)] [] S σ Q) : WPs mX4_clearSets [vR 20] S σ Q := by
  refine s_entry (by decide) (Nat.le_of_ble_eq_true rfl) rfl rfl ?_
  refine r_iconst dX4_clearSets_0 ⟨by decide, by decide⟩ ?_
  refine r_istore_n dX4_clearSets_1 (by decide) rfl rfl ?_
  exact k
theorem t_X4_clearSets_2 {v1 : Int} {S : ShT} {σ : StT} {Q : Int → StT → Prop} (hS : SHP S) (k : (σ 20 11 < v1 → Q 0 σ) ∧ (¬ (σ 20 11 < v1) → (0 ≤ v1 ∧ v1 < 611) ∧ WPs mX4_slotOf [vI (σ 28 v1.toNat)] S σ (fun r20 s20 => (0 ≤ r20 ∧ r20 < 4096) ∧ inR (v1 + 1) ∧ AWs mX4_clearSets 2 [(0, vR 20), (1, vI (v1 + 1))] [] S (up2 s20 30 r20.toNat 0) Q))) : AWs mX4_clearSets 2 [(0, vR 20), (1, vI v1)] [] S σ Q := by
  refine r_iload_n dX4_clearSets_2 rfl ?_
  refine r_aload_n dX4_clearSets_3 rfl ?_
  refine r_getIv dX4_clearSets_4 fl_X4_44 rfl (k_20 hS) ?_
  refine r_icmp_gt (tgt := 31) dX4_clearSets_7 rfl (fun h => ?_) (fun h => ?_)
  · have k := k.1 h
    exact s_vret dX4_clearSets_31 rfl k
  · have k := k.2 h
    refine r_aload_n dX4_clearSets_10 rfl ?_
    refine r_getRv dX4_clearSets_11 fl_X4_50 rfl (k_20 hS) (f_20_13 hS) (by decide) ?_
    refine r_aload_n dX4_clearSets_14 rfl ?_
    refine r_getRv dX4_clearSets_15 fl_X4_41 rfl (k_20 hS) (f_20_10 hS) (by decide) ?_
    refine r_iload_n dX4_clearSets_18 rfl ?_
    obtain ⟨⟨h0, h1⟩, k⟩ := k
    refine r_iald dX4_clearSets_19 (Or.inl (k_28 hS)) h0 h1 ?_
    refine s_callS (z := mX4_slotOf) [vI (σ 28 v1.toNat)] dX4_clearSets_20 ms_X4_slotOf lk_X4_118 rfl (by decide) (Nat.le_of_ble_eq_true rfl) (WPs.mono k (fun r20 s20 k => ?_))
    refine r_iconst dX4_clearSets_23 ⟨by decide, by decide⟩ ?_
    obtain ⟨⟨h0, h1⟩, k⟩ := k
    refine r_iast dX4_clearSets_24 (k_30 hS) h0 h1 ?_
    obtain ⟨h, k⟩ := k
    refine r_iinc dX4_clearSets_25 rfl (by decide) rfl rfl h ?_
    refine r_goto (tgt := 2) dX4_clearSets_28 rfl ?_
    exact k
theorem e_X4_fillLeast {S : ShT} {σ : StT} {Q : Int → StT → Prop} (hS : SHP S) (k : (0 ≤ σ 20 11 ∧ σ 20 11 < 611) ∧ inR ((σ 20 11) - 1) ∧ ∀ x16 : Int, x16 = (σ 20 11) - 1 → AWs mX4_fillLeast 17 [(0, vR 20), (1, vI x16)] [] S (up2 σ 29 (σ 20 11).toNat 0) Q) : WPs mX4_fillLeast [vR 20] S σ Q := by
  refine s_entry (by decide) (Nat.le_of_ble_eq_true rfl) rfl rfl ?_
  refine r_aload_n dX4_fillLeast_0 rfl ?_
  refine r_getRv dX4_fillLeast_1 fl_X4_47 rfl (k_20 hS) (f_20_12 hS) (by decide) ?_
  refine r_aload_n dX4_fillLeast_4 rfl ?_
  refine r_getIv dX4_fillLeast_5 fl_X4_44 rfl (k_20 hS) ?_
  refine r_iconst dX4_fillLeast_8 ⟨by decide, by decide⟩ ?_
  obtain ⟨⟨h0, h1⟩, k⟩ := k
  refine r_iast dX4_fillLeast_9 (k_29 hS) h0 h1 ?_
  refine r_aload_n dX4_fillLeast_10 rfl ?_
  refine r_getIv dX4_fillLeast_11 fl_X4_44 rfl (k_20 hS) ?_
  refine r_top (up2_a (by decide)) ?_
  refine r_iconst dX4_fillLeast_14 ⟨by decide, by decide⟩ ?_
  obtain ⟨h, k⟩ := k
  refine r_isub dX4_fillLeast_15 h ?_
  refine r_gen (fun x16 hx16 => ?_)
  have k := k x16 hx16
  refine r_istore_n dX4_fillLeast_16 (by decide) rfl rfl ?_
  exact k
theorem t_X4_fillLeast_17 {v1 : Int} {S : ShT} {σ : StT} {Q : Int → StT → Prop} (hS : SHP S) (k : (v1 < 1 → Q 0 σ) ∧ (¬ (v1 < 1) → (0 ≤ v1 ∧ v1 < 611) ∧ (0 ≤ v1 ∧ v1 < 611) ∧ WPs mX4_firstFree [vR 20, vI (σ 28 v1.toNat)] S σ (fun r36 s36 => WPs mX4_bestPartner [vR 20, vI (σ 28 v1.toNat), vI r36] S s36 (fun r39 s39 => (0 ≤ v1 ∧ v1 < 611) ∧ inR (v1 + -1) ∧ AWs mX4_fillLeast 17 [(0, vR 20), (1, vI (v1 + -1))] [] S (up2 s39 29 v1.toNat (s39 20 14)) Q)))) : AWs mX4_fillLeast 17 [(0, vR 20), (1, vI v1)] [] S σ Q := by
  refine r_iload_n dX4_fillLeast_17 rfl ?_
  refine r_iconst dX4_fillLeast_18 ⟨by decide, by decide⟩ ?_
  refine r_icmp_lt (tgt := 59) dX4_fillLeast_19 rfl (fun h => ?_) (fun h => ?_)
  · have k := k.1 h
    exact s_vret dX4_fillLeast_59 rfl k
  · have k := k.2 h
    refine r_aload_n dX4_fillLeast_22 rfl ?_
    refine r_aload_n dX4_fillLeast_23 rfl ?_
    refine r_getRv dX4_fillLeast_24 fl_X4_41 rfl (k_20 hS) (f_20_10 hS) (by decide) ?_
    refine r_iload_n dX4_fillLeast_27 rfl ?_
    obtain ⟨⟨h0, h1⟩, k⟩ := k
    refine r_iald dX4_fillLeast_28 (Or.inl (k_28 hS)) h0 h1 ?_
    refine r_aload_n dX4_fillLeast_29 rfl ?_
    refine r_aload_n dX4_fillLeast_30 rfl ?_
    refine r_getRv dX4_fillLeast_31 fl_X4_41 rfl (k_20 hS) (f_20_10 hS) (by decide) ?_
    refine r_iload_n dX4_fillLeast_34 rfl ?_
    obtain ⟨⟨h0, h1⟩, k⟩ := k
    refine r_iald dX4_fillLeast_35 (Or.inl (k_28 hS)) h0 h1 ?_
    refine s_callVv (z := mX4_firstFree) [vI (σ 28 v1.toNat)] dX4_fillLeast_36 mv_X4_firstFree lk_X4_106 rfl (by decide) (k_20 hS) (Nat.le_of_ble_eq_true rfl) (WPs.mono k (fun r36 s36 k => ?_))
    refine s_callVv (z := mX4_bestPartner) [vI (σ 28 v1.toNat), vI r36] dX4_fillLeast_39 mv_X4_bestPartner lk_X4_109 rfl (by decide) (k_20 hS) (Nat.le_of_ble_eq_true rfl) (WPs.mono k (fun r39 s39 k => ?_))
    refine r_pop dX4_fillLeast_42 rfl ?_
    refine r_aload_n dX4_fillLeast_43 rfl ?_
    refine r_getRv dX4_fillLeast_44 fl_X4_47 rfl (k_20 hS) (f_20_12 hS) (by decide) ?_
    refine r_iload_n dX4_fillLeast_47 rfl ?_
    refine r_aload_n dX4_fillLeast_48 rfl ?_
    refine r_getIv dX4_fillLeast_49 fl_X4_53 rfl (k_20 hS) ?_
    obtain ⟨⟨h0, h1⟩, k⟩ := k
    refine r_iast dX4_fillLeast_52 (k_29 hS) h0 h1 ?_
    obtain ⟨h, k⟩ := k
    refine r_iinc dX4_fillLeast_53 rfl (by decide) rfl rfl h ?_
    refine r_goto (tgt := 17) dX4_fillLeast_56 rfl ?_
    exact k
theorem e_X4_bestPartner {v1 v2 : Int} {S : ShT} {σ : StT} {Q : Int → StT → Prop} (hS : SHP S) (k : inR (v2 + 1) ∧ AWs mX4_bestPartner 12 [(0, vR 20), (1, vI v1), (2, vI v2), (3, vI v2), (4, vI (v2 + 1))] [] S (up2 σ 20 14 0) Q) : WPs mX4_bestPartner [vR 20, vI v1, vI v2] S σ Q := by
  refine s_entry (by decide) (Nat.le_of_ble_eq_true rfl) rfl rfl ?_
  refine r_iload_n dX4_bestPartner_0 rfl ?_
  refine r_istore_n dX4_bestPartner_1 (by decide) rfl rfl ?_
  refine r_aload_n dX4_bestPartner_2 rfl ?_
  refine r_iconst dX4_bestPartner_3 ⟨by decide, by decide⟩ ?_
  refine r_putIv dX4_bestPartner_4 fl_X4_53 (fun _ h => by cases h; rfl) (Or.inl rfl) (k_20 hS) ?_
  refine r_iload_n dX4_bestPartner_7 rfl ?_
  refine r_iconst dX4_bestPartner_8 ⟨by decide, by decide⟩ ?_
  obtain ⟨h, k⟩ := k
  refine r_iadd dX4_bestPartner_9 h ?_
  refine r_istore dX4_bestPartner_10 (by decide) rfl rfl ?_
  exact k
theorem t_X4_bestPartner_12 {v1 v2 v3 v4 : Int} {S : ShT} {σ : StT} {Q : Int → StT → Prop} (hS : SHP S) (k : (σ 20 8 ≤ v4 → Q v3 σ) ∧ (¬ (σ 20 8 ≤ v4) → (¬ iAnd (iShr v1 v4) 1 = 0 → inR (v4 + 1) ∧ AWs mX4_bestPartner 12 [(0, vR 20), (1, vI v1), (2, vI v2), (3, vI v3), (4, vI (v4 + 1))] [] S σ Q) ∧ (iAnd (iShr v1 v4) 1 = 0 → WPs mX4_slotOf [vI (iOr (iOr v1 (iShl 1 v2)) (iShl 1 v4))] S σ (fun r44 s44 => (0 ≤ r44 ∧ r44 < 4096) ∧ ∀ x48 : Int, x48 = s44 30 r44.toNat → inR (v2 * 14) ∧ inR ((v2 * 14) + v4) ∧ ((0 ≤ (v2 * 14) + v4 ∧ (v2 * 14) + v4 < 196) ∧ ((0 ≤ x48 ∧ x48 < 611) ∧ inR ((s44 27 ((v2 * 14) + v4).toNat) + (s44 29 x48.toNat)) ∧ ∀ x70 : Int, x70 = (s44 27 ((v2 * 14) + v4).toNat) + (s44 29 x48.toNat) → (v3 = v2 → inR (v4 + 1) ∧ AWs mX4_bestPartner 12 [(0, vR 20), (1, vI v1), (2, vI v2), (3, vI v4), (4, vI (v4 + 1))] [] S (up2 s44 20 14 x70) Q) ∧ (¬ (v3 = v2) → (s44 20 14 ≤ x70 → inR (v4 + 1) ∧ AWs mX4_bestPartner 12 [(0, vR 20), (1, vI v1), (2, vI v2), (3, vI v3), (4, vI (v4 + 1))] [] S s44 Q) ∧ (¬ (s44 20 14 ≤ x70) → inR (v4 + 1) ∧ AWs mX4_bestPartner 12 [(0, vR 20), (1, vI v1), (2, vI v2), (3, vI v4), (4, vI (v4 + 1))] [] S (up2 s44 20 14 x70) Q)))))))) : AWs mX4_bestPartner 12 [(0, vR 20), (1, vI v1), (2, vI v2), (3, vI v3), (4, vI v4)] [] S σ Q := by
  refine r_iload dX4_bestPartner_12 rfl ?_
  refine r_aload_n dX4_bestPartner_14 rfl ?_
  refine r_getIv dX4_bestPartner_15 fl_X4_35 rfl (k_20 hS) ?_
  refine r_icmp_ge (tgt := 101) dX4_bestPartner_18 rfl (fun h => ?_) (fun h => ?_)
  · have k := k.1 h
    refine r_iload_n dX4_bestPartner_101 rfl ?_
    exact s_iret dX4_bestPartner_102 rfl k
  · have k := k.2 h
    refine r_iload_n dX4_bestPartner_21 rfl ?_
    refine r_iload dX4_bestPartner_22 rfl ?_
    refine r_ishr dX4_bestPartner_24 ?_
    refine r_iconst dX4_bestPartner_25 ⟨by decide, by decide⟩ ?_
    refine r_iand dX4_bestPartner_26 ?_
    refine r_if_ne (tgt := 95) dX4_bestPartner_27 rfl (fun h => ?_) (fun h => ?_)
    · have k := k.1 h
      obtain ⟨h, k⟩ := k
      refine r_iinc dX4_bestPartner_95 rfl (by decide) rfl rfl h ?_
      refine r_goto (tgt := 12) dX4_bestPartner_98 rfl ?_
      exact k
    · have k := k.2 h
      refine r_aload_n dX4_bestPartner_30 rfl ?_
      refine r_getRv dX4_bestPartner_31 fl_X4_50 rfl (k_20 hS) (f_20_13 hS) (by decide) ?_
      refine r_iload_n dX4_bestPartner_34 rfl ?_
      refine r_iconst dX4_bestPartner_35 ⟨by decide, by decide⟩ ?_
      refine r_iload_n dX4_bestPartner_36 rfl ?_
      refine r_ishl dX4_bestPartner_37 ?_
      refine r_ior dX4_bestPartner_38 ?_
      refine r_iconst dX4_bestPartner_39 ⟨by decide, by decide⟩ ?_
      refine r_iload dX4_bestPartner_40 rfl ?_
      refine r_ishl dX4_bestPartner_42 ?_
      refine r_ior dX4_bestPartner_43 ?_
      refine s_callS (z := mX4_slotOf) [vI (iOr (iOr v1 (iShl 1 v2)) (iShl 1 v4))] dX4_bestPartner_44 ms_X4_slotOf lk_X4_118 rfl (by decide) (Nat.le_of_ble_eq_true rfl) (WPs.mono k (fun r44 s44 k => ?_))
      obtain ⟨⟨h0, h1⟩, k⟩ := k
      refine r_iald dX4_bestPartner_47 (Or.inl (k_30 hS)) h0 h1 ?_
      refine r_gen (fun x48 hx48 => ?_)
      have k := k x48 hx48
      refine r_istore dX4_bestPartner_48 (by decide) rfl rfl ?_
      refine r_aload_n dX4_bestPartner_50 rfl ?_
      refine r_getRv dX4_bestPartner_51 fl_X4_38 rfl (k_20 hS) (f_20_9 hS) (by decide) ?_
      refine r_iload_n dX4_bestPartner_54 rfl ?_
      refine r_bipush dX4_bestPartner_55 (by decide +kernel) ⟨by decide, by decide⟩ ?_
      obtain ⟨h, k⟩ := k
      refine r_imul dX4_bestPartner_57 h ?_
      refine r_iload dX4_bestPartner_58 rfl ?_
      obtain ⟨h, k⟩ := k
      refine r_iadd dX4_bestPartner_60 h ?_
      obtain ⟨⟨h0, h1⟩, k⟩ := k
      refine r_iald dX4_bestPartner_61 (Or.inl (k_27 hS)) h0 h1 ?_
      refine r_aload_n dX4_bestPartner_62 rfl ?_
      refine r_getRv dX4_bestPartner_63 fl_X4_47 rfl (k_20 hS) (f_20_12 hS) (by decide) ?_
      refine r_iload dX4_bestPartner_66 rfl ?_
      obtain ⟨⟨h0, h1⟩, k⟩ := k
      refine r_iald dX4_bestPartner_68 (Or.inl (k_29 hS)) h0 h1 ?_
      obtain ⟨h, k⟩ := k
      refine r_iadd dX4_bestPartner_69 h ?_
      refine r_gen (fun x70 hx70 => ?_)
      have k := k x70 hx70
      refine r_istore dX4_bestPartner_70 (by decide) rfl rfl ?_
      refine r_iload_n dX4_bestPartner_72 rfl ?_
      refine r_iload_n dX4_bestPartner_73 rfl ?_
      refine r_icmp_eq (tgt := 86) dX4_bestPartner_74 rfl (fun h => ?_) (fun h => ?_)
      · have k := k.1 h
        refine r_iload dX4_bestPartner_86 rfl ?_
        refine r_istore_n dX4_bestPartner_88 (by decide) rfl rfl ?_
        refine r_aload_n dX4_bestPartner_89 rfl ?_
        refine r_iload dX4_bestPartner_90 rfl ?_
        refine r_putIv dX4_bestPartner_92 fl_X4_53 (fun _ h => by cases h; rfl) (Or.inl rfl) (k_20 hS) ?_
        obtain ⟨h, k⟩ := k
        refine r_iinc dX4_bestPartner_95 rfl (by decide) rfl rfl h ?_
        refine r_goto (tgt := 12) dX4_bestPartner_98 rfl ?_
        refine r_loc [0, 1, 2, 3, 4] rfl ?_
        exact k
      · have k := k.2 h
        refine r_iload dX4_bestPartner_77 rfl ?_
        refine r_aload_n dX4_bestPartner_79 rfl ?_
        refine r_getIv dX4_bestPartner_80 fl_X4_53 rfl (k_20 hS) ?_
        refine r_icmp_ge (tgt := 95) dX4_bestPartner_83 rfl (fun h => ?_) (fun h => ?_)
        · have k := k.1 h
          obtain ⟨h, k⟩ := k
          refine r_iinc dX4_bestPartner_95 rfl (by decide) rfl rfl h ?_
          refine r_goto (tgt := 12) dX4_bestPartner_98 rfl ?_
          refine r_loc [0, 1, 2, 3, 4] rfl ?_
          exact k
        · have k := k.2 h
          refine r_iload dX4_bestPartner_86 rfl ?_
          refine r_istore_n dX4_bestPartner_88 (by decide) rfl rfl ?_
          refine r_aload_n dX4_bestPartner_89 rfl ?_
          refine r_iload dX4_bestPartner_90 rfl ?_
          refine r_putIv dX4_bestPartner_92 fl_X4_53 (fun _ h => by cases h; rfl) (Or.inl rfl) (k_20 hS) ?_
          obtain ⟨h, k⟩ := k
          refine r_iinc dX4_bestPartner_95 rfl (by decide) rfl rfl h ?_
          refine r_goto (tgt := 12) dX4_bestPartner_98 rfl ?_
          refine r_loc [0, 1, 2, 3, 4] rfl ?_
          exact k
