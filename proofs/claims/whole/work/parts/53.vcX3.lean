theorem e_X3_gather {m dr : Nat} {v1 : Int} {S : ShT} {σ : StT} {Q : Int → StT → Prop} (hS : SHP S) (hm : isM m dr) (k : WPs mX3_gatherEnds [vR m, vI v1] S σ (fun r2 s2 => WPs mX3_gatherParts [vR m] S s2 (fun r6 s6 => WPs mX3_countEnds [vR m] S s6 (fun r10 s10 => WPs mX3_countOdds [vR m] S s10 (fun r14 s14 => Q 0 s14))))) : WPs mX3_gather [vR m, vI v1] S σ Q := by
  refine s_entry (by decide) (Nat.le_of_ble_eq_true rfl) rfl rfl ?_
  refine r_aload_n dX3_gather_0 rfl ?_
  refine r_iload_n dX3_gather_1 rfl ?_
  refine s_callVv (z := mX3_gatherEnds) [vI v1] dX3_gather_2 mv_X3_gatherEnds lk_X3_38 rfl (by decide) (kM hS hm) (Nat.le_of_ble_eq_true rfl) (WPs.mono k (fun r2 s2 k => ?_))
  refine r_aload_n dX3_gather_5 rfl ?_
  refine s_callVv (z := mX3_gatherParts) [] dX3_gather_6 mv_X3_gatherParts lk_X3_42 rfl (by decide) (kM hS hm) (Nat.le_of_ble_eq_true rfl) (WPs.mono k (fun r6 s6 k => ?_))
  refine r_aload_n dX3_gather_9 rfl ?_
  refine s_callVv (z := mX3_countEnds) [] dX3_gather_10 mv_X3_countEnds lk_X3_45 rfl (by decide) (kM hS hm) (Nat.le_of_ble_eq_true rfl) (WPs.mono k (fun r10 s10 k => ?_))
  refine r_aload_n dX3_gather_13 rfl ?_
  refine s_callVv (z := mX3_countOdds) [] dX3_gather_14 mv_X3_countOdds lk_X3_48 rfl (by decide) (kM hS hm) (Nat.le_of_ble_eq_true rfl) (WPs.mono k (fun r14 s14 k => ?_))
  exact s_vret dX3_gather_17 rfl k
theorem e_X3_gatherEnds {m dr : Nat} {v1 : Int} {S : ShT} {σ : StT} {Q : Int → StT → Prop} (hS : SHP S) (hm : isM m dr) (k : inR (2 * (σ dr 2)) ∧ WPs mX1_begin [vR (m + 1), vI (2 * (σ dr 2))] S σ (fun r15 s15 => AWs mX3_gatherEnds 20 [(0, vR m), (1, vI v1), (2, vI (2 * (σ dr 2))), (3, vI 0)] [] S s15 Q)) : WPs mX3_gatherEnds [vR m, vI v1] S σ Q := by
  refine s_entry (by decide) (Nat.le_of_ble_eq_true rfl) rfl rfl ?_
  refine r_iconst dX3_gatherEnds_0 ⟨by decide, by decide⟩ ?_
  refine r_aload_n dX3_gatherEnds_1 rfl ?_
  refine r_getRv dX3_gatherEnds_2 fl_X3_34 rfl (kM hS hm) (fM0 hS hm) (isM_0 hm) ?_
  refine r_getIv dX3_gatherEnds_5 fl_X3_51 rfl (kD hS (isM_D hm)) ?_
  obtain ⟨h, k⟩ := k
  refine r_imul dX3_gatherEnds_8 h ?_
  refine r_istore_n dX3_gatherEnds_9 (by decide) rfl rfl ?_
  refine r_aload_n dX3_gatherEnds_10 rfl ?_
  refine r_getRv dX3_gatherEnds_11 fl_X3_12 rfl (kM hS hm) (fM1 hS hm) (Nat.succ_ne_zero _) ?_
  refine r_iload_n dX3_gatherEnds_14 rfl ?_
  refine s_callVv (z := mX1_begin) [vI (2 * (σ dr 2))] dX3_gatherEnds_15 mv_X1_begin lk_X3_57 rfl (by decide) (kG hS (isM_E hm)) (Nat.le_of_ble_eq_true rfl) (WPs.mono k (fun r15 s15 k => ?_))
  refine r_iconst dX3_gatherEnds_18 ⟨by decide, by decide⟩ ?_
  refine r_istore_n dX3_gatherEnds_19 (by decide) rfl rfl ?_
  exact k
theorem t_X3_gatherEnds_20 {m dr : Nat} {v1 v2 v3 : Int} {S : ShT} {σ : StT} {Q : Int → StT → Prop} (hS : SHP S) (hm : isM m dr) (k : (v2 ≤ v3 → WPs mX1_numberAll [vR (m + 1)] S σ (fun r42 s42 => AWs mX3_gatherEnds 47 [(0, vR m), (3, vI 0)] [] S s42 Q)) ∧ (¬ (v2 ≤ v3) → WPs mX3_tieNearTo [vR m, vI v3, vI v2, vI v1] S σ (fun r29 s29 => inR (v3 + 1) ∧ AWs mX3_gatherEnds 20 [(0, vR m), (1, vI v1), (2, vI v2), (3, vI (v3 + 1))] [] S s29 Q))) : AWs mX3_gatherEnds 20 [(0, vR m), (1, vI v1), (2, vI v2), (3, vI v3)] [] S σ Q := by
  refine r_iload_n dX3_gatherEnds_20 rfl ?_
  refine r_iload_n dX3_gatherEnds_21 rfl ?_
  refine r_icmp_ge (tgt := 38) dX3_gatherEnds_22 rfl (fun h => ?_) (fun h => ?_)
  · have k := k.1 h
    refine r_aload_n dX3_gatherEnds_38 rfl ?_
    refine r_getRv dX3_gatherEnds_39 fl_X3_12 rfl (kM hS hm) (fM1 hS hm) (Nat.succ_ne_zero _) ?_
    refine s_callVv (z := mX1_numberAll) [] dX3_gatherEnds_42 mv_X1_numberAll lk_X3_64 rfl (by decide) (kG hS (isM_E hm)) (Nat.le_of_ble_eq_true rfl) (WPs.mono k (fun r42 s42 k => ?_))
    refine r_iconst dX3_gatherEnds_45 ⟨by decide, by decide⟩ ?_
    refine r_istore_n dX3_gatherEnds_46 (by decide) rfl rfl ?_
    refine r_loc [0, 3] rfl ?_
    exact k
  · have k := k.2 h
    refine r_aload_n dX3_gatherEnds_25 rfl ?_
    refine r_iload_n dX3_gatherEnds_26 rfl ?_
    refine r_iload_n dX3_gatherEnds_27 rfl ?_
    refine r_iload_n dX3_gatherEnds_28 rfl ?_
    refine s_callVv (z := mX3_tieNearTo) [vI v3, vI v2, vI v1] dX3_gatherEnds_29 mv_X3_tieNearTo lk_X3_60 rfl (by decide) (kM hS hm) (Nat.le_of_ble_eq_true rfl) (WPs.mono k (fun r29 s29 k => ?_))
    obtain ⟨h, k⟩ := k
    refine r_iinc dX3_gatherEnds_32 rfl (by decide) rfl rfl h ?_
    refine r_goto (tgt := 20) dX3_gatherEnds_35 rfl ?_
    exact k
theorem t_X3_gatherEnds_47 {m dr : Nat} {v3 : Int} {S : ShT} {σ : StT} {Q : Int → StT → Prop} (hS : SHP S) (hm : isM m dr) (k : (σ (m + 1) 2 ≤ v3 → Q 0 σ) ∧ (¬ (σ (m + 1) 2 ≤ v3) → (0 ≤ v3 ∧ v3 < 48) ∧ (0 ≤ σ (m + 1 + 2) v3.toNat ∧ σ (m + 1 + 2) v3.toNat < 48) ∧ (0 ≤ v3 ∧ v3 < 48) ∧ (0 ≤ v3 ∧ v3 < 48) ∧ (0 ≤ σ (m + 1 + 2) v3.toNat ∧ σ (m + 1 + 2) v3.toNat < 48) ∧ (0 ≤ v3 ∧ v3 < 48) ∧ inR (v3 + 1) ∧ AWs mX3_gatherEnds 47 [(0, vR m), (3, vI (v3 + 1))] [] S (up2 (up2 σ (m + 9) v3.toNat (σ (dr + 1) (σ (m + 1 + 2) v3.toNat).toNat)) (m + 10) v3.toNat (σ (dr + 2) (σ (m + 1 + 2) v3.toNat).toNat)) Q)) : AWs mX3_gatherEnds 47 [(0, vR m), (3, vI v3)] [] S σ Q := by
  refine r_iload_n dX3_gatherEnds_47 rfl ?_
  refine r_aload_n dX3_gatherEnds_48 rfl ?_
  refine r_getRv dX3_gatherEnds_49 fl_X3_12 rfl (kM hS hm) (fM1 hS hm) (Nat.succ_ne_zero _) ?_
  refine r_getIv dX3_gatherEnds_52 fl_X3_67 rfl (kG hS (isM_E hm)) ?_
  refine r_icmp_ge (tgt := 110) dX3_gatherEnds_55 rfl (fun h => ?_) (fun h => ?_)
  · have k := k.1 h
    exact s_vret dX3_gatherEnds_110 rfl k
  · have k := k.2 h
    refine r_aload_n dX3_gatherEnds_58 rfl ?_
    refine r_getRv dX3_gatherEnds_59 fl_X3_21 rfl (kM hS hm) (fM3 hS hm) (Nat.succ_ne_zero _) ?_
    refine r_iload_n dX3_gatherEnds_62 rfl ?_
    refine r_aload_n dX3_gatherEnds_63 rfl ?_
    refine r_getRv dX3_gatherEnds_64 fl_X3_34 rfl (kM hS hm) (fM0 hS hm) (isM_0 hm) ?_
    refine r_getRv dX3_gatherEnds_67 fl_X3_70 rfl (kD hS (isM_D hm)) (fD1 hS (isM_D hm)) (Nat.succ_ne_zero _) ?_
    refine r_aload_n dX3_gatherEnds_70 rfl ?_
    refine r_getRv dX3_gatherEnds_71 fl_X3_12 rfl (kM hS hm) (fM1 hS hm) (Nat.succ_ne_zero _) ?_
    refine r_getRv dX3_gatherEnds_74 fl_X3_73 rfl (kG hS (isM_E hm)) (fG2 hS (isM_E hm)) (Nat.succ_ne_zero _) ?_
    refine r_iload_n dX3_gatherEnds_77 rfl ?_
    obtain ⟨⟨h0, h1⟩, k⟩ := k
    refine r_iald dX3_gatherEnds_78 (Or.inl (kG2 hS (isM_E hm))) h0 h1 ?_
    obtain ⟨⟨h0, h1⟩, k⟩ := k
    refine r_iald dX3_gatherEnds_79 (Or.inl (kD1 hS (isM_D hm))) h0 h1 ?_
    obtain ⟨⟨h0, h1⟩, k⟩ := k
    refine r_iast dX3_gatherEnds_80 (kM9 hS hm) h0 h1 ?_
    refine r_aload_n dX3_gatherEnds_81 rfl ?_
    refine r_getRv dX3_gatherEnds_82 fl_X3_25 rfl (kM hS hm) (fM4 hS hm) (Nat.succ_ne_zero _) ?_
    refine r_iload_n dX3_gatherEnds_85 rfl ?_
    refine r_aload_n dX3_gatherEnds_86 rfl ?_
    refine r_getRv dX3_gatherEnds_87 fl_X3_34 rfl (kM hS hm) (fM0 hS hm) (isM_0 hm) ?_
    refine r_getRv dX3_gatherEnds_90 fl_X3_76 rfl (kD hS (isM_D hm)) (fD2 hS (isM_D hm)) (Nat.succ_ne_zero _) ?_
    refine r_aload_n dX3_gatherEnds_93 rfl ?_
    refine r_getRv dX3_gatherEnds_94 fl_X3_12 rfl (kM hS hm) (fM1 hS hm) (Nat.succ_ne_zero _) ?_
    refine r_getRv dX3_gatherEnds_97 fl_X3_73 rfl (kG hS (isM_E hm)) (fG2 hS (isM_E hm)) (Nat.succ_ne_zero _) ?_
    refine r_iload_n dX3_gatherEnds_100 rfl ?_
    obtain ⟨⟨h0, h1⟩, k⟩ := k
    refine r_iald dX3_gatherEnds_101 (Or.inl (kG2 hS (isM_E hm))) h0 h1 ?_
    refine r_top (up2_a (by omega)) ?_
    obtain ⟨⟨h0, h1⟩, k⟩ := k
    refine r_iald dX3_gatherEnds_102 (Or.inl (kD2 hS (isM_D hm))) h0 h1 ?_
    refine r_top (up2_a (by have := isM_lt hm; omega)) ?_
    obtain ⟨⟨h0, h1⟩, k⟩ := k
    refine r_iast dX3_gatherEnds_103 (kM10 hS hm) h0 h1 ?_
    obtain ⟨h, k⟩ := k
    refine r_iinc dX3_gatherEnds_104 rfl (by decide) rfl rfl h ?_
    refine r_goto (tgt := 47) dX3_gatherEnds_107 rfl ?_
    exact k
theorem e_X3_tieNearTo {m dr : Nat} {v1 v2 v3 : Int} {S : ShT} {σ : StT} {Q : Int → StT → Prop} (hS : SHP S) (hm : isM m dr) (k : (0 ≤ v1 ∧ v1 < 48) ∧ ∀ x9 : Int, x9 = σ (dr + 1) v1.toNat → (0 ≤ v1 ∧ v1 < 48) ∧ ∀ x20 : Int, x20 = σ (dr + 2) v1.toNat → inR (v1 + 1) ∧ AWs mX3_tieNearTo 27 [(0, vR m), (1, vI v1), (2, vI v2), (3, vI v3), (4, vI x9), (5, vI x20), (6, vI (v1 + 1))] [] S σ Q) : WPs mX3_tieNearTo [vR m, vI v1, vI v2, vI v3] S σ Q := by
  refine s_entry (by decide) (Nat.le_of_ble_eq_true rfl) rfl rfl ?_
  refine r_aload_n dX3_tieNearTo_0 rfl ?_
  refine r_getRv dX3_tieNearTo_1 fl_X3_34 rfl (kM hS hm) (fM0 hS hm) (isM_0 hm) ?_
  refine r_getRv dX3_tieNearTo_4 fl_X3_70 rfl (kD hS (isM_D hm)) (fD1 hS (isM_D hm)) (Nat.succ_ne_zero _) ?_
  refine r_iload_n dX3_tieNearTo_7 rfl ?_
  obtain ⟨⟨h0, h1⟩, k⟩ := k
  refine r_iald dX3_tieNearTo_8 (Or.inl (kD1 hS (isM_D hm))) h0 h1 ?_
  refine r_gen (fun x9 hx9 => ?_)
  have k := k x9 hx9
  refine r_istore dX3_tieNearTo_9 (by decide) rfl rfl ?_
  refine r_aload_n dX3_tieNearTo_11 rfl ?_
  refine r_getRv dX3_tieNearTo_12 fl_X3_34 rfl (kM hS hm) (fM0 hS hm) (isM_0 hm) ?_
  refine r_getRv dX3_tieNearTo_15 fl_X3_76 rfl (kD hS (isM_D hm)) (fD2 hS (isM_D hm)) (Nat.succ_ne_zero _) ?_
  refine r_iload_n dX3_tieNearTo_18 rfl ?_
  obtain ⟨⟨h0, h1⟩, k⟩ := k
  refine r_iald dX3_tieNearTo_19 (Or.inl (kD2 hS (isM_D hm))) h0 h1 ?_
  refine r_gen (fun x20 hx20 => ?_)
  have k := k x20 hx20
  refine r_istore dX3_tieNearTo_20 (by decide) rfl rfl ?_
  refine r_iload_n dX3_tieNearTo_22 rfl ?_
  refine r_iconst dX3_tieNearTo_23 ⟨by decide, by decide⟩ ?_
  obtain ⟨h, k⟩ := k
  refine r_iadd dX3_tieNearTo_24 h ?_
  refine r_istore dX3_tieNearTo_25 (by decide) rfl rfl ?_
  exact k
theorem t_X3_tieNearTo_27 {m dr : Nat} {v1 v2 v3 v4 v5 v6 : Int} {S : ShT} {σ : StT} {Q : Int → StT → Prop} (hS : SHP S) (hm : isM m dr) (k : (v2 ≤ v6 → Q 0 σ) ∧ (¬ (v2 ≤ v6) → (0 ≤ v6 ∧ v6 < 48) ∧ inR ((σ (dr + 1) v6.toNat) - v4) ∧ inR (-((σ (dr + 1) v6.toNat) - v4)) ∧ ((0 ≤ v6 ∧ v6 < 48) ∧ inR ((σ (dr + 2) v6.toNat) - v5) ∧ inR (-((σ (dr + 2) v6.toNat) - v5)) ∧ inR ((iab ((σ (dr + 1) v6.toNat) - v4)) + (iab ((σ (dr + 2) v6.toNat) - v5))) ∧ ((v3 < (iab ((σ (dr + 1) v6.toNat) - v4)) + (iab ((σ (dr + 2) v6.toNat) - v5)) → inR (v6 + 1) ∧ AWs mX3_tieNearTo 27 [(0, vR m), (1, vI v1), (2, vI v2), (3, vI v3), (4, vI v4), (5, vI v5), (6, vI (v6 + 1))] [] S σ Q) ∧ (¬ (v3 < (iab ((σ (dr + 1) v6.toNat) - v4)) + (iab ((σ (dr + 2) v6.toNat) - v5))) → WPs mX1_tie [vR (m + 1), vI v1, vI v6] S σ (fun r77 s77 => inR (v6 + 1) ∧ AWs mX3_tieNearTo 27 [(0, vR m), (1, vI v1), (2, vI v2), (3, vI v3), (4, vI v4), (5, vI v5), (6, vI (v6 + 1))] [] S s77 Q)))))) : AWs mX3_tieNearTo 27 [(0, vR m), (1, vI v1), (2, vI v2), (3, vI v3), (4, vI v4), (5, vI v5), (6, vI v6)] [] S σ Q := by
  refine r_iload dX3_tieNearTo_27 rfl ?_
  refine r_iload_n dX3_tieNearTo_29 rfl ?_
  refine r_icmp_ge (tgt := 86) dX3_tieNearTo_30 rfl (fun h => ?_) (fun h => ?_)
  · have k := k.1 h
    exact s_vret dX3_tieNearTo_86 rfl k
  · have k := k.2 h
    refine r_aload_n dX3_tieNearTo_33 rfl ?_
    refine r_getRv dX3_tieNearTo_34 fl_X3_34 rfl (kM hS hm) (fM0 hS hm) (isM_0 hm) ?_
    refine r_getRv dX3_tieNearTo_37 fl_X3_70 rfl (kD hS (isM_D hm)) (fD1 hS (isM_D hm)) (Nat.succ_ne_zero _) ?_
    refine r_iload dX3_tieNearTo_40 rfl ?_
    obtain ⟨⟨h0, h1⟩, k⟩ := k
    refine r_iald dX3_tieNearTo_42 (Or.inl (kD1 hS (isM_D hm))) h0 h1 ?_
    refine r_iload dX3_tieNearTo_43 rfl ?_
    obtain ⟨h, k⟩ := k
    refine r_isub dX3_tieNearTo_45 h ?_
    obtain ⟨h, k⟩ := k
    refine r_mabs dX3_tieNearTo_46 lk_X3_79 (by decide) (Nat.le_of_ble_eq_true rfl) h ?_
    refine r_aload_n dX3_tieNearTo_49 rfl ?_
    refine r_getRv dX3_tieNearTo_50 fl_X3_34 rfl (kM hS hm) (fM0 hS hm) (isM_0 hm) ?_
    refine r_getRv dX3_tieNearTo_53 fl_X3_76 rfl (kD hS (isM_D hm)) (fD2 hS (isM_D hm)) (Nat.succ_ne_zero _) ?_
    refine r_iload dX3_tieNearTo_56 rfl ?_
    obtain ⟨⟨h0, h1⟩, k⟩ := k
    refine r_iald dX3_tieNearTo_58 (Or.inl (kD2 hS (isM_D hm))) h0 h1 ?_
    refine r_iload dX3_tieNearTo_59 rfl ?_
    obtain ⟨h, k⟩ := k
    refine r_isub dX3_tieNearTo_61 h ?_
    obtain ⟨h, k⟩ := k
    refine r_mabs dX3_tieNearTo_62 lk_X3_79 (by decide) (Nat.le_of_ble_eq_true rfl) h ?_
    obtain ⟨h, k⟩ := k
    refine r_iadd dX3_tieNearTo_65 h ?_
    refine r_iload_n dX3_tieNearTo_66 rfl ?_
    refine r_icmp_gt (tgt := 80) dX3_tieNearTo_67 rfl (fun h => ?_) (fun h => ?_)
    · have k := k.1 h
      obtain ⟨h, k⟩ := k
      refine r_iinc dX3_tieNearTo_80 rfl (by decide) rfl rfl h ?_
      refine r_goto (tgt := 27) dX3_tieNearTo_83 rfl ?_
      exact k
    · have k := k.2 h
      refine r_aload_n dX3_tieNearTo_70 rfl ?_
      refine r_getRv dX3_tieNearTo_71 fl_X3_12 rfl (kM hS hm) (fM1 hS hm) (Nat.succ_ne_zero _) ?_
      refine r_iload_n dX3_tieNearTo_74 rfl ?_
      refine r_iload dX3_tieNearTo_75 rfl ?_
      refine s_callVv (z := mX1_tie) [vI v1, vI v6] dX3_tieNearTo_77 mv_X1_tie lk_X3_85 rfl (by decide) (kG hS (isM_E hm)) (Nat.le_of_ble_eq_true rfl) (WPs.mono k (fun r77 s77 k => ?_))
      obtain ⟨h, k⟩ := k
      refine r_iinc dX3_tieNearTo_80 rfl (by decide) rfl rfl h ?_
      refine r_goto (tgt := 27) dX3_tieNearTo_83 rfl ?_
      exact k
theorem e_X3_gatherParts {m dr : Nat} {S : ShT} {σ : StT} {Q : Int → StT → Prop} (hS : SHP S) (hm : isM m dr) (k : WPs mX1_begin [vR (m + 5), vI (σ (m + 1) 2)] S σ (fun r11 s11 => AWs mX3_gatherParts 16 [(0, vR m), (1, vI 0)] [] S s11 Q)) : WPs mX3_gatherParts [vR m] S σ Q := by
  refine s_entry (by decide) (Nat.le_of_ble_eq_true rfl) rfl rfl ?_
  refine r_aload_n dX3_gatherParts_0 rfl ?_
  refine r_getRv dX3_gatherParts_1 fl_X3_18 rfl (kM hS hm) (fM2 hS hm) (Nat.succ_ne_zero _) ?_
  refine r_aload_n dX3_gatherParts_4 rfl ?_
  refine r_getRv dX3_gatherParts_5 fl_X3_12 rfl (kM hS hm) (fM1 hS hm) (Nat.succ_ne_zero _) ?_
  refine r_getIv dX3_gatherParts_8 fl_X3_67 rfl (kG hS (isM_E hm)) ?_
  refine s_callVv (z := mX1_begin) [vI (σ (m + 1) 2)] dX3_gatherParts_11 mv_X1_begin lk_X3_57 rfl (by decide) (kG hS (isM_K hm)) (Nat.le_of_ble_eq_true rfl) (WPs.mono k (fun r11 s11 k => ?_))
  refine r_iconst dX3_gatherParts_14 ⟨by decide, by decide⟩ ?_
  refine r_istore_n dX3_gatherParts_15 (by decide) rfl rfl ?_
  exact k
theorem t_X3_gatherParts_16 {m dr : Nat} {v1 : Int} {S : ShT} {σ : StT} {Q : Int → StT → Prop} (hS : SHP S) (hm : isM m dr) (k : (σ dr 2 ≤ v1 → WPs mX1_numberAll [vR (m + 5)] S σ (fun r60 s60 => Q 0 s60)) ∧ (¬ (σ dr 2 ≤ v1) → inR (2 * v1) ∧ WPs mX3_of [vR m, vI (2 * v1)] S σ (fun r35 s35 => inR (2 * v1) ∧ inR ((2 * v1) + 1) ∧ WPs mX3_of [vR m, vI ((2 * v1) + 1)] S s35 (fun r44 s44 => WPs mX1_tie [vR (m + 5), vI r35, vI r44] S s44 (fun r47 s47 => inR (v1 + 1) ∧ AWs mX3_gatherParts 16 [(0, vR m), (1, vI (v1 + 1))] [] S s47 Q))))) : AWs mX3_gatherParts 16 [(0, vR m), (1, vI v1)] [] S σ Q := by
  refine r_iload_n dX3_gatherParts_16 rfl ?_
  refine r_aload_n dX3_gatherParts_17 rfl ?_
  refine r_getRv dX3_gatherParts_18 fl_X3_34 rfl (kM hS hm) (fM0 hS hm) (isM_0 hm) ?_
  refine r_getIv dX3_gatherParts_21 fl_X3_51 rfl (kD hS (isM_D hm)) ?_
  refine r_icmp_ge (tgt := 56) dX3_gatherParts_24 rfl (fun h => ?_) (fun h => ?_)
  · have k := k.1 h
    refine r_aload_n dX3_gatherParts_56 rfl ?_
    refine r_getRv dX3_gatherParts_57 fl_X3_18 rfl (kM hS hm) (fM2 hS hm) (Nat.succ_ne_zero _) ?_
    refine s_callVv (z := mX1_numberAll) [] dX3_gatherParts_60 mv_X1_numberAll lk_X3_64 rfl (by decide) (kG hS (isM_K hm)) (Nat.le_of_ble_eq_true rfl) (WPs.mono k (fun r60 s60 k => ?_))
    exact s_vret dX3_gatherParts_63 rfl k
  · have k := k.2 h
    refine r_aload_n dX3_gatherParts_27 rfl ?_
    refine r_getRv dX3_gatherParts_28 fl_X3_18 rfl (kM hS hm) (fM2 hS hm) (Nat.succ_ne_zero _) ?_
    refine r_aload_n dX3_gatherParts_31 rfl ?_
    refine r_iconst dX3_gatherParts_32 ⟨by decide, by decide⟩ ?_
    refine r_iload_n dX3_gatherParts_33 rfl ?_
    obtain ⟨h, k⟩ := k
    refine r_imul dX3_gatherParts_34 h ?_
    refine s_callVv (z := mX3_of) [vI (2 * v1)] dX3_gatherParts_35 mv_X3_of lk_X3_89 rfl (by decide) (kM hS hm) (Nat.le_of_ble_eq_true rfl) (WPs.mono k (fun r35 s35 k => ?_))
    refine r_aload_n dX3_gatherParts_38 rfl ?_
    refine r_iconst dX3_gatherParts_39 ⟨by decide, by decide⟩ ?_
    refine r_iload_n dX3_gatherParts_40 rfl ?_
    obtain ⟨h, k⟩ := k
    refine r_imul dX3_gatherParts_41 h ?_
    refine r_iconst dX3_gatherParts_42 ⟨by decide, by decide⟩ ?_
    obtain ⟨h, k⟩ := k
    refine r_iadd dX3_gatherParts_43 h ?_
    refine s_callVv (z := mX3_of) [vI ((2 * v1) + 1)] dX3_gatherParts_44 mv_X3_of lk_X3_89 rfl (by decide) (kM hS hm) (Nat.le_of_ble_eq_true rfl) (WPs.mono k (fun r44 s44 k => ?_))
    refine s_callVv (z := mX1_tie) [vI r35, vI r44] dX3_gatherParts_47 mv_X1_tie lk_X3_85 rfl (by decide) (kG hS (isM_K hm)) (Nat.le_of_ble_eq_true rfl) (WPs.mono k (fun r47 s47 k => ?_))
    obtain ⟨h, k⟩ := k
    refine r_iinc dX3_gatherParts_50 rfl (by decide) rfl rfl h ?_
    refine r_goto (tgt := 16) dX3_gatherParts_53 rfl ?_
    exact k
theorem e_X3_countEnds {m dr : Nat} {S : ShT} {σ : StT} {Q : Int → StT → Prop} (hS : SHP S) (hm : isM m dr) (k : AWs mX3_countEnds 2 [(0, vR m), (1, vI 0)] [] S σ Q) : WPs mX3_countEnds [vR m] S σ Q := by
  refine s_entry (by decide) (Nat.le_of_ble_eq_true rfl) rfl rfl ?_
  refine r_iconst dX3_countEnds_0 ⟨by decide, by decide⟩ ?_
  refine r_istore_n dX3_countEnds_1 (by decide) rfl rfl ?_
  exact k
theorem t_X3_countEnds_2 {m dr : Nat} {v1 : Int} {S : ShT} {σ : StT} {Q : Int → StT → Prop} (hS : SHP S) (hm : isM m dr) (k : (σ (m + 1) 2 ≤ v1 → AWs mX3_countEnds 28 [(0, vR m), (1, vI 0)] [] S σ Q) ∧ (¬ (σ (m + 1) 2 ≤ v1) → (0 ≤ v1 ∧ v1 < 48) ∧ inR (v1 + 1) ∧ AWs mX3_countEnds 2 [(0, vR m), (1, vI (v1 + 1))] [] S (up2 σ (m + 11) v1.toNat 0) Q)) : AWs mX3_countEnds 2 [(0, vR m), (1, vI v1)] [] S σ Q := by
  refine r_iload_n dX3_countEnds_2 rfl ?_
  refine r_aload_n dX3_countEnds_3 rfl ?_
  refine r_getRv dX3_countEnds_4 fl_X3_12 rfl (kM hS hm) (fM1 hS hm) (Nat.succ_ne_zero _) ?_
  refine r_getIv dX3_countEnds_7 fl_X3_67 rfl (kG hS (isM_E hm)) ?_
  refine r_icmp_ge (tgt := 26) dX3_countEnds_10 rfl (fun h => ?_) (fun h => ?_)
  · have k := k.1 h
    refine r_iconst dX3_countEnds_26 ⟨by decide, by decide⟩ ?_
    refine r_istore_n dX3_countEnds_27 (by decide) rfl rfl ?_
    exact k
  · have k := k.2 h
    refine r_aload_n dX3_countEnds_13 rfl ?_
    refine r_getRv dX3_countEnds_14 fl_X3_28 rfl (kM hS hm) (fM5 hS hm) (Nat.succ_ne_zero _) ?_
    refine r_iload_n dX3_countEnds_17 rfl ?_
    refine r_iconst dX3_countEnds_18 ⟨by decide, by decide⟩ ?_
    obtain ⟨⟨h0, h1⟩, k⟩ := k
    refine r_iast dX3_countEnds_19 (kM11 hS hm) h0 h1 ?_
    obtain ⟨h, k⟩ := k
    refine r_iinc dX3_countEnds_20 rfl (by decide) rfl rfl h ?_
    refine r_goto (tgt := 2) dX3_countEnds_23 rfl ?_
    exact k
theorem t_X3_countEnds_28 {m dr : Nat} {v1 : Int} {S : ShT} {σ : StT} {Q : Int → StT → Prop} (hS : SHP S) (hm : isM m dr) (k : inR (2 * (σ dr 2)) ∧ ((2 * (σ dr 2) ≤ v1 → Q 0 σ) ∧ (¬ (2 * (σ dr 2) ≤ v1) → WPs mX3_of [vR m, vI v1] S σ (fun r47 s47 => (0 ≤ r47 ∧ r47 < 48) ∧ inR ((s47 (m + 11) r47.toNat) + 1) ∧ (0 ≤ r47 ∧ r47 < 48) ∧ inR (v1 + 1) ∧ AWs mX3_countEnds 28 [(0, vR m), (1, vI (v1 + 1))] [] S (up2 s47 (m + 11) r47.toNat ((s47 (m + 11) r47.toNat) + 1)) Q)))) : AWs mX3_countEnds 28 [(0, vR m), (1, vI v1)] [] S σ Q := by
  refine r_iload_n dX3_countEnds_28 rfl ?_
  refine r_iconst dX3_countEnds_29 ⟨by decide, by decide⟩ ?_
  refine r_aload_n dX3_countEnds_30 rfl ?_
  refine r_getRv dX3_countEnds_31 fl_X3_34 rfl (kM hS hm) (fM0 hS hm) (isM_0 hm) ?_
  refine r_getIv dX3_countEnds_34 fl_X3_51 rfl (kD hS (isM_D hm)) ?_
  obtain ⟨h, k⟩ := k
  refine r_imul dX3_countEnds_37 h ?_
  refine r_icmp_ge (tgt := 61) dX3_countEnds_38 rfl (fun h => ?_) (fun h => ?_)
  · have k := k.1 h
    exact s_vret dX3_countEnds_61 rfl k
  · have k := k.2 h
    refine r_aload_n dX3_countEnds_41 rfl ?_
    refine r_getRv dX3_countEnds_42 fl_X3_28 rfl (kM hS hm) (fM5 hS hm) (Nat.succ_ne_zero _) ?_
    refine r_aload_n dX3_countEnds_45 rfl ?_
    refine r_iload_n dX3_countEnds_46 rfl ?_
    refine s_callVv (z := mX3_of) [vI v1] dX3_countEnds_47 mv_X3_of lk_X3_89 rfl (by decide) (kM hS hm) (Nat.le_of_ble_eq_true rfl) (WPs.mono k (fun r47 s47 k => ?_))
    refine r_dup2 dX3_countEnds_50 rfl rfl ?_
    obtain ⟨⟨h0, h1⟩, k⟩ := k
    refine r_iald dX3_countEnds_51 (Or.inl (kM11 hS hm)) h0 h1 ?_
    refine r_iconst dX3_countEnds_52 ⟨by decide, by decide⟩ ?_
    obtain ⟨h, k⟩ := k
    refine r_iadd dX3_countEnds_53 h ?_
    obtain ⟨⟨h0, h1⟩, k⟩ := k
    refine r_iast dX3_countEnds_54 (kM11 hS hm) h0 h1 ?_
    obtain ⟨h, k⟩ := k
    refine r_iinc dX3_countEnds_55 rfl (by decide) rfl rfl h ?_
    refine r_goto (tgt := 28) dX3_countEnds_58 rfl ?_
    exact k
theorem e_X3_countOdds {m dr : Nat} {S : ShT} {σ : StT} {Q : Int → StT → Prop} (hS : SHP S) (hm : isM m dr) (k : AWs mX3_countOdds 2 [(0, vR m), (1, vI 0)] [] S σ Q) : WPs mX3_countOdds [vR m] S σ Q := by
  refine s_entry (by decide) (Nat.le_of_ble_eq_true rfl) rfl rfl ?_
  refine r_iconst dX3_countOdds_0 ⟨by decide, by decide⟩ ?_
  refine r_istore_n dX3_countOdds_1 (by decide) rfl rfl ?_
  exact k
theorem t_X3_countOdds_2 {m dr : Nat} {v1 : Int} {S : ShT} {σ : StT} {Q : Int → StT → Prop} (hS : SHP S) (hm : isM m dr) (k : (σ (m + 5) 2 ≤ v1 → AWs mX3_countOdds 28 [(0, vR m), (1, vI 0)] [] S σ Q) ∧ (¬ (σ (m + 5) 2 ≤ v1) → (0 ≤ v1 ∧ v1 < 48) ∧ inR (v1 + 1) ∧ AWs mX3_countOdds 2 [(0, vR m), (1, vI (v1 + 1))] [] S (up2 σ (m + 12) v1.toNat 0) Q)) : AWs mX3_countOdds 2 [(0, vR m), (1, vI v1)] [] S σ Q := by
  refine r_iload_n dX3_countOdds_2 rfl ?_
  refine r_aload_n dX3_countOdds_3 rfl ?_
  refine r_getRv dX3_countOdds_4 fl_X3_18 rfl (kM hS hm) (fM2 hS hm) (Nat.succ_ne_zero _) ?_
  refine r_getIv dX3_countOdds_7 fl_X3_67 rfl (kG hS (isM_K hm)) ?_
  refine r_icmp_ge (tgt := 26) dX3_countOdds_10 rfl (fun h => ?_) (fun h => ?_)
  · have k := k.1 h
    refine r_iconst dX3_countOdds_26 ⟨by decide, by decide⟩ ?_
    refine r_istore_n dX3_countOdds_27 (by decide) rfl rfl ?_
    exact k
  · have k := k.2 h
    refine r_aload_n dX3_countOdds_13 rfl ?_
    refine r_getRv dX3_countOdds_14 fl_X3_31 rfl (kM hS hm) (fM6 hS hm) (Nat.succ_ne_zero _) ?_
    refine r_iload_n dX3_countOdds_17 rfl ?_
    refine r_iconst dX3_countOdds_18 ⟨by decide, by decide⟩ ?_
    obtain ⟨⟨h0, h1⟩, k⟩ := k
    refine r_iast dX3_countOdds_19 (kM12 hS hm) h0 h1 ?_
    obtain ⟨h, k⟩ := k
    refine r_iinc dX3_countOdds_20 rfl (by decide) rfl rfl h ?_
    refine r_goto (tgt := 2) dX3_countOdds_23 rfl ?_
    exact k
theorem t_X3_countOdds_28 {m dr : Nat} {v1 : Int} {S : ShT} {σ : StT} {Q : Int → StT → Prop} (hS : SHP S) (hm : isM m dr) (k : (σ (m + 1) 2 ≤ v1 → Q 0 σ) ∧ (¬ (σ (m + 1) 2 ≤ v1) → WPs mX3_isOdd [vR m, vI v1] S σ (fun r41 s41 => (r41 = 0 → inR (v1 + 1) ∧ AWs mX3_countOdds 28 [(0, vR m), (1, vI (v1 + 1))] [] S s41 Q) ∧ (¬ (r41 = 0) → WPs mX3_partOf [vR m, vI v1] S s41 (fun r53 s53 => (0 ≤ r53 ∧ r53 < 48) ∧ inR ((s53 (m + 12) r53.toNat) + 1) ∧ (0 ≤ r53 ∧ r53 < 48) ∧ inR (v1 + 1) ∧ AWs mX3_countOdds 28 [(0, vR m), (1, vI (v1 + 1))] [] S (up2 s53 (m + 12) r53.toNat ((s53 (m + 12) r53.toNat) + 1)) Q))))) : AWs mX3_countOdds 28 [(0, vR m), (1, vI v1)] [] S σ Q := by
  refine r_iload_n dX3_countOdds_28 rfl ?_
  refine r_aload_n dX3_countOdds_29 rfl ?_
  refine r_getRv dX3_countOdds_30 fl_X3_12 rfl (kM hS hm) (fM1 hS hm) (Nat.succ_ne_zero _) ?_
  refine r_getIv dX3_countOdds_33 fl_X3_67 rfl (kG hS (isM_E hm)) ?_
  refine r_icmp_ge (tgt := 67) dX3_countOdds_36 rfl (fun h => ?_) (fun h => ?_)
  · have k := k.1 h
    exact s_vret dX3_countOdds_67 rfl k
  · have k := k.2 h
    refine r_aload_n dX3_countOdds_39 rfl ?_
    refine r_iload_n dX3_countOdds_40 rfl ?_
    refine s_callVv (z := mX3_isOdd) [vI v1] dX3_countOdds_41 mv_X3_isOdd lk_X3_92 rfl (by decide) (kM hS hm) (Nat.le_of_ble_eq_true rfl) (WPs.mono k (fun r41 s41 k => ?_))
    refine r_if_eq (tgt := 61) dX3_countOdds_44 rfl (fun h => ?_) (fun h => ?_)
    · have k := k.1 h
      obtain ⟨h, k⟩ := k
      refine r_iinc dX3_countOdds_61 rfl (by decide) rfl rfl h ?_
      refine r_goto (tgt := 28) dX3_countOdds_64 rfl ?_
      exact k
    · have k := k.2 h
      refine r_aload_n dX3_countOdds_47 rfl ?_
      refine r_getRv dX3_countOdds_48 fl_X3_31 rfl (kM hS hm) (fM6 hS hm) (Nat.succ_ne_zero _) ?_
      refine r_aload_n dX3_countOdds_51 rfl ?_
      refine r_iload_n dX3_countOdds_52 rfl ?_
      refine s_callVv (z := mX3_partOf) [vI v1] dX3_countOdds_53 mv_X3_partOf lk_X3_96 rfl (by decide) (kM hS hm) (Nat.le_of_ble_eq_true rfl) (WPs.mono k (fun r53 s53 k => ?_))
      refine r_dup2 dX3_countOdds_56 rfl rfl ?_
      obtain ⟨⟨h0, h1⟩, k⟩ := k
      refine r_iald dX3_countOdds_57 (Or.inl (kM12 hS hm)) h0 h1 ?_
      refine r_iconst dX3_countOdds_58 ⟨by decide, by decide⟩ ?_
      obtain ⟨h, k⟩ := k
      refine r_iadd dX3_countOdds_59 h ?_
      obtain ⟨⟨h0, h1⟩, k⟩ := k
      refine r_iast dX3_countOdds_60 (kM12 hS hm) h0 h1 ?_
      obtain ⟨h, k⟩ := k
      refine r_iinc dX3_countOdds_61 rfl (by decide) rfl rfl h ?_
      refine r_goto (tgt := 28) dX3_countOdds_64 rfl ?_
      exact k
theorem e_X3_count {m dr : Nat} {S : ShT} {σ : StT} {Q : Int → StT → Prop} (hS : SHP S) (hm : isM m dr) (k : Q (σ (m + 1) 2) σ) : WPs mX3_count [vR m] S σ Q := by
  refine s_entry (by decide) (Nat.le_of_ble_eq_true rfl) rfl rfl ?_
  refine r_aload_n dX3_count_0 rfl ?_
  refine r_getRv dX3_count_1 fl_X3_12 rfl (kM hS hm) (fM1 hS hm) (Nat.succ_ne_zero _) ?_
  refine r_getIv dX3_count_4 fl_X3_67 rfl (kG hS (isM_E hm)) ?_
  exact s_iret dX3_count_7 rfl k
theorem e_X3_parts {m dr : Nat} {S : ShT} {σ : StT} {Q : Int → StT → Prop} (hS : SHP S) (hm : isM m dr) (k : Q (σ (m + 5) 2) σ) : WPs mX3_parts [vR m] S σ Q := by
  refine s_entry (by decide) (Nat.le_of_ble_eq_true rfl) rfl rfl ?_
  refine r_aload_n dX3_parts_0 rfl ?_
  refine r_getRv dX3_parts_1 fl_X3_18 rfl (kM hS hm) (fM2 hS hm) (Nat.succ_ne_zero _) ?_
  refine r_getIv dX3_parts_4 fl_X3_67 rfl (kG hS (isM_K hm)) ?_
  exact s_iret dX3_parts_7 rfl k
theorem e_X3_of {m dr : Nat} {v1 : Int} {S : ShT} {σ : StT} {Q : Int → StT → Prop} (hS : SHP S) (hm : isM m dr) (k : (0 ≤ v1 ∧ v1 < 48) ∧ Q (σ (m + 1 + 1) v1.toNat) σ) : WPs mX3_of [vR m, vI v1] S σ Q := by
  refine s_entry (by decide) (Nat.le_of_ble_eq_true rfl) rfl rfl ?_
  refine r_aload_n dX3_of_0 rfl ?_
  refine r_getRv dX3_of_1 fl_X3_12 rfl (kM hS hm) (fM1 hS hm) (Nat.succ_ne_zero _) ?_
  refine r_getRv dX3_of_4 fl_X3_99 rfl (kG hS (isM_E hm)) (fG1 hS (isM_E hm)) (Nat.succ_ne_zero _) ?_
  refine r_iload_n dX3_of_7 rfl ?_
  obtain ⟨⟨h0, h1⟩, k⟩ := k
  refine r_iald dX3_of_8 (Or.inl (kG1 hS (isM_E hm))) h0 h1 ?_
  exact s_iret dX3_of_9 rfl k
theorem e_X3_firstEnd {m dr : Nat} {v1 : Int} {S : ShT} {σ : StT} {Q : Int → StT → Prop} (hS : SHP S) (hm : isM m dr) (k : (0 ≤ v1 ∧ v1 < 48) ∧ Q (σ (m + 1 + 2) v1.toNat) σ) : WPs mX3_firstEnd [vR m, vI v1] S σ Q := by
  refine s_entry (by decide) (Nat.le_of_ble_eq_true rfl) rfl rfl ?_
  refine r_aload_n dX3_firstEnd_0 rfl ?_
  refine r_getRv dX3_firstEnd_1 fl_X3_12 rfl (kM hS hm) (fM1 hS hm) (Nat.succ_ne_zero _) ?_
  refine r_getRv dX3_firstEnd_4 fl_X3_73 rfl (kG hS (isM_E hm)) (fG2 hS (isM_E hm)) (Nat.succ_ne_zero _) ?_
  refine r_iload_n dX3_firstEnd_7 rfl ?_
  obtain ⟨⟨h0, h1⟩, k⟩ := k
  refine r_iald dX3_firstEnd_8 (Or.inl (kG2 hS (isM_E hm))) h0 h1 ?_
  exact s_iret dX3_firstEnd_9 rfl k
theorem e_X3_partOf {m dr : Nat} {v1 : Int} {S : ShT} {σ : StT} {Q : Int → StT → Prop} (hS : SHP S) (hm : isM m dr) (k : (0 ≤ v1 ∧ v1 < 48) ∧ Q (σ (m + 5 + 1) v1.toNat) σ) : WPs mX3_partOf [vR m, vI v1] S σ Q := by
  refine s_entry (by decide) (Nat.le_of_ble_eq_true rfl) rfl rfl ?_
  refine r_aload_n dX3_partOf_0 rfl ?_
  refine r_getRv dX3_partOf_1 fl_X3_18 rfl (kM hS hm) (fM2 hS hm) (Nat.succ_ne_zero _) ?_
  refine r_getRv dX3_partOf_4 fl_X3_99 rfl (kG hS (isM_K hm)) (fG1 hS (isM_K hm)) (Nat.succ_ne_zero _) ?_
  refine r_iload_n dX3_partOf_7 rfl ?_
  obtain ⟨⟨h0, h1⟩, k⟩ := k
  refine r_iald dX3_partOf_8 (Or.inl (kG1 hS (isM_K hm))) h0 h1 ?_
  exact s_iret dX3_partOf_9 rfl k
theorem e_X3_firstMeeting {m dr : Nat} {v1 : Int} {S : ShT} {σ : StT} {Q : Int → StT → Prop} (hS : SHP S) (hm : isM m dr) (k : (0 ≤ v1 ∧ v1 < 48) ∧ Q (σ (m + 5 + 2) v1.toNat) σ) : WPs mX3_firstMeeting [vR m, vI v1] S σ Q := by
  refine s_entry (by decide) (Nat.le_of_ble_eq_true rfl) rfl rfl ?_
  refine r_aload_n dX3_firstMeeting_0 rfl ?_
  refine r_getRv dX3_firstMeeting_1 fl_X3_18 rfl (kM hS hm) (fM2 hS hm) (Nat.succ_ne_zero _) ?_
  refine r_getRv dX3_firstMeeting_4 fl_X3_73 rfl (kG hS (isM_K hm)) (fG2 hS (isM_K hm)) (Nat.succ_ne_zero _) ?_
  refine r_iload_n dX3_firstMeeting_7 rfl ?_
  obtain ⟨⟨h0, h1⟩, k⟩ := k
  refine r_iald dX3_firstMeeting_8 (Or.inl (kG2 hS (isM_K hm))) h0 h1 ?_
  exact s_iret dX3_firstMeeting_9 rfl k
theorem e_X3_isOdd {m dr : Nat} {v1 : Int} {S : ShT} {σ : StT} {Q : Int → StT → Prop} (hS : SHP S) (hm : isM m dr) (k : (0 ≤ v1 ∧ v1 < 48) ∧ 0 ≤ σ (m + 11) v1.toNat ∧ ((¬ (σ (m + 11) v1.toNat) % 2 = 1 → Q 0 σ) ∧ ((σ (m + 11) v1.toNat) % 2 = 1 → Q 1 σ))) : WPs mX3_isOdd [vR m, vI v1] S σ Q := by
  refine s_entry (by decide) (Nat.le_of_ble_eq_true rfl) rfl rfl ?_
  refine r_aload_n dX3_isOdd_0 rfl ?_
  refine r_getRv dX3_isOdd_1 fl_X3_28 rfl (kM hS hm) (fM5 hS hm) (Nat.succ_ne_zero _) ?_
  refine r_iload_n dX3_isOdd_4 rfl ?_
  obtain ⟨⟨h0, h1⟩, k⟩ := k
  refine r_iald dX3_isOdd_5 (Or.inl (kM11 hS hm)) h0 h1 ?_
  refine r_iconst dX3_isOdd_6 ⟨by decide, by decide⟩ ?_
  obtain ⟨h, k⟩ := k
  refine r_irem dX3_isOdd_7 h (by decide) ?_
  refine r_iconst dX3_isOdd_8 ⟨by decide, by decide⟩ ?_
  refine r_icmp_ne (tgt := 16) dX3_isOdd_9 rfl (fun h => ?_) (fun h => ?_)
  · have k := k.1 h
    refine r_iconst dX3_isOdd_16 ⟨by decide, by decide⟩ ?_
    exact s_zret dX3_isOdd_17 rfl (by decide) k
  · have k := k.2 h
    refine r_iconst dX3_isOdd_12 ⟨by decide, by decide⟩ ?_
    refine r_goto (tgt := 17) dX3_isOdd_13 rfl ?_
    exact s_zret dX3_isOdd_17 rfl (by decide) k
theorem e_X3_xOf {m dr : Nat} {v1 : Int} {S : ShT} {σ : StT} {Q : Int → StT → Prop} (hS : SHP S) (hm : isM m dr) (k : (¬ v1 = -1 → (0 ≤ v1 ∧ v1 < 48) ∧ Q (σ (m + 9) v1.toNat) σ) ∧ (v1 = -1 → Q (σ dr 5) σ)) : WPs mX3_xOf [vR m, vI v1] S σ Q := by
  refine s_entry (by decide) (Nat.le_of_ble_eq_true rfl) rfl rfl ?_
  refine r_iload_n dX3_xOf_0 rfl ?_
  refine r_iconst dX3_xOf_1 ⟨by decide, by decide⟩ ?_
  refine r_icmp_ne (tgt := 15) dX3_xOf_2 rfl (fun h => ?_) (fun h => ?_)
  · have k := k.1 h
    refine r_aload_n dX3_xOf_15 rfl ?_
    refine r_getRv dX3_xOf_16 fl_X3_21 rfl (kM hS hm) (fM3 hS hm) (Nat.succ_ne_zero _) ?_
    refine r_iload_n dX3_xOf_19 rfl ?_
    obtain ⟨⟨h0, h1⟩, k⟩ := k
    refine r_iald dX3_xOf_20 (Or.inl (kM9 hS hm)) h0 h1 ?_
    exact s_iret dX3_xOf_21 rfl k
  · have k := k.2 h
    refine r_aload_n dX3_xOf_5 rfl ?_
    refine r_getRv dX3_xOf_6 fl_X3_34 rfl (kM hS hm) (fM0 hS hm) (isM_0 hm) ?_
    refine r_getIv dX3_xOf_9 fl_X3_102 rfl (kD hS (isM_D hm)) ?_
    refine r_goto (tgt := 21) dX3_xOf_12 rfl ?_
    exact s_iret dX3_xOf_21 rfl k
theorem e_X3_yOf {m dr : Nat} {v1 : Int} {S : ShT} {σ : StT} {Q : Int → StT → Prop} (hS : SHP S) (hm : isM m dr) (k : (¬ v1 = -1 → (0 ≤ v1 ∧ v1 < 48) ∧ Q (σ (m + 10) v1.toNat) σ) ∧ (v1 = -1 → Q (σ dr 6) σ)) : WPs mX3_yOf [vR m, vI v1] S σ Q := by
  refine s_entry (by decide) (Nat.le_of_ble_eq_true rfl) rfl rfl ?_
  refine r_iload_n dX3_yOf_0 rfl ?_
  refine r_iconst dX3_yOf_1 ⟨by decide, by decide⟩ ?_
  refine r_icmp_ne (tgt := 15) dX3_yOf_2 rfl (fun h => ?_) (fun h => ?_)
  · have k := k.1 h
    refine r_aload_n dX3_yOf_15 rfl ?_
    refine r_getRv dX3_yOf_16 fl_X3_25 rfl (kM hS hm) (fM4 hS hm) (Nat.succ_ne_zero _) ?_
    refine r_iload_n dX3_yOf_19 rfl ?_
    obtain ⟨⟨h0, h1⟩, k⟩ := k
    refine r_iald dX3_yOf_20 (Or.inl (kM10 hS hm)) h0 h1 ?_
    exact s_iret dX3_yOf_21 rfl k
  · have k := k.2 h
    refine r_aload_n dX3_yOf_5 rfl ?_
    refine r_getRv dX3_yOf_6 fl_X3_34 rfl (kM hS hm) (fM0 hS hm) (isM_0 hm) ?_
    refine r_getIv dX3_yOf_9 fl_X3_105 rfl (kD hS (isM_D hm)) ?_
    refine r_goto (tgt := 21) dX3_yOf_12 rfl ?_
    exact s_iret dX3_yOf_21 rfl k
theorem e_X3_apart {m dr : Nat} {v1 v2 : Int} {S : ShT} {σ : StT} {Q : Int → StT → Prop} (hS : SHP S) (hm : isM m dr) (k : WPs mX3_xOf [vR m, vI v1] S σ (fun r2 s2 => WPs mX3_xOf [vR m, vI v2] S s2 (fun r7 s7 => inR (r2 - r7) ∧ inR (-(r2 - r7)) ∧ WPs mX3_yOf [vR m, vI v1] S s7 (fun r16 s16 => WPs mX3_yOf [vR m, vI v2] S s16 (fun r21 s21 => inR (r16 - r21) ∧ inR (-(r16 - r21)) ∧ inR ((iab (r2 - r7)) + (iab (r16 - r21))) ∧ Q ((iab (r2 - r7)) + (iab (r16 - r21))) s21))))) : WPs mX3_apart [vR m, vI v1, vI v2] S σ Q := by
  refine s_entry (by decide) (Nat.le_of_ble_eq_true rfl) rfl rfl ?_
  refine r_aload_n dX3_apart_0 rfl ?_
  refine r_iload_n dX3_apart_1 rfl ?_
  refine s_callVv (z := mX3_xOf) [vI v1] dX3_apart_2 mv_X3_xOf lk_X3_108 rfl (by decide) (kM hS hm) (Nat.le_of_ble_eq_true rfl) (WPs.mono k (fun r2 s2 k => ?_))
  refine r_aload_n dX3_apart_5 rfl ?_
  refine r_iload_n dX3_apart_6 rfl ?_
  refine s_callVv (z := mX3_xOf) [vI v2] dX3_apart_7 mv_X3_xOf lk_X3_108 rfl (by decide) (kM hS hm) (Nat.le_of_ble_eq_true rfl) (WPs.mono k (fun r7 s7 k => ?_))
  obtain ⟨h, k⟩ := k
  refine r_isub dX3_apart_10 h ?_
  obtain ⟨h, k⟩ := k
  refine r_mabs dX3_apart_11 lk_X3_79 (by decide) (Nat.le_of_ble_eq_true rfl) h ?_
  refine r_aload_n dX3_apart_14 rfl ?_
  refine r_iload_n dX3_apart_15 rfl ?_
  refine s_callVv (z := mX3_yOf) [vI v1] dX3_apart_16 mv_X3_yOf lk_X3_111 rfl (by decide) (kM hS hm) (Nat.le_of_ble_eq_true rfl) (WPs.mono k (fun r16 s16 k => ?_))
  refine r_aload_n dX3_apart_19 rfl ?_
  refine r_iload_n dX3_apart_20 rfl ?_
  refine s_callVv (z := mX3_yOf) [vI v2] dX3_apart_21 mv_X3_yOf lk_X3_111 rfl (by decide) (kM hS hm) (Nat.le_of_ble_eq_true rfl) (WPs.mono k (fun r21 s21 k => ?_))
  obtain ⟨h, k⟩ := k
  refine r_isub dX3_apart_24 h ?_
  obtain ⟨h, k⟩ := k
  refine r_mabs dX3_apart_25 lk_X3_79 (by decide) (Nat.le_of_ble_eq_true rfl) h ?_
  obtain ⟨h, k⟩ := k
  refine r_iadd dX3_apart_28 h ?_
  exact s_iret dX3_apart_29 rfl k
theorem e_X3_meetingsIn {m dr : Nat} {v1 : Int} {S : ShT} {σ : StT} {Q : Int → StT → Prop} (hS : SHP S) (hm : isM m dr) (k : AWs mX3_meetingsIn 4 [(0, vR m), (1, vI v1), (2, vI 0), (3, vI 0)] [] S σ Q) : WPs mX3_meetingsIn [vR m, vI v1] S σ Q := by
  refine s_entry (by decide) (Nat.le_of_ble_eq_true rfl) rfl rfl ?_
  refine r_iconst dX3_meetingsIn_0 ⟨by decide, by decide⟩ ?_
  refine r_istore_n dX3_meetingsIn_1 (by decide) rfl rfl ?_
  refine r_iconst dX3_meetingsIn_2 ⟨by decide, by decide⟩ ?_
  refine r_istore_n dX3_meetingsIn_3 (by decide) rfl rfl ?_
  exact k
theorem t_X3_meetingsIn_4 {m dr : Nat} {v1 v2 v3 : Int} {S : ShT} {σ : StT} {Q : Int → StT → Prop} (hS : SHP S) (hm : isM m dr) (k : (σ (m + 1) 2 ≤ v3 → Q v2 σ) ∧ (¬ (σ (m + 1) 2 ≤ v3) → WPs mX3_partOf [vR m, vI v3] S σ (fun r17 s17 => (¬ r17 = v1 → inR (v3 + 1) ∧ AWs mX3_meetingsIn 4 [(0, vR m), (1, vI v1), (2, vI v2), (3, vI (v3 + 1))] [] S s17 Q) ∧ (r17 = v1 → inR (v2 + 1) ∧ inR (v3 + 1) ∧ AWs mX3_meetingsIn 4 [(0, vR m), (1, vI v1), (2, vI (v2 + 1)), (3, vI (v3 + 1))] [] S s17 Q)))) : AWs mX3_meetingsIn 4 [(0, vR m), (1, vI v1), (2, vI v2), (3, vI v3)] [] S σ Q := by
  refine r_iload_n dX3_meetingsIn_4 rfl ?_
  refine r_aload_n dX3_meetingsIn_5 rfl ?_
  refine r_getRv dX3_meetingsIn_6 fl_X3_12 rfl (kM hS hm) (fM1 hS hm) (Nat.succ_ne_zero _) ?_
  refine r_getIv dX3_meetingsIn_9 fl_X3_67 rfl (kG hS (isM_E hm)) ?_
  refine r_icmp_ge (tgt := 33) dX3_meetingsIn_12 rfl (fun h => ?_) (fun h => ?_)
  · have k := k.1 h
    refine r_iload_n dX3_meetingsIn_33 rfl ?_
    exact s_iret dX3_meetingsIn_34 rfl k
  · have k := k.2 h
    refine r_aload_n dX3_meetingsIn_15 rfl ?_
    refine r_iload_n dX3_meetingsIn_16 rfl ?_
    refine s_callVv (z := mX3_partOf) [vI v3] dX3_meetingsIn_17 mv_X3_partOf lk_X3_96 rfl (by decide) (kM hS hm) (Nat.le_of_ble_eq_true rfl) (WPs.mono k (fun r17 s17 k => ?_))
    refine r_iload_n dX3_meetingsIn_20 rfl ?_
    refine r_icmp_ne (tgt := 27) dX3_meetingsIn_21 rfl (fun h => ?_) (fun h => ?_)
    · have k := k.1 h
      obtain ⟨h, k⟩ := k
      refine r_iinc dX3_meetingsIn_27 rfl (by decide) rfl rfl h ?_
      refine r_goto (tgt := 4) dX3_meetingsIn_30 rfl ?_
      exact k
    · have k := k.2 h
      obtain ⟨h, k⟩ := k
      refine r_iinc dX3_meetingsIn_24 rfl (by decide) rfl rfl h ?_
      obtain ⟨h, k⟩ := k
      refine r_iinc dX3_meetingsIn_27 rfl (by decide) rfl rfl h ?_
      refine r_goto (tgt := 4) dX3_meetingsIn_30 rfl ?_
      exact k
theorem e_X3_strokesIn {m dr : Nat} {v1 : Int} {S : ShT} {σ : StT} {Q : Int → StT → Prop} (hS : SHP S) (hm : isM m dr) (k : AWs mX3_strokesIn 4 [(0, vR m), (1, vI v1), (2, vI 0), (3, vI 0)] [] S σ Q) : WPs mX3_strokesIn [vR m, vI v1] S σ Q := by
  refine s_entry (by decide) (Nat.le_of_ble_eq_true rfl) rfl rfl ?_
  refine r_iconst dX3_strokesIn_0 ⟨by decide, by decide⟩ ?_
  refine r_istore_n dX3_strokesIn_1 (by decide) rfl rfl ?_
  refine r_iconst dX3_strokesIn_2 ⟨by decide, by decide⟩ ?_
  refine r_istore_n dX3_strokesIn_3 (by decide) rfl rfl ?_
  exact k
theorem t_X3_strokesIn_4 {m dr : Nat} {v1 v2 v3 : Int} {S : ShT} {σ : StT} {Q : Int → StT → Prop} (hS : SHP S) (hm : isM m dr) (k : (σ dr 2 ≤ v3 → Q v2 σ) ∧ (¬ (σ dr 2 ≤ v3) → inR (2 * v3) ∧ WPs mX3_of [vR m, vI (2 * v3)] S σ (fun r20 s20 => WPs mX3_partOf [vR m, vI r20] S s20 (fun r23 s23 => (¬ r23 = v1 → inR (v3 + 1) ∧ AWs mX3_strokesIn 4 [(0, vR m), (1, vI v1), (2, vI v2), (3, vI (v3 + 1))] [] S s23 Q) ∧ (r23 = v1 → inR (v2 + 1) ∧ inR (v3 + 1) ∧ AWs mX3_strokesIn 4 [(0, vR m), (1, vI v1), (2, vI (v2 + 1)), (3, vI (v3 + 1))] [] S s23 Q))))) : AWs mX3_strokesIn 4 [(0, vR m), (1, vI v1), (2, vI v2), (3, vI v3)] [] S σ Q := by
  refine r_iload_n dX3_strokesIn_4 rfl ?_
  refine r_aload_n dX3_strokesIn_5 rfl ?_
  refine r_getRv dX3_strokesIn_6 fl_X3_34 rfl (kM hS hm) (fM0 hS hm) (isM_0 hm) ?_
  refine r_getIv dX3_strokesIn_9 fl_X3_51 rfl (kD hS (isM_D hm)) ?_
  refine r_icmp_ge (tgt := 39) dX3_strokesIn_12 rfl (fun h => ?_) (fun h => ?_)
  · have k := k.1 h
    refine r_iload_n dX3_strokesIn_39 rfl ?_
    exact s_iret dX3_strokesIn_40 rfl k
  · have k := k.2 h
    refine r_aload_n dX3_strokesIn_15 rfl ?_
    refine r_aload_n dX3_strokesIn_16 rfl ?_
    refine r_iconst dX3_strokesIn_17 ⟨by decide, by decide⟩ ?_
    refine r_iload_n dX3_strokesIn_18 rfl ?_
    obtain ⟨h, k⟩ := k
    refine r_imul dX3_strokesIn_19 h ?_
    refine s_callVv (z := mX3_of) [vI (2 * v3)] dX3_strokesIn_20 mv_X3_of lk_X3_89 rfl (by decide) (kM hS hm) (Nat.le_of_ble_eq_true rfl) (WPs.mono k (fun r20 s20 k => ?_))
    refine s_callVv (z := mX3_partOf) [vI r20] dX3_strokesIn_23 mv_X3_partOf lk_X3_96 rfl (by decide) (kM hS hm) (Nat.le_of_ble_eq_true rfl) (WPs.mono k (fun r23 s23 k => ?_))
    refine r_iload_n dX3_strokesIn_26 rfl ?_
    refine r_icmp_ne (tgt := 33) dX3_strokesIn_27 rfl (fun h => ?_) (fun h => ?_)
    · have k := k.1 h
      obtain ⟨h, k⟩ := k
      refine r_iinc dX3_strokesIn_33 rfl (by decide) rfl rfl h ?_
      refine r_goto (tgt := 4) dX3_strokesIn_36 rfl ?_
      exact k
    · have k := k.2 h
      obtain ⟨h, k⟩ := k
      refine r_iinc dX3_strokesIn_30 rfl (by decide) rfl rfl h ?_
      obtain ⟨h, k⟩ := k
      refine r_iinc dX3_strokesIn_33 rfl (by decide) rfl rfl h ?_
      refine r_goto (tgt := 4) dX3_strokesIn_36 rfl ?_
      exact k
theorem e_X3_odds {m dr : Nat} {S : ShT} {σ : StT} {Q : Int → StT → Prop} (hS : SHP S) (hm : isM m dr) (k : AWs mX3_odds 4 [(0, vR m), (1, vI 0), (2, vI 0)] [] S σ Q) : WPs mX3_odds [vR m] S σ Q := by
  refine s_entry (by decide) (Nat.le_of_ble_eq_true rfl) rfl rfl ?_
  refine r_iconst dX3_odds_0 ⟨by decide, by decide⟩ ?_
  refine r_istore_n dX3_odds_1 (by decide) rfl rfl ?_
  refine r_iconst dX3_odds_2 ⟨by decide, by decide⟩ ?_
  refine r_istore_n dX3_odds_3 (by decide) rfl rfl ?_
  exact k
theorem t_X3_odds_4 {m dr : Nat} {v1 v2 : Int} {S : ShT} {σ : StT} {Q : Int → StT → Prop} (hS : SHP S) (hm : isM m dr) (k : (σ (m + 5) 2 ≤ v2 → Q v1 σ) ∧ (¬ (σ (m + 5) 2 ≤ v2) → (0 ≤ v2 ∧ v2 < 48) ∧ inR (v1 + (σ (m + 12) v2.toNat)) ∧ ∀ x23 : Int, x23 = v1 + (σ (m + 12) v2.toNat) → inR (v2 + 1) ∧ AWs mX3_odds 4 [(0, vR m), (1, vI x23), (2, vI (v2 + 1))] [] S σ Q)) : AWs mX3_odds 4 [(0, vR m), (1, vI v1), (2, vI v2)] [] S σ Q := by
  refine r_iload_n dX3_odds_4 rfl ?_
  refine r_aload_n dX3_odds_5 rfl ?_
  refine r_getRv dX3_odds_6 fl_X3_18 rfl (kM hS hm) (fM2 hS hm) (Nat.succ_ne_zero _) ?_
  refine r_getIv dX3_odds_9 fl_X3_67 rfl (kG hS (isM_K hm)) ?_
  refine r_icmp_ge (tgt := 30) dX3_odds_12 rfl (fun h => ?_) (fun h => ?_)
  · have k := k.1 h
    refine r_iload_n dX3_odds_30 rfl ?_
    exact s_iret dX3_odds_31 rfl k
  · have k := k.2 h
    refine r_iload_n dX3_odds_15 rfl ?_
    refine r_aload_n dX3_odds_16 rfl ?_
    refine r_getRv dX3_odds_17 fl_X3_31 rfl (kM hS hm) (fM6 hS hm) (Nat.succ_ne_zero _) ?_
    refine r_iload_n dX3_odds_20 rfl ?_
    obtain ⟨⟨h0, h1⟩, k⟩ := k
    refine r_iald dX3_odds_21 (Or.inl (kM12 hS hm)) h0 h1 ?_
    obtain ⟨h, k⟩ := k
    refine r_iadd dX3_odds_22 h ?_
    refine r_gen (fun x23 hx23 => ?_)
    have k := k x23 hx23
    refine r_istore_n dX3_odds_23 (by decide) rfl rfl ?_
    obtain ⟨h, k⟩ := k
    refine r_iinc dX3_odds_24 rfl (by decide) rfl rfl h ?_
    refine r_goto (tgt := 4) dX3_odds_27 rfl ?_
    exact k
theorem e_X3_trailsIn {m dr : Nat} {v1 : Int} {S : ShT} {σ : StT} {Q : Int → StT → Prop} (hS : SHP S) (hm : isM m dr) (k : (0 ≤ v1 ∧ v1 < 48) ∧ 0 ≤ σ (m + 12) v1.toNat ∧ Q (max 1 ((σ (m + 12) v1.toNat) / 2)) σ) : WPs mX3_trailsIn [vR m, vI v1] S σ Q := by
  refine s_entry (by decide) (Nat.le_of_ble_eq_true rfl) rfl rfl ?_
  refine r_iconst dX3_trailsIn_0 ⟨by decide, by decide⟩ ?_
  refine r_aload_n dX3_trailsIn_1 rfl ?_
  refine r_getRv dX3_trailsIn_2 fl_X3_31 rfl (kM hS hm) (fM6 hS hm) (Nat.succ_ne_zero _) ?_
  refine r_iload_n dX3_trailsIn_5 rfl ?_
  obtain ⟨⟨h0, h1⟩, k⟩ := k
  refine r_iald dX3_trailsIn_6 (Or.inl (kM12 hS hm)) h0 h1 ?_
  refine r_iconst dX3_trailsIn_7 ⟨by decide, by decide⟩ ?_
  obtain ⟨h, k⟩ := k
  refine r_idiv dX3_trailsIn_8 h (by decide) ?_
  refine r_mmax dX3_trailsIn_9 lk_X3_114 (by decide) (Nat.le_of_ble_eq_true rfl) ?_
  exact s_iret dX3_trailsIn_12 rfl k
theorem e_X3_trailsInAll {m dr : Nat} {S : ShT} {σ : StT} {Q : Int → StT → Prop} (hS : SHP S) (hm : isM m dr) (k : AWs mX3_trailsInAll 4 [(0, vR m), (1, vI 0), (2, vI 0)] [] S σ Q) : WPs mX3_trailsInAll [vR m] S σ Q := by
  refine s_entry (by decide) (Nat.le_of_ble_eq_true rfl) rfl rfl ?_
  refine r_iconst dX3_trailsInAll_0 ⟨by decide, by decide⟩ ?_
  refine r_istore_n dX3_trailsInAll_1 (by decide) rfl rfl ?_
  refine r_iconst dX3_trailsInAll_2 ⟨by decide, by decide⟩ ?_
  refine r_istore_n dX3_trailsInAll_3 (by decide) rfl rfl ?_
  exact k
theorem t_X3_trailsInAll_4 {m dr : Nat} {v1 v2 : Int} {S : ShT} {σ : StT} {Q : Int → StT → Prop} (hS : SHP S) (hm : isM m dr) (k : (σ (m + 5) 2 ≤ v2 → Q v1 σ) ∧ (¬ (σ (m + 5) 2 ≤ v2) → WPs mX3_trailsIn [vR m, vI v2] S σ (fun r18 s18 => inR (v1 + r18) ∧ inR (v2 + 1) ∧ AWs mX3_trailsInAll 4 [(0, vR m), (1, vI (v1 + r18)), (2, vI (v2 + 1))] [] S s18 Q))) : AWs mX3_trailsInAll 4 [(0, vR m), (1, vI v1), (2, vI v2)] [] S σ Q := by
  refine r_iload_n dX3_trailsInAll_4 rfl ?_
  refine r_aload_n dX3_trailsInAll_5 rfl ?_
  refine r_getRv dX3_trailsInAll_6 fl_X3_18 rfl (kM hS hm) (fM2 hS hm) (Nat.succ_ne_zero _) ?_
  refine r_getIv dX3_trailsInAll_9 fl_X3_67 rfl (kG hS (isM_K hm)) ?_
  refine r_icmp_ge (tgt := 29) dX3_trailsInAll_12 rfl (fun h => ?_) (fun h => ?_)
  · have k := k.1 h
    refine r_iload_n dX3_trailsInAll_29 rfl ?_
    exact s_iret dX3_trailsInAll_30 rfl k
  · have k := k.2 h
    refine r_iload_n dX3_trailsInAll_15 rfl ?_
    refine r_aload_n dX3_trailsInAll_16 rfl ?_
    refine r_iload_n dX3_trailsInAll_17 rfl ?_
    refine s_callVv (z := mX3_trailsIn) [vI v2] dX3_trailsInAll_18 mv_X3_trailsIn lk_X3_118 rfl (by decide) (kM hS hm) (Nat.le_of_ble_eq_true rfl) (WPs.mono k (fun r18 s18 k => ?_))
    obtain ⟨h, k⟩ := k
    refine r_iadd dX3_trailsInAll_21 h ?_
    refine r_istore_n dX3_trailsInAll_22 (by decide) rfl rfl ?_
    obtain ⟨h, k⟩ := k
    refine r_iinc dX3_trailsInAll_23 rfl (by decide) rfl rfl h ?_
    refine r_goto (tgt := 4) dX3_trailsInAll_26 rfl ?_
    exact k
theorem e_X3_looseOne {m dr : Nat} {v1 : Int} {S : ShT} {σ : StT} {Q : Int → StT → Prop} (hS : SHP S) (hm : isM m dr) (k : AWs mX3_looseOne 4 [(0, vR m), (1, vI v1), (2, vI 0), (3, vI 0)] [] S σ Q) : WPs mX3_looseOne [vR m, vI v1] S σ Q := by
  refine s_entry (by decide) (Nat.le_of_ble_eq_true rfl) rfl rfl ?_
  refine r_iconst dX3_looseOne_0 ⟨by decide, by decide⟩ ?_
  refine r_istore_n dX3_looseOne_1 (by decide) rfl rfl ?_
  refine r_iconst dX3_looseOne_2 ⟨by decide, by decide⟩ ?_
  refine r_istore_n dX3_looseOne_3 (by decide) rfl rfl ?_
  exact k
theorem t_X3_looseOne_4 {m dr : Nat} {v1 v2 v3 : Int} {S : ShT} {σ : StT} {Q : Int → StT → Prop} (hS : SHP S) (hm : isM m dr) (k : (σ (m + 1) 2 ≤ v3 → Q (-1) σ) ∧ (¬ (σ (m + 1) 2 ≤ v3) → (0 ≤ v3 ∧ v3 < 48) ∧ ((¬ σ (m + 11) v3.toNat = 1 → inR (v3 + 1) ∧ AWs mX3_looseOne 4 [(0, vR m), (1, vI v1), (2, vI v2), (3, vI (v3 + 1))] [] S σ Q) ∧ (σ (m + 11) v3.toNat = 1 → (¬ v2 = v1 → inR (v2 + 1) ∧ inR (v3 + 1) ∧ AWs mX3_looseOne 4 [(0, vR m), (1, vI v1), (2, vI (v2 + 1)), (3, vI (v3 + 1))] [] S σ Q) ∧ (v2 = v1 → Q v3 σ))))) : AWs mX3_looseOne 4 [(0, vR m), (1, vI v1), (2, vI v2), (3, vI v3)] [] S σ Q := by
  refine r_iload_n dX3_looseOne_4 rfl ?_
  refine r_aload_n dX3_looseOne_5 rfl ?_
  refine r_getRv dX3_looseOne_6 fl_X3_12 rfl (kM hS hm) (fM1 hS hm) (Nat.succ_ne_zero _) ?_
  refine r_getIv dX3_looseOne_9 fl_X3_67 rfl (kG hS (isM_E hm)) ?_
  refine r_icmp_ge (tgt := 41) dX3_looseOne_12 rfl (fun h => ?_) (fun h => ?_)
  · have k := k.1 h
    refine r_iconst dX3_looseOne_41 ⟨by decide, by decide⟩ ?_
    exact s_iret dX3_looseOne_42 rfl k
  · have k := k.2 h
    refine r_aload_n dX3_looseOne_15 rfl ?_
    refine r_getRv dX3_looseOne_16 fl_X3_28 rfl (kM hS hm) (fM5 hS hm) (Nat.succ_ne_zero _) ?_
    refine r_iload_n dX3_looseOne_19 rfl ?_
    obtain ⟨⟨h0, h1⟩, k⟩ := k
    refine r_iald dX3_looseOne_20 (Or.inl (kM11 hS hm)) h0 h1 ?_
    refine r_iconst dX3_looseOne_21 ⟨by decide, by decide⟩ ?_
    refine r_icmp_ne (tgt := 35) dX3_looseOne_22 rfl (fun h => ?_) (fun h => ?_)
    · have k := k.1 h
      obtain ⟨h, k⟩ := k
      refine r_iinc dX3_looseOne_35 rfl (by decide) rfl rfl h ?_
      refine r_goto (tgt := 4) dX3_looseOne_38 rfl ?_
      exact k
    · have k := k.2 h
      refine r_iload_n dX3_looseOne_25 rfl ?_
      refine r_iload_n dX3_looseOne_26 rfl ?_
      refine r_icmp_ne (tgt := 32) dX3_looseOne_27 rfl (fun h => ?_) (fun h => ?_)
      · have k := k.1 h
        obtain ⟨h, k⟩ := k
        refine r_iinc dX3_looseOne_32 rfl (by decide) rfl rfl h ?_
        obtain ⟨h, k⟩ := k
        refine r_iinc dX3_looseOne_35 rfl (by decide) rfl rfl h ?_
        refine r_goto (tgt := 4) dX3_looseOne_38 rfl ?_
        exact k
      · have k := k.2 h
        refine r_iload_n dX3_looseOne_30 rfl ?_
        exact s_iret dX3_looseOne_31 rfl k
