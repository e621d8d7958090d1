theorem e_X8_strokeOf {v1 v2 : Int} {S : ShT} {σ : StT} {Q : Int → StT → Prop} (hS : SHP S) (k : (0 ≤ v1 ∧ v1 < 24) ∧ inR ((σ 48 v1.toNat) + v2) ∧ (0 ≤ (σ 48 v1.toNat) + v2 ∧ (σ 48 v1.toNat) + v2 < 24) ∧ Q (σ 47 ((σ 48 v1.toNat) + v2).toNat) σ) : WPs mX8_strokeOf [vR 40, vI v1, vI v2] S σ Q := by
  refine s_entry (by decide) (Nat.le_of_ble_eq_true rfl) rfl rfl ?_
  refine r_aload_n dX8_strokeOf_0 rfl ?_
  refine r_getRv dX8_strokeOf_1 fl_X8_34 rfl (k_40 hS) (f_40_10 hS) (by decide) ?_
  refine r_aload_n dX8_strokeOf_4 rfl ?_
  refine r_getRv dX8_strokeOf_5 fl_X8_37 rfl (k_40 hS) (f_40_11 hS) (by decide) ?_
  refine r_iload_n dX8_strokeOf_8 rfl ?_
  obtain ⟨⟨h0, h1⟩, k⟩ := k
  refine r_iald dX8_strokeOf_9 (Or.inl (k_48 hS)) h0 h1 ?_
  refine r_iload_n dX8_strokeOf_10 rfl ?_
  obtain ⟨h, k⟩ := k
  refine r_iadd dX8_strokeOf_11 h ?_
  obtain ⟨⟨h0, h1⟩, k⟩ := k
  refine r_iald dX8_strokeOf_12 (Or.inl (k_47 hS)) h0 h1 ?_
  exact s_iret dX8_strokeOf_13 rfl k
theorem e_X8_gather {S : ShT} {σ : StT} {Q : Int → StT → Prop} (hS : SHP S) (k : AWs mX8_gather 12 [(0, vR 40), (1, vI 0)] [] S (up2 (up2 σ 40 9 0) 40 12 0) Q) : WPs mX8_gather [vR 40] S σ Q := by
  refine s_entry (by decide) (Nat.le_of_ble_eq_true rfl) rfl rfl ?_
  refine r_aload_n dX8_gather_0 rfl ?_
  refine r_iconst dX8_gather_1 ⟨by decide, by decide⟩ ?_
  refine r_putIv dX8_gather_2 fl_X8_30 (fun _ h => by cases h; rfl) (Or.inl rfl) (k_40 hS) ?_
  refine r_aload_n dX8_gather_5 rfl ?_
  refine r_iconst dX8_gather_6 ⟨by decide, by decide⟩ ?_
  refine r_putIv dX8_gather_7 fl_X8_40 (fun _ h => by cases h; rfl) (Or.inl rfl) (k_40 hS) ?_
  refine r_iconst dX8_gather_10 ⟨by decide, by decide⟩ ?_
  refine r_istore_n dX8_gather_11 (by decide) rfl rfl ?_
  exact k
theorem t_X8_gather_12 {v1 : Int} {S : ShT} {σ : StT} {Q : Int → StT → Prop} (hS : SHP S) (k : WPs mX3_parts [vR 7] S σ (fun r17 s17 => (r17 ≤ v1 → Q 0 s17) ∧ (¬ (r17 ≤ v1) → AWs mX8_gather 27 [(0, vR 40), (1, vI v1), (2, vI 0), (3, vI 0)] [] S s17 Q))) : AWs mX8_gather 12 [(0, vR 40), (1, vI v1)] [] S σ Q := by
  refine r_iload_n dX8_gather_12 rfl ?_
  refine r_aload_n dX8_gather_13 rfl ?_
  refine r_getRv dX8_gather_14 fl_X8_54 rfl (k_40 hS) (f_40_1 hS) (by decide) ?_
  refine s_callVv (z := mX3_parts) [] dX8_gather_17 mv_X3_parts lk_X8_62 rfl (by decide) (k_7 hS) (Nat.le_of_ble_eq_true rfl) (WPs.mono k (fun r17 s17 k => ?_))
  refine r_icmp_ge (tgt := 94) dX8_gather_20 rfl (fun h => ?_) (fun h => ?_)
  · have k := k.1 h
    exact s_vret dX8_gather_94 rfl k
  · have k := k.2 h
    refine r_iconst dX8_gather_23 ⟨by decide, by decide⟩ ?_
    refine r_istore_n dX8_gather_24 (by decide) rfl rfl ?_
    refine r_iconst dX8_gather_25 ⟨by decide, by decide⟩ ?_
    refine r_istore_n dX8_gather_26 (by decide) rfl rfl ?_
    exact k
theorem t_X8_gather_27 {v1 v2 v3 : Int} {S : ShT} {σ : StT} {Q : Int → StT → Prop} (hS : SHP S) (k : WPs mX9_waysIn [vR 31, vI v1] S σ (fun r33 s33 => (r33 ≤ v3 → inR (v1 + 1) ∧ AWs mX8_gather 12 [(0, vR 40), (1, vI (v1 + 1))] [] S s33 Q) ∧ (¬ (r33 ≤ v3) → WPs mX9_wayOf [vR 31, vI v1, vI v3] S s33 (fun r45 s45 => WPs mX9_isHop [vI r45] S s45 (fun r52 s52 => (r52 = 0 → (¬ v2 = 0 → WPs mX8_putStroke [vR 40, vI r45] S s52 (fun r77 s77 => inR (v3 + 1) ∧ AWs mX8_gather 27 [(0, vR 40), (1, vI v1), (2, vI 1), (3, vI (v3 + 1))] [] S s77 Q)) ∧ (v2 = 0 → WPs mX8_open [vR 40, vI v1, vI r45] S s52 (fun r71 s71 => WPs mX8_putStroke [vR 40, vI r45] S s71 (fun r77 s77 => inR (v3 + 1) ∧ AWs mX8_gather 27 [(0, vR 40), (1, vI v1), (2, vI 1), (3, vI (v3 + 1))] [] S s77 Q)))) ∧ (¬ (r52 = 0) → inR (v3 + 1) ∧ AWs mX8_gather 27 [(0, vR 40), (1, vI v1), (2, vI 0), (3, vI (v3 + 1))] [] S s52 Q)))))) : AWs mX8_gather 27 [(0, vR 40), (1, vI v1), (2, vI v2), (3, vI v3)] [] S σ Q := by
  refine r_iload_n dX8_gather_27 rfl ?_
  refine r_aload_n dX8_gather_28 rfl ?_
  refine r_getRv dX8_gather_29 fl_X8_58 rfl (k_40 hS) (f_40_2 hS) (by decide) ?_
  refine r_iload_n dX8_gather_32 rfl ?_
  refine s_callVv (z := mX9_waysIn) [vI v1] dX8_gather_33 mv_X9_waysIn lk_X8_68 rfl (by decide) (k_31 hS) (Nat.le_of_ble_eq_true rfl) (WPs.mono k (fun r33 s33 k => ?_))
  refine r_icmp_ge (tgt := 88) dX8_gather_36 rfl (fun h => ?_) (fun h => ?_)
  · have k := k.1 h
    obtain ⟨h, k⟩ := k
    refine r_iinc dX8_gather_88 rfl (by decide) rfl rfl h ?_
    refine r_goto (tgt := 12) dX8_gather_91 rfl ?_
    refine r_loc [0, 1] rfl ?_
    exact k
  · have k := k.2 h
    refine r_aload_n dX8_gather_39 rfl ?_
    refine r_getRv dX8_gather_40 fl_X8_58 rfl (k_40 hS) (f_40_2 hS) (by decide) ?_
    refine r_iload_n dX8_gather_43 rfl ?_
    refine r_iload_n dX8_gather_44 rfl ?_
    refine s_callVv (z := mX9_wayOf) [vI v1, vI v3] dX8_gather_45 mv_X9_wayOf lk_X8_74 rfl (by decide) (k_31 hS) (Nat.le_of_ble_eq_true rfl) (WPs.mono k (fun r45 s45 k => ?_))
    refine r_istore dX8_gather_48 (by decide) rfl rfl ?_
    refine r_iload dX8_gather_50 rfl ?_
    refine s_callS (z := mX9_isHop) [vI r45] dX8_gather_52 ms_X9_isHop lk_X8_78 rfl (by decide) (Nat.le_of_ble_eq_true rfl) (WPs.mono k (fun r52 s52 k => ?_))
    refine r_if_eq (tgt := 63) dX8_gather_55 rfl (fun h => ?_) (fun h => ?_)
    · have k := k.1 h
      refine r_iload_n dX8_gather_63 rfl ?_
      refine r_if_ne (tgt := 74) dX8_gather_64 rfl (fun h => ?_) (fun h => ?_)
      · have k := k.1 h
        refine r_aload_n dX8_gather_74 rfl ?_
        refine r_iload dX8_gather_75 rfl ?_
        refine s_callVv (z := mX8_putStroke) [vI r45] dX8_gather_77 mv_X8_putStroke lk_X8_86 rfl (by decide) (k_40 hS) (Nat.le_of_ble_eq_true rfl) (WPs.mono k (fun r77 s77 k => ?_))
        refine r_iconst dX8_gather_80 ⟨by decide, by decide⟩ ?_
        refine r_istore_n dX8_gather_81 (by decide) rfl rfl ?_
        obtain ⟨h, k⟩ := k
        refine r_iinc dX8_gather_82 rfl (by decide) rfl rfl h ?_
        refine r_goto (tgt := 27) dX8_gather_85 rfl ?_
        refine r_loc [0, 1, 2, 3] rfl ?_
        exact k
      · have k := k.2 h
        refine r_aload_n dX8_gather_67 rfl ?_
        refine r_iload_n dX8_gather_68 rfl ?_
        refine r_iload dX8_gather_69 rfl ?_
        refine s_callVv (z := mX8_open) [vI v1, vI r45] dX8_gather_71 mv_X8_open lk_X8_82 rfl (by decide) (k_40 hS) (Nat.le_of_ble_eq_true rfl) (WPs.mono k (fun r71 s71 k => ?_))
        refine r_aload_n dX8_gather_74 rfl ?_
        refine r_iload dX8_gather_75 rfl ?_
        refine s_callVv (z := mX8_putStroke) [vI r45] dX8_gather_77 mv_X8_putStroke lk_X8_86 rfl (by decide) (k_40 hS) (Nat.le_of_ble_eq_true rfl) (WPs.mono k (fun r77 s77 k => ?_))
        refine r_iconst dX8_gather_80 ⟨by decide, by decide⟩ ?_
        refine r_istore_n dX8_gather_81 (by decide) rfl rfl ?_
        obtain ⟨h, k⟩ := k
        refine r_iinc dX8_gather_82 rfl (by decide) rfl rfl h ?_
        refine r_goto (tgt := 27) dX8_gather_85 rfl ?_
        refine r_loc [0, 1, 2, 3] rfl ?_
        exact k
    · have k := k.2 h
      refine r_iconst dX8_gather_58 ⟨by decide, by decide⟩ ?_
      refine r_istore_n dX8_gather_59 (by decide) rfl rfl ?_
      refine r_goto (tgt := 82) dX8_gather_60 rfl ?_
      obtain ⟨h, k⟩ := k
      refine r_iinc dX8_gather_82 rfl (by decide) rfl rfl h ?_
      refine r_goto (tgt := 27) dX8_gather_85 rfl ?_
      refine r_loc [0, 1, 2, 3] rfl ?_
      exact k
theorem e_X8_open {v1 v2 : Int} {S : ShT} {σ : StT} {Q : Int → StT → Prop} (hS : SHP S) (k : (σ 40 9 < 24 → (0 ≤ σ 40 9 ∧ σ 40 9 < 24) ∧ (0 ≤ σ 40 9 ∧ σ 40 9 < 24) ∧ (0 ≤ σ 40 9 ∧ σ 40 9 < 24) ∧ WPs mX3_of [vR 7, vI v2] S (up2 (up2 (up2 σ 41 (σ 40 9).toNat v1) 42 (σ 40 9).toNat 0) 45 (σ 40 9).toNat 0) (fun r53 s53 => (0 ≤ σ 40 9 ∧ σ 40 9 < 24) ∧ (0 ≤ s53 40 9 ∧ s53 40 9 < 24) ∧ inR ((s53 40 9) + 1) ∧ Q 0 (up2 (up2 (up2 s53 43 (σ 40 9).toNat r53) 48 (s53 40 9).toNat (s53 40 12)) 40 9 ((s53 40 9) + 1)))) ∧ (¬ (σ 40 9 < 24) → Q 0 σ)) : WPs mX8_open [vR 40, vI v1, vI v2] S σ Q := by
  refine s_entry (by decide) (Nat.le_of_ble_eq_true rfl) rfl rfl ?_
  refine r_aload_n dX8_open_0 rfl ?_
  refine r_getIv dX8_open_1 fl_X8_30 rfl (k_40 hS) ?_
  refine r_bipush dX8_open_4 (by decide +kernel) ⟨by decide, by decide⟩ ?_
  refine r_icmp_lt (tgt := 10) dX8_open_6 rfl (fun h => ?_) (fun h => ?_)
  · have k := k.1 h
    refine r_aload_n dX8_open_10 rfl ?_
    refine r_getRv dX8_open_11 fl_X8_9 rfl (k_40 hS) (f_40_3 hS) (by decide) ?_
    refine r_aload_n dX8_open_14 rfl ?_
    refine r_getIv dX8_open_15 fl_X8_30 rfl (k_40 hS) ?_
    refine r_iload_n dX8_open_18 rfl ?_
    obtain ⟨⟨h0, h1⟩, k⟩ := k
    refine r_iast dX8_open_19 (k_41 hS) h0 h1 ?_
    refine r_aload_n dX8_open_20 rfl ?_
    refine r_getRv dX8_open_21 fl_X8_15 rfl (k_40 hS) (f_40_4 hS) (by decide) ?_
    refine r_aload_n dX8_open_24 rfl ?_
    refine r_getIv dX8_open_25 fl_X8_30 rfl (k_40 hS) ?_
    refine r_top (up2_a (by decide)) ?_
    refine r_iconst dX8_open_28 ⟨by decide, by decide⟩ ?_
    obtain ⟨⟨h0, h1⟩, k⟩ := k
    refine r_iast dX8_open_29 (k_42 hS) h0 h1 ?_
    refine r_aload_n dX8_open_30 rfl ?_
    refine r_getRv dX8_open_31 fl_X8_24 rfl (k_40 hS) (f_40_7 hS) (by decide) ?_
    refine r_aload_n dX8_open_34 rfl ?_
    refine r_getIv dX8_open_35 fl_X8_30 rfl (k_40 hS) ?_
    refine r_top ((up2_a (by decide)).trans (up2_a (by decide))) ?_
    refine r_iconst dX8_open_38 ⟨by decide, by decide⟩ ?_
    obtain ⟨⟨h0, h1⟩, k⟩ := k
    refine r_iast dX8_open_39 (k_45 hS) h0 h1 ?_
    refine r_aload_n dX8_open_40 rfl ?_
    refine r_getRv dX8_open_41 fl_X8_18 rfl (k_40 hS) (f_40_5 hS) (by decide) ?_
    refine r_aload_n dX8_open_44 rfl ?_
    refine r_getIv dX8_open_45 fl_X8_30 rfl (k_40 hS) ?_
    refine r_top ((up2_a (by decide)).trans ((up2_a (by decide)).trans (up2_a (by decide)))) ?_
    refine r_aload_n dX8_open_48 rfl ?_
    refine r_getRv dX8_open_49 fl_X8_54 rfl (k_40 hS) (f_40_1 hS) (by decide) ?_
    refine r_iload_n dX8_open_52 rfl ?_
    refine s_callVv (z := mX3_of) [vI v2] dX8_open_53 mv_X3_of lk_X8_90 rfl (by decide) (k_7 hS) (Nat.le_of_ble_eq_true rfl) (WPs.mono k (fun r53 s53 k => ?_))
    obtain ⟨⟨h0, h1⟩, k⟩ := k
    refine r_iast dX8_open_56 (k_43 hS) h0 h1 ?_
    refine r_aload_n dX8_open_57 rfl ?_
    refine r_getRv dX8_open_58 fl_X8_37 rfl (k_40 hS) (f_40_11 hS) (by decide) ?_
    refine r_aload_n dX8_open_61 rfl ?_
    refine r_getIv dX8_open_62 fl_X8_30 rfl (k_40 hS) ?_
    refine r_top (up2_a (by decide)) ?_
    refine r_aload_n dX8_open_65 rfl ?_
    refine r_getIv dX8_open_66 fl_X8_40 rfl (k_40 hS) ?_
    refine r_top (up2_a (by decide)) ?_
    obtain ⟨⟨h0, h1⟩, k⟩ := k
    refine r_iast dX8_open_69 (k_48 hS) h0 h1 ?_
    refine r_aload_n dX8_open_70 rfl ?_
    refine r_dup dX8_open_71 rfl ?_
    refine r_getIv dX8_open_72 fl_X8_30 rfl (k_40 hS) ?_
    refine r_top ((up2_a (by decide)).trans (up2_a (by decide))) ?_
    refine r_iconst dX8_open_75 ⟨by decide, by decide⟩ ?_
    obtain ⟨h, k⟩ := k
    refine r_iadd dX8_open_76 h ?_
    refine r_putIv dX8_open_77 fl_X8_30 (fun _ h => by cases h; rfl) (Or.inl rfl) (k_40 hS) ?_
    exact s_vret dX8_open_80 rfl k
  · have k := k.2 h
    exact s_vret dX8_open_9 rfl k
theorem e_X8_putStroke {v1 : Int} {S : ShT} {σ : StT} {Q : Int → StT → Prop} (hS : SHP S) (k : (σ 40 9 < 1 → Q 0 σ) ∧ (¬ (σ 40 9 < 1) → (σ 40 12 < 24 → inR ((σ 40 9) - 1) ∧ (0 ≤ (σ 40 9) - 1 ∧ (σ 40 9) - 1 < 24) ∧ inR ((σ 42 ((σ 40 9) - 1).toNat) + 1) ∧ (0 ≤ (σ 40 9) - 1 ∧ (σ 40 9) - 1 < 24) ∧ (0 ≤ (σ 40 9) - 1 ∧ (σ 40 9) - 1 < 24) ∧ 0 ≤ v1 ∧ WPs mX0_strokeLength [vR 4, vI (v1 / 2)] S (up2 σ 42 ((σ 40 9) - 1).toNat ((σ 42 ((σ 40 9) - 1).toNat) + 1)) (fun r49 s49 => inR ((σ 45 ((σ 40 9) - 1).toNat) + r49) ∧ (0 ≤ (σ 40 9) - 1 ∧ (σ 40 9) - 1 < 24) ∧ WPs mX3_of [vR 7, vI (iXor v1 1)] S (up2 s49 45 ((σ 40 9) - 1).toNat ((σ 45 ((σ 40 9) - 1).toNat) + r49)) (fun r66 s66 => (0 ≤ (σ 40 9) - 1 ∧ (σ 40 9) - 1 < 24) ∧ 0 ≤ v1 ∧ (0 ≤ v1 / 2 ∧ v1 / 2 < 24) ∧ (0 ≤ s66 40 12 ∧ s66 40 12 < 24) ∧ inR ((s66 40 12) + 1) ∧ Q 0 (up2 (up2 (up2 (up2 s66 44 ((σ 40 9) - 1).toNat r66) 46 (v1 / 2).toNat ((σ 40 9) - 1)) 47 (s66 40 12).toNat v1) 40 12 ((s66 40 12) + 1))))) ∧ (¬ (σ 40 12 < 24) → Q 0 σ))) : WPs mX8_putStroke [vR 40, vI v1] S σ Q := by
  refine s_entry (by decide) (Nat.le_of_ble_eq_true rfl) rfl rfl ?_
  refine r_aload_n dX8_putStroke_0 rfl ?_
  refine r_getIv dX8_putStroke_1 fl_X8_30 rfl (k_40 hS) ?_
  refine r_iconst dX8_putStroke_4 ⟨by decide, by decide⟩ ?_
  refine r_icmp_lt (tgt := 17) dX8_putStroke_5 rfl (fun h => ?_) (fun h => ?_)
  · have k := k.1 h
    exact s_vret dX8_putStroke_17 rfl k
  · have k := k.2 h
    refine r_aload_n dX8_putStroke_8 rfl ?_
    refine r_getIv dX8_putStroke_9 fl_X8_40 rfl (k_40 hS) ?_
    refine r_bipush dX8_putStroke_12 (by decide +kernel) ⟨by decide, by decide⟩ ?_
    refine r_icmp_lt (tgt := 18) dX8_putStroke_14 rfl (fun h => ?_) (fun h => ?_)
    · have k := k.1 h
      refine r_aload_n dX8_putStroke_18 rfl ?_
      refine r_getIv dX8_putStroke_19 fl_X8_30 rfl (k_40 hS) ?_
      refine r_iconst dX8_putStroke_22 ⟨by decide, by decide⟩ ?_
      obtain ⟨h, k⟩ := k
      refine r_isub dX8_putStroke_23 h ?_
      refine r_istore_n dX8_putStroke_24 (by decide) rfl rfl ?_
      refine r_aload_n dX8_putStroke_25 rfl ?_
      refine r_getRv dX8_putStroke_26 fl_X8_15 rfl (k_40 hS) (f_40_4 hS) (by decide) ?_
      refine r_iload_n dX8_putStroke_29 rfl ?_
      refine r_dup2 dX8_putStroke_30 rfl rfl ?_
      obtain ⟨⟨h0, h1⟩, k⟩ := k
      refine r_iald dX8_putStroke_31 (Or.inl (k_42 hS)) h0 h1 ?_
      refine r_iconst dX8_putStroke_32 ⟨by decide, by decide⟩ ?_
      obtain ⟨h, k⟩ := k
      refine r_iadd dX8_putStroke_33 h ?_
      obtain ⟨⟨h0, h1⟩, k⟩ := k
      refine r_iast dX8_putStroke_34 (k_42 hS) h0 h1 ?_
      refine r_aload_n dX8_putStroke_35 rfl ?_
      refine r_getRv dX8_putStroke_36 fl_X8_24 rfl (k_40 hS) (f_40_7 hS) (by decide) ?_
      refine r_iload_n dX8_putStroke_39 rfl ?_
      refine r_dup2 dX8_putStroke_40 rfl rfl ?_
      obtain ⟨⟨h0, h1⟩, k⟩ := k
      refine r_iald dX8_putStroke_41 (Or.inl (k_45 hS)) h0 h1 ?_
      refine r_top (up2_a (by decide)) ?_
      refine r_aload_n dX8_putStroke_42 rfl ?_
      refine r_getRv dX8_putStroke_43 fl_X8_50 rfl (k_40 hS) (f_40_0 hS) (by decide) ?_
      refine r_iload_n dX8_putStroke_46 rfl ?_
      refine r_iconst dX8_putStroke_47 ⟨by decide, by decide⟩ ?_
      obtain ⟨h, k⟩ := k
      refine r_idiv dX8_putStroke_48 h (by decide) ?_
      refine s_callVv (z := mX0_strokeLength) [vI (v1 / 2)] dX8_putStroke_49 mv_X0_strokeLength lk_X8_93 rfl (by decide) (k_4 hS) (Nat.le_of_ble_eq_true rfl) (WPs.mono k (fun r49 s49 k => ?_))
      obtain ⟨h, k⟩ := k
      refine r_iadd dX8_putStroke_52 h ?_
      obtain ⟨⟨h0, h1⟩, k⟩ := k
      refine r_iast dX8_putStroke_53 (k_45 hS) h0 h1 ?_
      refine r_aload_n dX8_putStroke_54 rfl ?_
      refine r_getRv dX8_putStroke_55 fl_X8_21 rfl (k_40 hS) (f_40_6 hS) (by decide) ?_
      refine r_iload_n dX8_putStroke_58 rfl ?_
      refine r_aload_n dX8_putStroke_59 rfl ?_
      refine r_getRv dX8_putStroke_60 fl_X8_54 rfl (k_40 hS) (f_40_1 hS) (by decide) ?_
      refine r_iload_n dX8_putStroke_63 rfl ?_
      refine r_iconst dX8_putStroke_64 ⟨by decide, by decide⟩ ?_
      refine r_ixor dX8_putStroke_65 ?_
      refine s_callVv (z := mX3_of) [vI (iXor v1 1)] dX8_putStroke_66 mv_X3_of lk_X8_90 rfl (by decide) (k_7 hS) (Nat.le_of_ble_eq_true rfl) (WPs.mono k (fun r66 s66 k => ?_))
      obtain ⟨⟨h0, h1⟩, k⟩ := k
      refine r_iast dX8_putStroke_69 (k_44 hS) h0 h1 ?_
      refine r_aload_n dX8_putStroke_70 rfl ?_
      refine r_getRv dX8_putStroke_71 fl_X8_27 rfl (k_40 hS) (f_40_8 hS) (by decide) ?_
      refine r_iload_n dX8_putStroke_74 rfl ?_
      refine r_iconst dX8_putStroke_75 ⟨by decide, by decide⟩ ?_
      obtain ⟨h, k⟩ := k
      refine r_idiv dX8_putStroke_76 h (by decide) ?_
      refine r_iload_n dX8_putStroke_77 rfl ?_
      obtain ⟨⟨h0, h1⟩, k⟩ := k
      refine r_iast dX8_putStroke_78 (k_46 hS) h0 h1 ?_
      refine r_aload_n dX8_putStroke_79 rfl ?_
      refine r_getRv dX8_putStroke_80 fl_X8_34 rfl (k_40 hS) (f_40_10 hS) (by decide) ?_
      refine r_aload_n dX8_putStroke_83 rfl ?_
      refine r_getIv dX8_putStroke_84 fl_X8_40 rfl (k_40 hS) ?_
      refine r_top ((up2_a (by decide)).trans (up2_a (by decide))) ?_
      refine r_iload_n dX8_putStroke_87 rfl ?_
      obtain ⟨⟨h0, h1⟩, k⟩ := k
      refine r_iast dX8_putStroke_88 (k_47 hS) h0 h1 ?_
      refine r_aload_n dX8_putStroke_89 rfl ?_
      refine r_dup dX8_putStroke_90 rfl ?_
      refine r_getIv dX8_putStroke_91 fl_X8_40 rfl (k_40 hS) ?_
      refine r_top ((up2_a (by decide)).trans ((up2_a (by decide)).trans (up2_a (by decide)))) ?_
      refine r_iconst dX8_putStroke_94 ⟨by decide, by decide⟩ ?_
      obtain ⟨h, k⟩ := k
      refine r_iadd dX8_putStroke_95 h ?_
      refine r_putIv dX8_putStroke_96 fl_X8_40 (fun _ h => by cases h; rfl) (Or.inl rfl) (k_40 hS) ?_
      exact s_vret dX8_putStroke_99 rfl k
    · have k := k.2 h
      exact s_vret dX8_putStroke_17 rfl k
theorem e_X8_leastTree {S : ShT} {σ : StT} {Q : Int → StT → Prop} (hS : SHP S) (k : AWs mX8_leastTree 2 [(0, vR 40), (1, vI 0)] [] S σ Q) : WPs mX8_leastTree [vR 40] S σ Q := by
  refine s_entry (by decide) (Nat.le_of_ble_eq_true rfl) rfl rfl ?_
  refine r_iconst dX8_leastTree_0 ⟨by decide, by decide⟩ ?_
  refine r_istore_n dX8_leastTree_1 (by decide) rfl rfl ?_
  exact k
theorem t_X8_leastTree_2 {v1 : Int} {S : ShT} {σ : StT} {Q : Int → StT → Prop} (hS : SHP S) (k : (σ 40 9 ≤ v1 → AWs mX8_leastTree 64 [(0, vR 40), (1, vI 0), (2, vI 0)] [] S σ Q) ∧ (¬ (σ 40 9 ≤ v1) → (0 ≤ v1 ∧ v1 < 24) ∧ WPs mX3_apart [vR 7, vI (-1), vI (σ 43 v1.toNat)] S σ (fun r26 s26 => (0 ≤ v1 ∧ v1 < 24) ∧ WPs mX3_apart [vR 7, vI (-1), vI (s26 44 v1.toNat)] S s26 (fun r40 s40 => (0 ≤ v1 ∧ v1 < 24) ∧ (0 ≤ v1 ∧ v1 < 24) ∧ inR (v1 + 1) ∧ AWs mX8_leastTree 2 [(0, vR 40), (1, vI (v1 + 1))] [] S (up2 (up2 s40 49 v1.toNat (min r26 r40)) 50 v1.toNat 0) Q)))) : AWs mX8_leastTree 2 [(0, vR 40), (1, vI v1)] [] S σ Q := by
  refine r_iload_n dX8_leastTree_2 rfl ?_
  refine r_aload_n dX8_leastTree_3 rfl ?_
  refine r_getIv dX8_leastTree_4 fl_X8_30 rfl (k_40 hS) ?_
  refine r_icmp_ge (tgt := 60) dX8_leastTree_7 rfl (fun h => ?_) (fun h => ?_)
  · have k := k.1 h
    refine r_iconst dX8_leastTree_60 ⟨by decide, by decide⟩ ?_
    refine r_istore_n dX8_leastTree_61 (by decide) rfl rfl ?_
    refine r_iconst dX8_leastTree_62 ⟨by decide, by decide⟩ ?_
    refine r_istore_n dX8_leastTree_63 (by decide) rfl rfl ?_
    exact k
  · have k := k.2 h
    refine r_aload_n dX8_leastTree_10 rfl ?_
    refine r_getRv dX8_leastTree_11 fl_X8_43 rfl (k_40 hS) (f_40_13 hS) (by decide) ?_
    refine r_iload_n dX8_leastTree_14 rfl ?_
    refine r_aload_n dX8_leastTree_15 rfl ?_
    refine r_getRv dX8_leastTree_16 fl_X8_54 rfl (k_40 hS) (f_40_1 hS) (by decide) ?_
    refine r_iconst dX8_leastTree_19 ⟨by decide, by decide⟩ ?_
    refine r_aload_n dX8_leastTree_20 rfl ?_
    refine r_getRv dX8_leastTree_21 fl_X8_18 rfl (k_40 hS) (f_40_5 hS) (by decide) ?_
    refine r_iload_n dX8_leastTree_24 rfl ?_
    obtain ⟨⟨h0, h1⟩, k⟩ := k
    refine r_iald dX8_leastTree_25 (Or.inl (k_43 hS)) h0 h1 ?_
    refine s_callVv (z := mX3_apart) [vI (-1), vI (σ 43 v1.toNat)] dX8_leastTree_26 mv_X3_apart lk_X8_98 rfl (by decide) (k_7 hS) (Nat.le_of_ble_eq_true rfl) (WPs.mono k (fun r26 s26 k => ?_))
    refine r_aload_n dX8_leastTree_29 rfl ?_
    refine r_getRv dX8_leastTree_30 fl_X8_54 rfl (k_40 hS) (f_40_1 hS) (by decide) ?_
    refine r_iconst dX8_leastTree_33 ⟨by decide, by decide⟩ ?_
    refine r_aload_n dX8_leastTree_34 rfl ?_
    refine r_getRv dX8_leastTree_35 fl_X8_21 rfl (k_40 hS) (f_40_6 hS) (by decide) ?_
    refine r_iload_n dX8_leastTree_38 rfl ?_
    obtain ⟨⟨h0, h1⟩, k⟩ := k
    refine r_iald dX8_leastTree_39 (Or.inl (k_44 hS)) h0 h1 ?_
    refine s_callVv (z := mX3_apart) [vI (-1), vI (s26 44 v1.toNat)] dX8_leastTree_40 mv_X3_apart lk_X8_98 rfl (by decide) (k_7 hS) (Nat.le_of_ble_eq_true rfl) (WPs.mono k (fun r40 s40 k => ?_))
    refine r_mmin dX8_leastTree_43 lk_X8_101 (by decide) (Nat.le_of_ble_eq_true rfl) ?_
    obtain ⟨⟨h0, h1⟩, k⟩ := k
    refine r_iast dX8_leastTree_46 (k_49 hS) h0 h1 ?_
    refine r_aload_n dX8_leastTree_47 rfl ?_
    refine r_getRv dX8_leastTree_48 fl_X8_46 rfl (k_40 hS) (f_40_14 hS) (by decide) ?_
    refine r_iload_n dX8_leastTree_51 rfl ?_
    refine r_iconst dX8_leastTree_52 ⟨by decide, by decide⟩ ?_
    obtain ⟨⟨h0, h1⟩, k⟩ := k
    refine r_zast dX8_leastTree_53 (k_50 hS) (by decide) h0 h1 ?_
    obtain ⟨h, k⟩ := k
    refine r_iinc dX8_leastTree_54 rfl (by decide) rfl rfl h ?_
    refine r_goto (tgt := 2) dX8_leastTree_57 rfl ?_
    exact k
theorem t_X8_leastTree_64 {v1 v2 : Int} {S : ShT} {σ : StT} {Q : Int → StT → Prop} (hS : SHP S) (k : (σ 40 9 ≤ v2 → Q v1 σ) ∧ (¬ (σ 40 9 ≤ v2) → WPs mX8_nearestTrail [vR 40] S σ (fun r73 s73 => (r73 = -1 → inR (v2 + 1) ∧ AWs mX8_leastTree 64 [(0, vR 40), (1, vI v1), (2, vI (v2 + 1))] [] S s73 Q) ∧ (¬ (r73 = -1) → (0 ≤ r73 ∧ r73 < 24) ∧ inR (v1 + (s73 49 r73.toNat)) ∧ ∀ x90 : Int, x90 = v1 + (s73 49 r73.toNat) → (0 ≤ r73 ∧ r73 < 24) ∧ WPs mX8_comeNear [vR 40, vI r73] S (up2 s73 50 r73.toNat 1) (fun r100 s100 => inR (v2 + 1) ∧ AWs mX8_leastTree 64 [(0, vR 40), (1, vI x90), (2, vI (v2 + 1))] [] S s100 Q))))) : AWs mX8_leastTree 64 [(0, vR 40), (1, vI v1), (2, vI v2)] [] S σ Q := by
  refine r_iload_n dX8_leastTree_64 rfl ?_
  refine r_aload_n dX8_leastTree_65 rfl ?_
  refine r_getIv dX8_leastTree_66 fl_X8_30 rfl (k_40 hS) ?_
  refine r_icmp_ge (tgt := 109) dX8_leastTree_69 rfl (fun h => ?_) (fun h => ?_)
  · have k := k.1 h
    refine r_iload_n dX8_leastTree_109 rfl ?_
    exact s_iret dX8_leastTree_110 rfl k
  · have k := k.2 h
    refine r_aload_n dX8_leastTree_72 rfl ?_
    refine s_callVv (z := mX8_nearestTrail) [] dX8_leastTree_73 mv_X8_nearestTrail lk_X8_106 rfl (by decide) (k_40 hS) (Nat.le_of_ble_eq_true rfl) (WPs.mono k (fun r73 s73 k => ?_))
    refine r_istore_n dX8_leastTree_76 (by decide) rfl rfl ?_
    refine r_iload_n dX8_leastTree_77 rfl ?_
    refine r_iconst dX8_leastTree_78 ⟨by decide, by decide⟩ ?_
    refine r_icmp_eq (tgt := 103) dX8_leastTree_79 rfl (fun h => ?_) (fun h => ?_)
    · have k := k.1 h
      obtain ⟨h, k⟩ := k
      refine r_iinc dX8_leastTree_103 rfl (by decide) rfl rfl h ?_
      refine r_goto (tgt := 64) dX8_leastTree_106 rfl ?_
      refine r_loc [0, 1, 2] rfl ?_
      exact k
    · have k := k.2 h
      refine r_iload_n dX8_leastTree_82 rfl ?_
      refine r_aload_n dX8_leastTree_83 rfl ?_
      refine r_getRv dX8_leastTree_84 fl_X8_43 rfl (k_40 hS) (f_40_13 hS) (by decide) ?_
      refine r_iload_n dX8_leastTree_87 rfl ?_
      obtain ⟨⟨h0, h1⟩, k⟩ := k
      refine r_iald dX8_leastTree_88 (Or.inl (k_49 hS)) h0 h1 ?_
      obtain ⟨h, k⟩ := k
      refine r_iadd dX8_leastTree_89 h ?_
      refine r_gen (fun x90 hx90 => ?_)
      have k := k x90 hx90
      refine r_istore_n dX8_leastTree_90 (by decide) rfl rfl ?_
      refine r_aload_n dX8_leastTree_91 rfl ?_
      refine r_getRv dX8_leastTree_92 fl_X8_46 rfl (k_40 hS) (f_40_14 hS) (by decide) ?_
      refine r_iload_n dX8_leastTree_95 rfl ?_
      refine r_iconst dX8_leastTree_96 ⟨by decide, by decide⟩ ?_
      obtain ⟨⟨h0, h1⟩, k⟩ := k
      refine r_zast dX8_leastTree_97 (k_50 hS) (by decide) h0 h1 ?_
      refine r_aload_n dX8_leastTree_98 rfl ?_
      refine r_iload_n dX8_leastTree_99 rfl ?_
      refine s_callVv (z := mX8_comeNear) [vI r73] dX8_leastTree_100 mv_X8_comeNear lk_X8_109 rfl (by decide) (k_40 hS) (Nat.le_of_ble_eq_true rfl) (WPs.mono k (fun r100 s100 k => ?_))
      obtain ⟨h, k⟩ := k
      refine r_iinc dX8_leastTree_103 rfl (by decide) rfl rfl h ?_
      refine r_goto (tgt := 64) dX8_leastTree_106 rfl ?_
      refine r_loc [0, 1, 2] rfl ?_
      exact k
theorem e_X8_nearestTrail {S : ShT} {σ : StT} {Q : Int → StT → Prop} (hS : SHP S) (k : AWs mX8_nearestTrail 4 [(0, vR 40), (1, vI (-1)), (2, vI 0)] [] S σ Q) : WPs mX8_nearestTrail [vR 40] S σ Q := by
  refine s_entry (by decide) (Nat.le_of_ble_eq_true rfl) rfl rfl ?_
  refine r_iconst dX8_nearestTrail_0 ⟨by decide, by decide⟩ ?_
  refine r_istore_n dX8_nearestTrail_1 (by decide) rfl rfl ?_
  refine r_iconst dX8_nearestTrail_2 ⟨by decide, by decide⟩ ?_
  refine r_istore_n dX8_nearestTrail_3 (by decide) rfl rfl ?_
  exact k
theorem t_X8_nearestTrail_4 {v1 v2 : Int} {S : ShT} {σ : StT} {Q : Int → StT → Prop} (hS : SHP S) (k : (σ 40 9 ≤ v2 → Q v1 σ) ∧ (¬ (σ 40 9 ≤ v2) → (0 ≤ v2 ∧ v2 < 24) ∧ ((¬ σ 50 v2.toNat = 0 → inR (v2 + 1) ∧ AWs mX8_nearestTrail 4 [(0, vR 40), (1, vI v1), (2, vI (v2 + 1))] [] S σ Q) ∧ (σ 50 v2.toNat = 0 → (v1 = -1 → inR (v2 + 1) ∧ AWs mX8_nearestTrail 4 [(0, vR 40), (1, vI v2), (2, vI (v2 + 1))] [] S σ Q) ∧ (¬ (v1 = -1) → (0 ≤ v2 ∧ v2 < 24) ∧ ((0 ≤ v1 ∧ v1 < 24) ∧ ((σ 49 v1.toNat ≤ σ 49 v2.toNat → inR (v2 + 1) ∧ AWs mX8_nearestTrail 4 [(0, vR 40), (1, vI v1), (2, vI (v2 + 1))] [] S σ Q) ∧ (¬ (σ 49 v1.toNat ≤ σ 49 v2.toNat) → inR (v2 + 1) ∧ AWs mX8_nearestTrail 4 [(0, vR 40), (1, vI v2), (2, vI (v2 + 1))] [] S σ Q)))))))) : AWs mX8_nearestTrail 4 [(0, vR 40), (1, vI v1), (2, vI v2)] [] S σ Q := by
  refine r_iload_n dX8_nearestTrail_4 rfl ?_
  refine r_aload_n dX8_nearestTrail_5 rfl ?_
  refine r_getIv dX8_nearestTrail_6 fl_X8_30 rfl (k_40 hS) ?_
  refine r_icmp_ge (tgt := 49) dX8_nearestTrail_9 rfl (fun h => ?_) (fun h => ?_)
  · have k := k.1 h
    refine r_iload_n dX8_nearestTrail_49 rfl ?_
    exact s_iret dX8_nearestTrail_50 rfl k
  · have k := k.2 h
    refine r_aload_n dX8_nearestTrail_12 rfl ?_
    refine r_getRv dX8_nearestTrail_13 fl_X8_46 rfl (k_40 hS) (f_40_14 hS) (by decide) ?_
    refine r_iload_n dX8_nearestTrail_16 rfl ?_
    obtain ⟨⟨h0, h1⟩, k⟩ := k
    refine r_zald dX8_nearestTrail_17 (k_50 hS) h0 h1 ?_
    refine r_if_ne (tgt := 43) dX8_nearestTrail_18 rfl (fun h => ?_) (fun h => ?_)
    · have k := k.1 h
      obtain ⟨h, k⟩ := k
      refine r_iinc dX8_nearestTrail_43 rfl (by decide) rfl rfl h ?_
      refine r_goto (tgt := 4) dX8_nearestTrail_46 rfl ?_
      exact k
    · have k := k.2 h
      refine r_iload_n dX8_nearestTrail_21 rfl ?_
      refine r_iconst dX8_nearestTrail_22 ⟨by decide, by decide⟩ ?_
      refine r_icmp_eq (tgt := 41) dX8_nearestTrail_23 rfl (fun h => ?_) (fun h => ?_)
      · have k := k.1 h
        refine r_iload_n dX8_nearestTrail_41 rfl ?_
        refine r_istore_n dX8_nearestTrail_42 (by decide) rfl rfl ?_
        obtain ⟨h, k⟩ := k
        refine r_iinc dX8_nearestTrail_43 rfl (by decide) rfl rfl h ?_
        refine r_goto (tgt := 4) dX8_nearestTrail_46 rfl ?_
        exact k
      · have k := k.2 h
        refine r_aload_n dX8_nearestTrail_26 rfl ?_
        refine r_getRv dX8_nearestTrail_27 fl_X8_43 rfl (k_40 hS) (f_40_13 hS) (by decide) ?_
        refine r_iload_n dX8_nearestTrail_30 rfl ?_
        obtain ⟨⟨h0, h1⟩, k⟩ := k
        refine r_iald dX8_nearestTrail_31 (Or.inl (k_49 hS)) h0 h1 ?_
        refine r_aload_n dX8_nearestTrail_32 rfl ?_
        refine r_getRv dX8_nearestTrail_33 fl_X8_43 rfl (k_40 hS) (f_40_13 hS) (by decide) ?_
        refine r_iload_n dX8_nearestTrail_36 rfl ?_
        obtain ⟨⟨h0, h1⟩, k⟩ := k
        refine r_iald dX8_nearestTrail_37 (Or.inl (k_49 hS)) h0 h1 ?_
        refine r_icmp_ge (tgt := 43) dX8_nearestTrail_38 rfl (fun h => ?_) (fun h => ?_)
        · have k := k.1 h
          obtain ⟨h, k⟩ := k
          refine r_iinc dX8_nearestTrail_43 rfl (by decide) rfl rfl h ?_
          refine r_goto (tgt := 4) dX8_nearestTrail_46 rfl ?_
          exact k
        · have k := k.2 h
          refine r_iload_n dX8_nearestTrail_41 rfl ?_
          refine r_istore_n dX8_nearestTrail_42 (by decide) rfl rfl ?_
          obtain ⟨h, k⟩ := k
          refine r_iinc dX8_nearestTrail_43 rfl (by decide) rfl rfl h ?_
          refine r_goto (tgt := 4) dX8_nearestTrail_46 rfl ?_
          exact k
theorem e_X8_comeNear {v1 : Int} {S : ShT} {σ : StT} {Q : Int → StT → Prop} (hS : SHP S) (k : AWs mX8_comeNear 2 [(0, vR 40), (1, vI v1), (2, vI 0)] [] S σ Q) : WPs mX8_comeNear [vR 40, vI v1] S σ Q := by
  refine s_entry (by decide) (Nat.le_of_ble_eq_true rfl) rfl rfl ?_
  refine r_iconst dX8_comeNear_0 ⟨by decide, by decide⟩ ?_
  refine r_istore_n dX8_comeNear_1 (by decide) rfl rfl ?_
  exact k
theorem t_X8_comeNear_2 {v1 v2 : Int} {S : ShT} {σ : StT} {Q : Int → StT → Prop} (hS : SHP S) (k : (σ 40 9 ≤ v2 → Q 0 σ) ∧ (¬ (σ 40 9 ≤ v2) → (0 ≤ v2 ∧ v2 < 24) ∧ WPs mX8_branch [vR 40, vI v1, vI v2] S σ (fun r24 s24 => (0 ≤ v2 ∧ v2 < 24) ∧ inR (v2 + 1) ∧ AWs mX8_comeNear 2 [(0, vR 40), (1, vI v1), (2, vI (v2 + 1))] [] S (up2 s24 49 v2.toNat (min (σ 49 v2.toNat) r24)) Q))) : AWs mX8_comeNear 2 [(0, vR 40), (1, vI v1), (2, vI v2)] [] S σ Q := by
  refine r_iload_n dX8_comeNear_2 rfl ?_
  refine r_aload_n dX8_comeNear_3 rfl ?_
  refine r_getIv dX8_comeNear_4 fl_X8_30 rfl (k_40 hS) ?_
  refine r_icmp_ge (tgt := 37) dX8_comeNear_7 rfl (fun h => ?_) (fun h => ?_)
  · have k := k.1 h
    exact s_vret dX8_comeNear_37 rfl k
  · have k := k.2 h
    refine r_aload_n dX8_comeNear_10 rfl ?_
    refine r_getRv dX8_comeNear_11 fl_X8_43 rfl (k_40 hS) (f_40_13 hS) (by decide) ?_
    refine r_iload_n dX8_comeNear_14 rfl ?_
    refine r_aload_n dX8_comeNear_15 rfl ?_
    refine r_getRv dX8_comeNear_16 fl_X8_43 rfl (k_40 hS) (f_40_13 hS) (by decide) ?_
    refine r_iload_n dX8_comeNear_19 rfl ?_
    obtain ⟨⟨h0, h1⟩, k⟩ := k
    refine r_iald dX8_comeNear_20 (Or.inl (k_49 hS)) h0 h1 ?_
    refine r_aload_n dX8_comeNear_21 rfl ?_
    refine r_iload_n dX8_comeNear_22 rfl ?_
    refine r_iload_n dX8_comeNear_23 rfl ?_
    refine s_callVv (z := mX8_branch) [vI v1, vI v2] dX8_comeNear_24 mv_X8_branch lk_X8_112 rfl (by decide) (k_40 hS) (Nat.le_of_ble_eq_true rfl) (WPs.mono k (fun r24 s24 k => ?_))
    refine r_mmin dX8_comeNear_27 lk_X8_101 (by decide) (Nat.le_of_ble_eq_true rfl) ?_
    obtain ⟨⟨h0, h1⟩, k⟩ := k
    refine r_iast dX8_comeNear_30 (k_49 hS) h0 h1 ?_
    obtain ⟨h, k⟩ := k
    refine r_iinc dX8_comeNear_31 rfl (by decide) rfl rfl h ?_
    refine r_goto (tgt := 2) dX8_comeNear_34 rfl ?_
    exact k
theorem e_X8_branch {v1 v2 : Int} {S : ShT} {σ : StT} {Q : Int → StT → Prop} (hS : SHP S) (k : (0 ≤ v1 ∧ v1 < 24) ∧ (0 ≤ v2 ∧ v2 < 24) ∧ WPs mX3_apart [vR 7, vI (σ 43 v1.toNat), vI (σ 43 v2.toNat)] S σ (fun r16 s16 => (0 ≤ v1 ∧ v1 < 24) ∧ (0 ≤ v2 ∧ v2 < 24) ∧ WPs mX3_apart [vR 7, vI (s16 43 v1.toNat), vI (s16 44 v2.toNat)] S s16 (fun r35 s35 => (0 ≤ v1 ∧ v1 < 24) ∧ (0 ≤ v2 ∧ v2 < 24) ∧ WPs mX3_apart [vR 7, vI (s35 44 v1.toNat), vI (s35 43 v2.toNat)] S s35 (fun r58 s58 => (0 ≤ v1 ∧ v1 < 24) ∧ (0 ≤ v2 ∧ v2 < 24) ∧ WPs mX3_apart [vR 7, vI (s58 44 v1.toNat), vI (s58 44 v2.toNat)] S s58 (fun r77 s77 => Q (min (min r16 r35) (min r58 r77)) s77))))) : WPs mX8_branch [vR 40, vI v1, vI v2] S σ Q := by
  refine s_entry (by decide) (Nat.le_of_ble_eq_true rfl) rfl rfl ?_
  refine r_aload_n dX8_branch_0 rfl ?_
  refine r_getRv dX8_branch_1 fl_X8_54 rfl (k_40 hS) (f_40_1 hS) (by decide) ?_
  refine r_aload_n dX8_branch_4 rfl ?_
  refine r_getRv dX8_branch_5 fl_X8_18 rfl (k_40 hS) (f_40_5 hS) (by decide) ?_
  refine r_iload_n dX8_branch_8 rfl ?_
  obtain ⟨⟨h0, h1⟩, k⟩ := k
  refine r_iald dX8_branch_9 (Or.inl (k_43 hS)) h0 h1 ?_
  refine r_aload_n dX8_branch_10 rfl ?_
  refine r_getRv dX8_branch_11 fl_X8_18 rfl (k_40 hS) (f_40_5 hS) (by decide) ?_
  refine r_iload_n dX8_branch_14 rfl ?_
  obtain ⟨⟨h0, h1⟩, k⟩ := k
  refine r_iald dX8_branch_15 (Or.inl (k_43 hS)) h0 h1 ?_
  refine s_callVv (z := mX3_apart) [vI (σ 43 v1.toNat), vI (σ 43 v2.toNat)] dX8_branch_16 mv_X3_apart lk_X8_98 rfl (by decide) (k_7 hS) (Nat.le_of_ble_eq_true rfl) (WPs.mono k (fun r16 s16 k => ?_))
  refine r_aload_n dX8_branch_19 rfl ?_
  refine r_getRv dX8_branch_20 fl_X8_54 rfl (k_40 hS) (f_40_1 hS) (by decide) ?_
  refine r_aload_n dX8_branch_23 rfl ?_
  refine r_getRv dX8_branch_24 fl_X8_18 rfl (k_40 hS) (f_40_5 hS) (by decide) ?_
  refine r_iload_n dX8_branch_27 rfl ?_
  obtain ⟨⟨h0, h1⟩, k⟩ := k
  refine r_iald dX8_branch_28 (Or.inl (k_43 hS)) h0 h1 ?_
  refine r_aload_n dX8_branch_29 rfl ?_
  refine r_getRv dX8_branch_30 fl_X8_21 rfl (k_40 hS) (f_40_6 hS) (by decide) ?_
  refine r_iload_n dX8_branch_33 rfl ?_
  obtain ⟨⟨h0, h1⟩, k⟩ := k
  refine r_iald dX8_branch_34 (Or.inl (k_44 hS)) h0 h1 ?_
  refine s_callVv (z := mX3_apart) [vI (s16 43 v1.toNat), vI (s16 44 v2.toNat)] dX8_branch_35 mv_X3_apart lk_X8_98 rfl (by decide) (k_7 hS) (Nat.le_of_ble_eq_true rfl) (WPs.mono k (fun r35 s35 k => ?_))
  refine r_mmin dX8_branch_38 lk_X8_101 (by decide) (Nat.le_of_ble_eq_true rfl) ?_
  refine r_istore_n dX8_branch_41 (by decide) rfl rfl ?_
  refine r_aload_n dX8_branch_42 rfl ?_
  refine r_getRv dX8_branch_43 fl_X8_54 rfl (k_40 hS) (f_40_1 hS) (by decide) ?_
  refine r_aload_n dX8_branch_46 rfl ?_
  refine r_getRv dX8_branch_47 fl_X8_21 rfl (k_40 hS) (f_40_6 hS) (by decide) ?_
  refine r_iload_n dX8_branch_50 rfl ?_
  obtain ⟨⟨h0, h1⟩, k⟩ := k
  refine r_iald dX8_branch_51 (Or.inl (k_44 hS)) h0 h1 ?_
  refine r_aload_n dX8_branch_52 rfl ?_
  refine r_getRv dX8_branch_53 fl_X8_18 rfl (k_40 hS) (f_40_5 hS) (by decide) ?_
  refine r_iload_n dX8_branch_56 rfl ?_
  obtain ⟨⟨h0, h1⟩, k⟩ := k
  refine r_iald dX8_branch_57 (Or.inl (k_43 hS)) h0 h1 ?_
  refine s_callVv (z := mX3_apart) [vI (s35 44 v1.toNat), vI (s35 43 v2.toNat)] dX8_branch_58 mv_X3_apart lk_X8_98 rfl (by decide) (k_7 hS) (Nat.le_of_ble_eq_true rfl) (WPs.mono k (fun r58 s58 k => ?_))
  refine r_aload_n dX8_branch_61 rfl ?_
  refine r_getRv dX8_branch_62 fl_X8_54 rfl (k_40 hS) (f_40_1 hS) (by decide) ?_
  refine r_aload_n dX8_branch_65 rfl ?_
  refine r_getRv dX8_branch_66 fl_X8_21 rfl (k_40 hS) (f_40_6 hS) (by decide) ?_
  refine r_iload_n dX8_branch_69 rfl ?_
  obtain ⟨⟨h0, h1⟩, k⟩ := k
  refine r_iald dX8_branch_70 (Or.inl (k_44 hS)) h0 h1 ?_
  refine r_aload_n dX8_branch_71 rfl ?_
  refine r_getRv dX8_branch_72 fl_X8_21 rfl (k_40 hS) (f_40_6 hS) (by decide) ?_
  refine r_iload_n dX8_branch_75 rfl ?_
  obtain ⟨⟨h0, h1⟩, k⟩ := k
  refine r_iald dX8_branch_76 (Or.inl (k_44 hS)) h0 h1 ?_
  refine s_callVv (z := mX3_apart) [vI (s58 44 v1.toNat), vI (s58 44 v2.toNat)] dX8_branch_77 mv_X3_apart lk_X8_98 rfl (by decide) (k_7 hS) (Nat.le_of_ble_eq_true rfl) (WPs.mono k (fun r77 s77 k => ?_))
  refine r_mmin dX8_branch_80 lk_X8_101 (by decide) (Nat.le_of_ble_eq_true rfl) ?_
  refine r_istore dX8_branch_83 (by decide) rfl rfl ?_
  refine r_iload_n dX8_branch_85 rfl ?_
  refine r_iload dX8_branch_86 rfl ?_
  refine r_mmin dX8_branch_88 lk_X8_101 (by decide) (Nat.le_of_ble_eq_true rfl) ?_
  exact s_iret dX8_branch_91 rfl k
