theorem e_X9_isHop {v0 : Int} {S : ShT} {σ : StT} {Q : Int → StT → Prop} (hS : SHP S) (k : (-3 < v0 → Q 0 σ) ∧ (¬ (-3 < v0) → Q 1 σ)) : WPs mX9_isHop [vI v0] S σ Q := by
  refine s_entry (by decide) (Nat.le_of_ble_eq_true rfl) rfl rfl ?_
  refine r_iload_n dX9_isHop_0 rfl ?_
  refine r_bipush dX9_isHop_1 (by decide +kernel) ⟨by decide, by decide⟩ ?_
  refine r_icmp_gt (tgt := 10) dX9_isHop_3 rfl (fun h => ?_) (fun h => ?_)
  · have k := k.1 h
    refine r_iconst dX9_isHop_10 ⟨by decide, by decide⟩ ?_
    exact s_zret dX9_isHop_11 rfl (by decide) k
  · have k := k.2 h
    refine r_iconst dX9_isHop_6 ⟨by decide, by decide⟩ ?_
    refine r_goto (tgt := 11) dX9_isHop_7 rfl ?_
    exact s_zret dX9_isHop_11 rfl (by decide) k
theorem e_X9_waysIn {v1 : Int} {S : ShT} {σ : StT} {Q : Int → StT → Prop} (hS : SHP S) (k : inR (v1 + 1) ∧ (0 ≤ v1 + 1 ∧ v1 + 1 < 25) ∧ (0 ≤ v1 ∧ v1 < 25) ∧ inR ((σ 33 (v1 + 1).toNat) - (σ 33 v1.toNat)) ∧ Q ((σ 33 (v1 + 1).toNat) - (σ 33 v1.toNat)) σ) : WPs mX9_waysIn [vR 31, vI v1] S σ Q := by
  refine s_entry (by decide) (Nat.le_of_ble_eq_true rfl) rfl rfl ?_
  refine r_aload_n dX9_waysIn_0 rfl ?_
  refine r_getRv dX9_waysIn_1 fl_X9_15 rfl (k_31 hS) (f_31_4 hS) (by decide) ?_
  refine r_iload_n dX9_waysIn_4 rfl ?_
  refine r_iconst dX9_waysIn_5 ⟨by decide, by decide⟩ ?_
  obtain ⟨h, k⟩ := k
  refine r_iadd dX9_waysIn_6 h ?_
  obtain ⟨⟨h0, h1⟩, k⟩ := k
  refine r_iald dX9_waysIn_7 (Or.inl (k_33 hS)) h0 h1 ?_
  refine r_aload_n dX9_waysIn_8 rfl ?_
  refine r_getRv dX9_waysIn_9 fl_X9_15 rfl (k_31 hS) (f_31_4 hS) (by decide) ?_
  refine r_iload_n dX9_waysIn_12 rfl ?_
  obtain ⟨⟨h0, h1⟩, k⟩ := k
  refine r_iald dX9_waysIn_13 (Or.inl (k_33 hS)) h0 h1 ?_
  obtain ⟨h, k⟩ := k
  refine r_isub dX9_waysIn_14 h ?_
  exact s_iret dX9_waysIn_15 rfl k
theorem e_X9_wayOf {v1 v2 : Int} {S : ShT} {σ : StT} {Q : Int → StT → Prop} (hS : SHP S) (k : (0 ≤ v1 ∧ v1 < 25) ∧ inR ((σ 33 v1.toNat) + v2) ∧ (0 ≤ (σ 33 v1.toNat) + v2 ∧ (σ 33 v1.toNat) + v2 < 48) ∧ Q (σ 32 ((σ 33 v1.toNat) + v2).toNat) σ) : WPs mX9_wayOf [vR 31, vI v1, vI v2] S σ Q := by
  refine s_entry (by decide) (Nat.le_of_ble_eq_true rfl) rfl rfl ?_
  refine r_aload_n dX9_wayOf_0 rfl ?_
  refine r_getRv dX9_wayOf_1 fl_X9_11 rfl (k_31 hS) (f_31_3 hS) (by decide) ?_
  refine r_aload_n dX9_wayOf_4 rfl ?_
  refine r_getRv dX9_wayOf_5 fl_X9_15 rfl (k_31 hS) (f_31_4 hS) (by decide) ?_
  refine r_iload_n dX9_wayOf_8 rfl ?_
  obtain ⟨⟨h0, h1⟩, k⟩ := k
  refine r_iald dX9_wayOf_9 (Or.inl (k_33 hS)) h0 h1 ?_
  refine r_iload_n dX9_wayOf_10 rfl ?_
  obtain ⟨h, k⟩ := k
  refine r_iadd dX9_wayOf_11 h ?_
  obtain ⟨⟨h0, h1⟩, k⟩ := k
  refine r_iald dX9_wayOf_12 (Or.inl (k_32 hS)) h0 h1 ?_
  exact s_iret dX9_wayOf_13 rfl k
theorem e_X9_gather {S : ShT} {σ : StT} {Q : Int → StT → Prop} (hS : SHP S) (k : AWs mX9_gather 2 [(0, vR 31), (1, vI 0)] [] S σ Q) : WPs mX9_gather [vR 31] S σ Q := by
  refine s_entry (by decide) (Nat.le_of_ble_eq_true rfl) rfl rfl ?_
  refine r_iconst dX9_gather_0 ⟨by decide, by decide⟩ ?_
  refine r_istore_n dX9_gather_1 (by decide) rfl rfl ?_
  exact k
theorem t_X9_gather_2 {v1 : Int} {S : ShT} {σ : StT} {Q : Int → StT → Prop} (hS : SHP S) (k : (24 ≤ v1 → AWs mX9_gather 64 [(0, vR 31), (1, vI 0)] [] S (up2 σ 33 0 0) Q) ∧ (¬ (24 ≤ v1) → (0 ≤ v1 ∧ v1 < 24) ∧ ((σ 20 6 ≤ v1 → (0 ≤ v1 ∧ v1 < 24) ∧ inR (v1 + 1) ∧ AWs mX9_gather 2 [(0, vR 31), (1, vI (v1 + 1))] [] S (up2 (up2 σ 38 v1.toNat 0) 39 v1.toNat 0) Q) ∧ (¬ (σ 20 6 ≤ v1) → (0 ≤ v1 ∧ v1 < 24) ∧ ((σ 24 v1.toNat = 0 → (0 ≤ v1 ∧ v1 < 24) ∧ inR (v1 + 1) ∧ AWs mX9_gather 2 [(0, vR 31), (1, vI (v1 + 1))] [] S (up2 (up2 σ 38 v1.toNat 0) 39 v1.toNat 0) Q) ∧ (¬ (σ 24 v1.toNat = 0) → (0 ≤ v1 ∧ v1 < 24) ∧ inR (v1 + 1) ∧ AWs mX9_gather 2 [(0, vR 31), (1, vI (v1 + 1))] [] S (up2 (up2 σ 38 v1.toNat 0) 39 v1.toNat 1) Q)))))) : AWs mX9_gather 2 [(0, vR 31), (1, vI v1)] [] S σ Q := by
  refine r_iload_n dX9_gather_2 rfl ?_
  refine r_bipush dX9_gather_3 (by decide +kernel) ⟨by decide, by decide⟩ ?_
  refine r_icmp_ge (tgt := 55) dX9_gather_5 rfl (fun h => ?_) (fun h => ?_)
  · have k := k.1 h
    refine r_aload_n dX9_gather_55 rfl ?_
    refine r_getRv dX9_gather_56 fl_X9_15 rfl (k_31 hS) (f_31_4 hS) (by decide) ?_
    refine r_iconst dX9_gather_59 ⟨by decide, by decide⟩ ?_
    refine r_iconst dX9_gather_60 ⟨by decide, by decide⟩ ?_
    refine r_iast dX9_gather_61 (k_33 hS) (by decide) (by decide) ?_
    refine r_iconst dX9_gather_62 ⟨by decide, by decide⟩ ?_
    refine r_istore_n dX9_gather_63 (by decide) rfl rfl ?_
    exact k
  · have k := k.2 h
    refine r_aload_n dX9_gather_8 rfl ?_
    refine r_getRv dX9_gather_9 fl_X9_37 rfl (k_31 hS) (f_31_11 hS) (by decide) ?_
    refine r_iload_n dX9_gather_12 rfl ?_
    refine r_iconst dX9_gather_13 ⟨by decide, by decide⟩ ?_
    obtain ⟨⟨h0, h1⟩, k⟩ := k
    refine r_zast dX9_gather_14 (k_38 hS) (by decide) h0 h1 ?_
    refine r_aload_n dX9_gather_15 rfl ?_
    refine r_getRv dX9_gather_16 fl_X9_41 rfl (k_31 hS) (f_31_12 hS) (by decide) ?_
    refine r_iload_n dX9_gather_19 rfl ?_
    refine r_iload_n dX9_gather_20 rfl ?_
    refine r_aload_n dX9_gather_21 rfl ?_
    refine r_getRv dX9_gather_22 fl_X9_52 rfl (k_31 hS) (f_31_2 hS) (by decide) ?_
    refine r_getIv dX9_gather_25 fl_X9_56 rfl (k_20 hS) ?_
    refine r_top (up2_a (by decide)) ?_
    refine r_icmp_ge (tgt := 47) dX9_gather_28 rfl (fun h => ?_) (fun h => ?_)
    · have k := k.1 h
      refine r_iconst dX9_gather_47 ⟨by decide, by decide⟩ ?_
      obtain ⟨⟨h0, h1⟩, k⟩ := k
      refine r_zast dX9_gather_48 (k_39 hS) (by decide) h0 h1 ?_
      obtain ⟨h, k⟩ := k
      refine r_iinc dX9_gather_49 rfl (by decide) rfl rfl h ?_
      refine r_goto (tgt := 2) dX9_gather_52 rfl ?_
      exact k
    · have k := k.2 h
      refine r_aload_n dX9_gather_31 rfl ?_
      refine r_getRv dX9_gather_32 fl_X9_52 rfl (k_31 hS) (f_31_2 hS) (by decide) ?_
      refine r_getRv dX9_gather_35 fl_X9_61 rfl (k_20 hS) (f_20_4 hS) (by decide) ?_
      refine r_iload_n dX9_gather_38 rfl ?_
      obtain ⟨⟨h0, h1⟩, k⟩ := k
      refine r_zald dX9_gather_39 (k_24 hS) h0 h1 ?_
      refine r_top (up2_a (by decide)) ?_
      refine r_if_eq (tgt := 47) dX9_gather_40 rfl (fun h => ?_) (fun h => ?_)
      · have k := k.1 h
        refine r_iconst dX9_gather_47 ⟨by decide, by decide⟩ ?_
        obtain ⟨⟨h0, h1⟩, k⟩ := k
        refine r_zast dX9_gather_48 (k_39 hS) (by decide) h0 h1 ?_
        obtain ⟨h, k⟩ := k
        refine r_iinc dX9_gather_49 rfl (by decide) rfl rfl h ?_
        refine r_goto (tgt := 2) dX9_gather_52 rfl ?_
        exact k
      · have k := k.2 h
        refine r_iconst dX9_gather_43 ⟨by decide, by decide⟩ ?_
        refine r_goto (tgt := 48) dX9_gather_44 rfl ?_
        obtain ⟨⟨h0, h1⟩, k⟩ := k
        refine r_zast dX9_gather_48 (k_39 hS) (by decide) h0 h1 ?_
        obtain ⟨h, k⟩ := k
        refine r_iinc dX9_gather_49 rfl (by decide) rfl rfl h ?_
        refine r_goto (tgt := 2) dX9_gather_52 rfl ?_
        exact k
theorem t_X9_gather_64 {v1 : Int} {S : ShT} {σ : StT} {Q : Int → StT → Prop} (hS : SHP S) (k : WPs mX3_parts [vR 7] S σ (fun r69 s69 => (r69 ≤ v1 → Q 0 s69) ∧ (¬ (r69 ≤ v1) → WPs mX9_makeWalk [vR 31, vI v1] S s69 (fun r77 s77 => inR (v1 + 1) ∧ (0 ≤ v1 ∧ v1 < 25) ∧ inR ((s77 33 v1.toNat) + (s77 31 7)) ∧ (0 ≤ v1 + 1 ∧ v1 + 1 < 25) ∧ AWs mX9_gather 101 [(0, vR 31), (1, vI v1), (2, vI 0)] [] S (up2 s77 33 (v1 + 1).toNat ((s77 33 v1.toNat) + (s77 31 7))) Q)))) : AWs mX9_gather 64 [(0, vR 31), (1, vI v1)] [] S σ Q := by
  refine r_iload_n dX9_gather_64 rfl ?_
  refine r_aload_n dX9_gather_65 rfl ?_
  refine r_getRv dX9_gather_66 fl_X9_48 rfl (k_31 hS) (f_31_1 hS) (by decide) ?_
  refine s_callVv (z := mX3_parts) [] dX9_gather_69 mv_X3_parts lk_X9_64 rfl (by decide) (k_7 hS) (Nat.le_of_ble_eq_true rfl) (WPs.mono k (fun r69 s69 k => ?_))
  refine r_icmp_ge (tgt := 140) dX9_gather_72 rfl (fun h => ?_) (fun h => ?_)
  · have k := k.1 h
    exact s_vret dX9_gather_140 rfl k
  · have k := k.2 h
    refine r_aload_n dX9_gather_75 rfl ?_
    refine r_iload_n dX9_gather_76 rfl ?_
    refine s_callVv (z := mX9_makeWalk) [vI v1] dX9_gather_77 mv_X9_makeWalk lk_X9_70 rfl (by decide) (k_31 hS) (Nat.le_of_ble_eq_true rfl) (WPs.mono k (fun r77 s77 k => ?_))
    refine r_aload_n dX9_gather_80 rfl ?_
    refine r_getRv dX9_gather_81 fl_X9_15 rfl (k_31 hS) (f_31_4 hS) (by decide) ?_
    refine r_iload_n dX9_gather_84 rfl ?_
    refine r_iconst dX9_gather_85 ⟨by decide, by decide⟩ ?_
    obtain ⟨h, k⟩ := k
    refine r_iadd dX9_gather_86 h ?_
    refine r_aload_n dX9_gather_87 rfl ?_
    refine r_getRv dX9_gather_88 fl_X9_15 rfl (k_31 hS) (f_31_4 hS) (by decide) ?_
    refine r_iload_n dX9_gather_91 rfl ?_
    obtain ⟨⟨h0, h1⟩, k⟩ := k
    refine r_iald dX9_gather_92 (Or.inl (k_33 hS)) h0 h1 ?_
    refine r_aload_n dX9_gather_93 rfl ?_
    refine r_getIv dX9_gather_94 fl_X9_24 rfl (k_31 hS) ?_
    obtain ⟨h, k⟩ := k
    refine r_iadd dX9_gather_97 h ?_
    obtain ⟨⟨h0, h1⟩, k⟩ := k
    refine r_iast dX9_gather_98 (k_33 hS) h0 h1 ?_
    refine r_iconst dX9_gather_99 ⟨by decide, by decide⟩ ?_
    refine r_istore_n dX9_gather_100 (by decide) rfl rfl ?_
    exact k
theorem t_X9_gather_101 {v1 v2 : Int} {S : ShT} {σ : StT} {Q : Int → StT → Prop} (hS : SHP S) (k : (σ 31 7 ≤ v2 → inR (v1 + 1) ∧ AWs mX9_gather 64 [(0, vR 31), (1, vI (v1 + 1))] [] S σ Q) ∧ (¬ (σ 31 7 ≤ v2) → (0 ≤ v1 ∧ v1 < 25) ∧ inR ((σ 33 v1.toNat) + v2) ∧ (0 ≤ v2 ∧ v2 < 48) ∧ (0 ≤ (σ 33 v1.toNat) + v2 ∧ (σ 33 v1.toNat) + v2 < 48) ∧ inR (v2 + 1) ∧ AWs mX9_gather 101 [(0, vR 31), (1, vI v1), (2, vI (v2 + 1))] [] S (up2 σ 32 ((σ 33 v1.toNat) + v2).toNat (σ 34 v2.toNat)) Q)) : AWs mX9_gather 101 [(0, vR 31), (1, vI v1), (2, vI v2)] [] S σ Q := by
  refine r_iload_n dX9_gather_101 rfl ?_
  refine r_aload_n dX9_gather_102 rfl ?_
  refine r_getIv dX9_gather_103 fl_X9_24 rfl (k_31 hS) ?_
  refine r_icmp_ge (tgt := 134) dX9_gather_106 rfl (fun h => ?_) (fun h => ?_)
  · have k := k.1 h
    obtain ⟨h, k⟩ := k
    refine r_iinc dX9_gather_134 rfl (by decide) rfl rfl h ?_
    refine r_goto (tgt := 64) dX9_gather_137 rfl ?_
    refine r_loc [0, 1] rfl ?_
    exact k
  · have k := k.2 h
    refine r_aload_n dX9_gather_109 rfl ?_
    refine r_getRv dX9_gather_110 fl_X9_11 rfl (k_31 hS) (f_31_3 hS) (by decide) ?_
    refine r_aload_n dX9_gather_113 rfl ?_
    refine r_getRv dX9_gather_114 fl_X9_15 rfl (k_31 hS) (f_31_4 hS) (by decide) ?_
    refine r_iload_n dX9_gather_117 rfl ?_
    obtain ⟨⟨h0, h1⟩, k⟩ := k
    refine r_iald dX9_gather_118 (Or.inl (k_33 hS)) h0 h1 ?_
    refine r_iload_n dX9_gather_119 rfl ?_
    obtain ⟨h, k⟩ := k
    refine r_iadd dX9_gather_120 h ?_
    refine r_aload_n dX9_gather_121 rfl ?_
    refine r_getRv dX9_gather_122 fl_X9_18 rfl (k_31 hS) (f_31_5 hS) (by decide) ?_
    refine r_iload_n dX9_gather_125 rfl ?_
    obtain ⟨⟨h0, h1⟩, k⟩ := k
    refine r_iald dX9_gather_126 (Or.inl (k_34 hS)) h0 h1 ?_
    obtain ⟨⟨h0, h1⟩, k⟩ := k
    refine r_iast dX9_gather_127 (k_32 hS) h0 h1 ?_
    obtain ⟨h, k⟩ := k
    refine r_iinc dX9_gather_128 rfl (by decide) rfl rfl h ?_
    refine r_goto (tgt := 101) dX9_gather_131 rfl ?_
    exact k
theorem e_X9_makeWalk {v1 : Int} {S : ShT} {σ : StT} {Q : Int → StT → Prop} (hS : SHP S) (k : WPs mX4_cutOf [vR 20, vI v1] S σ (fun r5 s5 => (¬ r5 = -1 → (0 ≤ r5 ∧ r5 < 24) ∧ AWs mX9_makeWalk 50 [(0, vR 31), (1, vI v1), (3, vI 0), (4, vI 0)] [] S (up2 (up2 s5 31 7 0) 35 0 (s5 21 r5.toNat)) Q) ∧ (r5 = -1 → WPs mX3_firstMeeting [vR 7, vI v1] S (up2 s5 31 7 0) (fun r29 s29 => AWs mX9_makeWalk 50 [(0, vR 31), (1, vI v1), (3, vI 0), (4, vI 0)] [] S (up2 s29 35 0 r29) Q)))) : WPs mX9_makeWalk [vR 31, vI v1] S σ Q := by
  refine s_entry (by decide) (Nat.le_of_ble_eq_true rfl) rfl rfl ?_
  refine r_aload_n dX9_makeWalk_0 rfl ?_
  refine r_getRv dX9_makeWalk_1 fl_X9_52 rfl (k_31 hS) (f_31_2 hS) (by decide) ?_
  refine r_iload_n dX9_makeWalk_4 rfl ?_
  refine s_callVv (z := mX4_cutOf) [vI v1] dX9_makeWalk_5 mv_X4_cutOf lk_X9_74 rfl (by decide) (k_20 hS) (Nat.le_of_ble_eq_true rfl) (WPs.mono k (fun r5 s5 k => ?_))
  refine r_istore_n dX9_makeWalk_8 (by decide) rfl rfl ?_
  refine r_aload_n dX9_makeWalk_9 rfl ?_
  refine r_iconst dX9_makeWalk_10 ⟨by decide, by decide⟩ ?_
  refine r_putIv dX9_makeWalk_11 fl_X9_24 (fun _ h => by cases h; rfl) (Or.inl rfl) (k_31 hS) ?_
  refine r_aload_n dX9_makeWalk_14 rfl ?_
  refine r_getRv dX9_makeWalk_15 fl_X9_21 rfl (k_31 hS) (f_31_6 hS) (by decide) ?_
  refine r_iconst dX9_makeWalk_18 ⟨by decide, by decide⟩ ?_
  refine r_iload_n dX9_makeWalk_19 rfl ?_
  refine r_iconst dX9_makeWalk_20 ⟨by decide, by decide⟩ ?_
  refine r_icmp_ne (tgt := 35) dX9_makeWalk_21 rfl (fun h => ?_) (fun h => ?_)
  · have k := k.1 h
    refine r_aload_n dX9_makeWalk_35 rfl ?_
    refine r_getRv dX9_makeWalk_36 fl_X9_52 rfl (k_31 hS) (f_31_2 hS) (by decide) ?_
    refine r_getRv dX9_makeWalk_39 fl_X9_81 rfl (k_20 hS) (f_20_1 hS) (by decide) ?_
    refine r_iload_n dX9_makeWalk_42 rfl ?_
    obtain ⟨⟨h0, h1⟩, k⟩ := k
    refine r_iald dX9_makeWalk_43 (Or.inl (k_21 hS)) h0 h1 ?_
    refine r_top (up2_a (by decide)) ?_
    refine r_iast dX9_makeWalk_44 (k_35 hS) (by decide) (by decide) ?_
    refine r_iconst dX9_makeWalk_45 ⟨by decide, by decide⟩ ?_
    refine r_istore_n dX9_makeWalk_46 (by decide) rfl rfl ?_
    refine r_iconst dX9_makeWalk_47 ⟨by decide, by decide⟩ ?_
    refine r_istore dX9_makeWalk_48 (by decide) rfl rfl ?_
    refine r_loc [0, 1, 3, 4] rfl ?_
    exact k
  · have k := k.2 h
    refine r_aload_n dX9_makeWalk_24 rfl ?_
    refine r_getRv dX9_makeWalk_25 fl_X9_48 rfl (k_31 hS) (f_31_1 hS) (by decide) ?_
    refine r_iload_n dX9_makeWalk_28 rfl ?_
    refine s_callVv (z := mX3_firstMeeting) [vI v1] dX9_makeWalk_29 mv_X3_firstMeeting lk_X9_78 rfl (by decide) (k_7 hS) (Nat.le_of_ble_eq_true rfl) (WPs.mono k (fun r29 s29 k => ?_))
    refine r_goto (tgt := 44) dX9_makeWalk_32 rfl ?_
    refine r_iast dX9_makeWalk_44 (k_35 hS) (by decide) (by decide) ?_
    refine r_iconst dX9_makeWalk_45 ⟨by decide, by decide⟩ ?_
    refine r_istore_n dX9_makeWalk_46 (by decide) rfl rfl ?_
    refine r_iconst dX9_makeWalk_47 ⟨by decide, by decide⟩ ?_
    refine r_istore dX9_makeWalk_48 (by decide) rfl rfl ?_
    refine r_loc [0, 1, 3, 4] rfl ?_
    exact k
theorem t_X9_makeWalk_50 {v1 v3 v4 : Int} {S : ShT} {σ : StT} {Q : Int → StT → Prop} (hS : SHP S) (k : (48 < v4 → Q 0 σ) ∧ (¬ (48 < v4) → (v3 = -1 → Q 0 σ) ∧ (¬ (v3 = -1) → (0 ≤ v3 ∧ v3 < 49) ∧ WPs mX9_makeRing [vR 31, vI v1, vI (σ 35 v3.toNat)] S σ (fun r70 s70 => WPs mX9_putRing [vR 31, vI v3] S s70 (fun r75 s75 => WPs mX9_firstOpenPlace [vR 31, vI v1] S s75 (fun r80 s80 => inR (v4 + 1) ∧ AWs mX9_makeWalk 50 [(0, vR 31), (1, vI v1), (3, vI r80), (4, vI (v4 + 1))] [] S s80 Q)))))) : AWs mX9_makeWalk 50 [(0, vR 31), (1, vI v1), (3, vI v3), (4, vI v4)] [] S σ Q := by
  refine r_iload dX9_makeWalk_50 rfl ?_
  refine r_bipush dX9_makeWalk_52 (by decide +kernel) ⟨by decide, by decide⟩ ?_
  refine r_icmp_gt (tgt := 90) dX9_makeWalk_54 rfl (fun h => ?_) (fun h => ?_)
  · have k := k.1 h
    exact s_vret dX9_makeWalk_90 rfl k
  · have k := k.2 h
    refine r_iload_n dX9_makeWalk_57 rfl ?_
    refine r_iconst dX9_makeWalk_58 ⟨by decide, by decide⟩ ?_
    refine r_icmp_eq (tgt := 90) dX9_makeWalk_59 rfl (fun h => ?_) (fun h => ?_)
    · have k := k.1 h
      exact s_vret dX9_makeWalk_90 rfl k
    · have k := k.2 h
      refine r_aload_n dX9_makeWalk_62 rfl ?_
      refine r_iload_n dX9_makeWalk_63 rfl ?_
      refine r_aload_n dX9_makeWalk_64 rfl ?_
      refine r_getRv dX9_makeWalk_65 fl_X9_21 rfl (k_31 hS) (f_31_6 hS) (by decide) ?_
      refine r_iload_n dX9_makeWalk_68 rfl ?_
      obtain ⟨⟨h0, h1⟩, k⟩ := k
      refine r_iald dX9_makeWalk_69 (Or.inl (k_35 hS)) h0 h1 ?_
      refine s_callVv (z := mX9_makeRing) [vI v1, vI (σ 35 v3.toNat)] dX9_makeWalk_70 mv_X9_makeRing lk_X9_84 rfl (by decide) (k_31 hS) (Nat.le_of_ble_eq_true rfl) (WPs.mono k (fun r70 s70 k => ?_))
      refine r_aload_n dX9_makeWalk_73 rfl ?_
      refine r_iload_n dX9_makeWalk_74 rfl ?_
      refine s_callVv (z := mX9_putRing) [vI v3] dX9_makeWalk_75 mv_X9_putRing lk_X9_88 rfl (by decide) (k_31 hS) (Nat.le_of_ble_eq_true rfl) (WPs.mono k (fun r75 s75 k => ?_))
      refine r_aload_n dX9_makeWalk_78 rfl ?_
      refine r_iload_n dX9_makeWalk_79 rfl ?_
      refine s_callVv (z := mX9_firstOpenPlace) [vI v1] dX9_makeWalk_80 mv_X9_firstOpenPlace lk_X9_91 rfl (by decide) (k_31 hS) (Nat.le_of_ble_eq_true rfl) (WPs.mono k (fun r80 s80 k => ?_))
      refine r_istore_n dX9_makeWalk_83 (by decide) rfl rfl ?_
      obtain ⟨h, k⟩ := k
      refine r_iinc dX9_makeWalk_84 rfl (by decide) rfl rfl h ?_
      refine r_goto (tgt := 50) dX9_makeWalk_87 rfl ?_
      exact k
theorem e_X9_firstOpenPlace {v1 : Int} {S : ShT} {σ : StT} {Q : Int → StT → Prop} (hS : SHP S) (k : AWs mX9_firstOpenPlace 2 [(0, vR 31), (1, vI v1), (2, vI 0)] [] S σ Q) : WPs mX9_firstOpenPlace [vR 31, vI v1] S σ Q := by
  refine s_entry (by decide) (Nat.le_of_ble_eq_true rfl) rfl rfl ?_
  refine r_iconst dX9_firstOpenPlace_0 ⟨by decide, by decide⟩ ?_
  refine r_istore_n dX9_firstOpenPlace_1 (by decide) rfl rfl ?_
  exact k
theorem t_X9_firstOpenPlace_2 {v1 v2 : Int} {S : ShT} {σ : StT} {Q : Int → StT → Prop} (hS : SHP S) (k : (σ 31 7 < v2 → Q (-1) σ) ∧ (¬ (σ 31 7 < v2) → (0 ≤ v2 ∧ v2 < 49) ∧ WPs mX9_firstWayFrom [vR 31, vI v1, vI (σ 35 v2.toNat)] S σ (fun r18 s18 => (r18 = -1 → inR (v2 + 1) ∧ AWs mX9_firstOpenPlace 2 [(0, vR 31), (1, vI v1), (2, vI (v2 + 1))] [] S s18 Q) ∧ (¬ (r18 = -1) → Q v2 s18)))) : AWs mX9_firstOpenPlace 2 [(0, vR 31), (1, vI v1), (2, vI v2)] [] S σ Q := by
  refine r_iload_n dX9_firstOpenPlace_2 rfl ?_
  refine r_aload_n dX9_firstOpenPlace_3 rfl ?_
  refine r_getIv dX9_firstOpenPlace_4 fl_X9_24 rfl (k_31 hS) ?_
  refine r_icmp_gt (tgt := 33) dX9_firstOpenPlace_7 rfl (fun h => ?_) (fun h => ?_)
  · have k := k.1 h
    refine r_iconst dX9_firstOpenPlace_33 ⟨by decide, by decide⟩ ?_
    exact s_iret dX9_firstOpenPlace_34 rfl k
  · have k := k.2 h
    refine r_aload_n dX9_firstOpenPlace_10 rfl ?_
    refine r_iload_n dX9_firstOpenPlace_11 rfl ?_
    refine r_aload_n dX9_firstOpenPlace_12 rfl ?_
    refine r_getRv dX9_firstOpenPlace_13 fl_X9_21 rfl (k_31 hS) (f_31_6 hS) (by decide) ?_
    refine r_iload_n dX9_firstOpenPlace_16 rfl ?_
    obtain ⟨⟨h0, h1⟩, k⟩ := k
    refine r_iald dX9_firstOpenPlace_17 (Or.inl (k_35 hS)) h0 h1 ?_
    refine s_callVv (z := mX9_firstWayFrom) [vI v1, vI (σ 35 v2.toNat)] dX9_firstOpenPlace_18 mv_X9_firstWayFrom lk_X9_94 rfl (by decide) (k_31 hS) (Nat.le_of_ble_eq_true rfl) (WPs.mono k (fun r18 s18 k => ?_))
    refine r_iconst dX9_firstOpenPlace_21 ⟨by decide, by decide⟩ ?_
    refine r_icmp_eq (tgt := 27) dX9_firstOpenPlace_22 rfl (fun h => ?_) (fun h => ?_)
    · have k := k.1 h
      obtain ⟨h, k⟩ := k
      refine r_iinc dX9_firstOpenPlace_27 rfl (by decide) rfl rfl h ?_
      refine r_goto (tgt := 2) dX9_firstOpenPlace_30 rfl ?_
      exact k
    · have k := k.2 h
      refine r_iload_n dX9_firstOpenPlace_25 rfl ?_
      exact s_iret dX9_firstOpenPlace_26 rfl k
theorem e_X9_makeRing {v1 v2 : Int} {S : ShT} {σ : StT} {Q : Int → StT → Prop} (hS : SHP S) (k : AWs mX9_makeRing 14 [(0, vR 31), (1, vI v1), (3, vI 0)] [] S (up2 (up2 σ 31 10 0) 37 0 v2) Q) : WPs mX9_makeRing [vR 31, vI v1, vI v2] S σ Q := by
  refine s_entry (by decide) (Nat.le_of_ble_eq_true rfl) rfl rfl ?_
  refine r_aload_n dX9_makeRing_0 rfl ?_
  refine r_iconst dX9_makeRing_1 ⟨by decide, by decide⟩ ?_
  refine r_putIv dX9_makeRing_2 fl_X9_34 (fun _ h => by cases h; rfl) (Or.inl rfl) (k_31 hS) ?_
  refine r_aload_n dX9_makeRing_5 rfl ?_
  refine r_getRv dX9_makeRing_6 fl_X9_31 rfl (k_31 hS) (f_31_9 hS) (by decide) ?_
  refine r_iconst dX9_makeRing_9 ⟨by decide, by decide⟩ ?_
  refine r_iload_n dX9_makeRing_10 rfl ?_
  refine r_iast dX9_makeRing_11 (k_37 hS) (by decide) (by decide) ?_
  refine r_iconst dX9_makeRing_12 ⟨by decide, by decide⟩ ?_
  refine r_istore_n dX9_makeRing_13 (by decide) rfl rfl ?_
  refine r_loc [0, 1, 3] rfl ?_
  exact k
theorem t_X9_makeRing_14 {v1 v3 : Int} {S : ShT} {σ : StT} {Q : Int → StT → Prop} (hS : SHP S) (k : inR (v3 + (σ 31 7)) ∧ ((48 ≤ v3 + (σ 31 7) → Q 0 σ) ∧ (¬ (48 ≤ v3 + (σ 31 7)) → (0 ≤ v3 ∧ v3 < 49) ∧ WPs mX9_firstWayFrom [vR 31, vI v1, vI (σ 37 v3.toNat)] S σ (fun r33 s33 => (¬ r33 = -1 → (0 ≤ v3 ∧ v3 < 48) ∧ inR (v3 + 1) ∧ (0 ≤ v3 ∧ v3 < 49) ∧ WPs mX9_goneBy [vR 31, vI r33, vI (s33 37 v3.toNat)] S (up2 s33 36 v3.toNat r33) (fun r69 s69 => (0 ≤ v3 + 1 ∧ v3 + 1 < 49) ∧ inR (v3 + 1) ∧ inR (v3 + 1) ∧ AWs mX9_makeRing 14 [(0, vR 31), (1, vI v1), (3, vI (v3 + 1))] [] S (up2 (up2 s69 37 (v3 + 1).toNat r69) 31 10 (v3 + 1)) Q)) ∧ (r33 = -1 → Q 0 s33))))) : AWs mX9_makeRing 14 [(0, vR 31), (1, vI v1), (3, vI v3)] [] S σ Q := by
  refine r_iload_n dX9_makeRing_14 rfl ?_
  refine r_aload_n dX9_makeRing_15 rfl ?_
  refine r_getIv dX9_makeRing_16 fl_X9_24 rfl (k_31 hS) ?_
  obtain ⟨h, k⟩ := k
  refine r_iadd dX9_makeRing_19 h ?_
  refine r_bipush dX9_makeRing_20 (by decide +kernel) ⟨by decide, by decide⟩ ?_
  refine r_icmp_ge (tgt := 86) dX9_makeRing_22 rfl (fun h => ?_) (fun h => ?_)
  · have k := k.1 h
    exact s_vret dX9_makeRing_86 rfl k
  · have k := k.2 h
    refine r_aload_n dX9_makeRing_25 rfl ?_
    refine r_iload_n dX9_makeRing_26 rfl ?_
    refine r_aload_n dX9_makeRing_27 rfl ?_
    refine r_getRv dX9_makeRing_28 fl_X9_31 rfl (k_31 hS) (f_31_9 hS) (by decide) ?_
    refine r_iload_n dX9_makeRing_31 rfl ?_
    obtain ⟨⟨h0, h1⟩, k⟩ := k
    refine r_iald dX9_makeRing_32 (Or.inl (k_37 hS)) h0 h1 ?_
    refine s_callVv (z := mX9_firstWayFrom) [vI v1, vI (σ 37 v3.toNat)] dX9_makeRing_33 mv_X9_firstWayFrom lk_X9_94 rfl (by decide) (k_31 hS) (Nat.le_of_ble_eq_true rfl) (WPs.mono k (fun r33 s33 k => ?_))
    refine r_istore dX9_makeRing_36 (by decide) rfl rfl ?_
    refine r_iload dX9_makeRing_38 rfl ?_
    refine r_iconst dX9_makeRing_40 ⟨by decide, by decide⟩ ?_
    refine r_icmp_ne (tgt := 45) dX9_makeRing_41 rfl (fun h => ?_) (fun h => ?_)
    · have k := k.1 h
      refine r_aload_n dX9_makeRing_45 rfl ?_
      refine r_getRv dX9_makeRing_46 fl_X9_28 rfl (k_31 hS) (f_31_8 hS) (by decide) ?_
      refine r_iload_n dX9_makeRing_49 rfl ?_
      refine r_iload dX9_makeRing_50 rfl ?_
      obtain ⟨⟨h0, h1⟩, k⟩ := k
      refine r_iast dX9_makeRing_52 (k_36 hS) h0 h1 ?_
      refine r_aload_n dX9_makeRing_53 rfl ?_
      refine r_getRv dX9_makeRing_54 fl_X9_31 rfl (k_31 hS) (f_31_9 hS) (by decide) ?_
      refine r_iload_n dX9_makeRing_57 rfl ?_
      refine r_iconst dX9_makeRing_58 ⟨by decide, by decide⟩ ?_
      obtain ⟨h, k⟩ := k
      refine r_iadd dX9_makeRing_59 h ?_
      refine r_aload_n dX9_makeRing_60 rfl ?_
      refine r_iload dX9_makeRing_61 rfl ?_
      refine r_aload_n dX9_makeRing_63 rfl ?_
      refine r_getRv dX9_makeRing_64 fl_X9_31 rfl (k_31 hS) (f_31_9 hS) (by decide) ?_
      refine r_iload_n dX9_makeRing_67 rfl ?_
      obtain ⟨⟨h0, h1⟩, k⟩ := k
      refine r_iald dX9_makeRing_68 (Or.inl (k_37 hS)) h0 h1 ?_
      refine r_top (up2_a (by decide)) ?_
      refine s_callVv (z := mX9_goneBy) [vI r33, vI (s33 37 v3.toNat)] dX9_makeRing_69 mv_X9_goneBy lk_X9_98 rfl (by decide) (k_31 hS) (Nat.le_of_ble_eq_true rfl) (WPs.mono k (fun r69 s69 k => ?_))
      obtain ⟨⟨h0, h1⟩, k⟩ := k
      refine r_iast dX9_makeRing_72 (k_37 hS) h0 h1 ?_
      refine r_aload_n dX9_makeRing_73 rfl ?_
      refine r_iload_n dX9_makeRing_74 rfl ?_
      refine r_iconst dX9_makeRing_75 ⟨by decide, by decide⟩ ?_
      obtain ⟨h, k⟩ := k
      refine r_iadd dX9_makeRing_76 h ?_
      refine r_putIv dX9_makeRing_77 fl_X9_34 (fun _ h => by cases h; rfl) (Or.inl rfl) (k_31 hS) ?_
      obtain ⟨h, k⟩ := k
      refine r_iinc dX9_makeRing_80 rfl (by decide) rfl rfl h ?_
      refine r_goto (tgt := 14) dX9_makeRing_83 rfl ?_
      refine r_loc [0, 1, 2] rfl ?_
      exact k
    · have k := k.2 h
      exact s_vret dX9_makeRing_44 rfl k
theorem e_X9_firstWayFrom {v1 v2 : Int} {S : ShT} {σ : StT} {Q : Int → StT → Prop} (hS : SHP S) (k : AWs mX9_firstWayFrom 2 [(0, vR 31), (1, vI v1), (2, vI v2), (3, vI 0)] [] S σ Q) : WPs mX9_firstWayFrom [vR 31, vI v1, vI v2] S σ Q := by
  refine s_entry (by decide) (Nat.le_of_ble_eq_true rfl) rfl rfl ?_
  refine r_iconst dX9_firstWayFrom_0 ⟨by decide, by decide⟩ ?_
  refine r_istore_n dX9_firstWayFrom_1 (by decide) rfl rfl ?_
  exact k
theorem t_X9_firstWayFrom_2 {v1 v2 v3 : Int} {S : ShT} {σ : StT} {Q : Int → StT → Prop} (hS : SHP S) (k : (σ 4 2 ≤ v3 → WPs mX4_firstIn [vR 20, vI v1] S σ (fun r82 s82 => AWs mX9_firstWayFrom 86 [(0, vR 31), (1, vI v1), (2, vI v2), (3, vI r82)] [] S s82 Q)) ∧ (¬ (σ 4 2 ≤ v3) → (0 ≤ v3 ∧ v3 < 24) ∧ ((¬ σ 38 v3.toNat = 0 → AWs mX9_firstWayFrom 40 [(0, vR 31), (1, vI v1), (2, vI v2), (3, vI v3)] [] S σ Q) ∧ (σ 38 v3.toNat = 0 → inR (2 * v3) ∧ WPs mX3_of [vR 7, vI (2 * v3)] S σ (fun r29 s29 => (¬ r29 = v2 → AWs mX9_firstWayFrom 40 [(0, vR 31), (1, vI v1), (2, vI v2), (3, vI v3)] [] S s29 Q) ∧ (r29 = v2 → inR (2 * v3) ∧ Q (2 * v3) s29)))))) : AWs mX9_firstWayFrom 2 [(0, vR 31), (1, vI v1), (2, vI v2), (3, vI v3)] [] S σ Q := by
  refine r_iload_n dX9_firstWayFrom_2 rfl ?_
  refine r_aload_n dX9_firstWayFrom_3 rfl ?_
  refine r_getRv dX9_firstWayFrom_4 fl_X9_44 rfl (k_31 hS) (f_31_0 hS) (by decide) ?_
  refine r_getIv dX9_firstWayFrom_7 fl_X9_101 rfl (k_4 hS) ?_
  refine r_icmp_ge (tgt := 77) dX9_firstWayFrom_10 rfl (fun h => ?_) (fun h => ?_)
  · have k := k.1 h
    refine r_aload_n dX9_firstWayFrom_77 rfl ?_
    refine r_getRv dX9_firstWayFrom_78 fl_X9_52 rfl (k_31 hS) (f_31_2 hS) (by decide) ?_
    refine r_iload_n dX9_firstWayFrom_81 rfl ?_
    refine s_callVv (z := mX4_firstIn) [vI v1] dX9_firstWayFrom_82 mv_X4_firstIn lk_X9_109 rfl (by decide) (k_20 hS) (Nat.le_of_ble_eq_true rfl) (WPs.mono k (fun r82 s82 k => ?_))
    refine r_istore_n dX9_firstWayFrom_85 (by decide) rfl rfl ?_
    exact k
  · have k := k.2 h
    refine r_aload_n dX9_firstWayFrom_13 rfl ?_
    refine r_getRv dX9_firstWayFrom_14 fl_X9_37 rfl (k_31 hS) (f_31_11 hS) (by decide) ?_
    refine r_iload_n dX9_firstWayFrom_17 rfl ?_
    obtain ⟨⟨h0, h1⟩, k⟩ := k
    refine r_zald dX9_firstWayFrom_18 (k_38 hS) h0 h1 ?_
    refine r_if_ne (tgt := 40) dX9_firstWayFrom_19 rfl (fun h => ?_) (fun h => ?_)
    · have k := k.1 h
      exact k
    · have k := k.2 h
      refine r_aload_n dX9_firstWayFrom_22 rfl ?_
      refine r_getRv dX9_firstWayFrom_23 fl_X9_48 rfl (k_31 hS) (f_31_1 hS) (by decide) ?_
      refine r_iconst dX9_firstWayFrom_26 ⟨by decide, by decide⟩ ?_
      refine r_iload_n dX9_firstWayFrom_27 rfl ?_
      obtain ⟨h, k⟩ := k
      refine r_imul dX9_firstWayFrom_28 h ?_
      refine s_callVv (z := mX3_of) [vI (2 * v3)] dX9_firstWayFrom_29 mv_X3_of lk_X9_106 rfl (by decide) (k_7 hS) (Nat.le_of_ble_eq_true rfl) (WPs.mono k (fun r29 s29 k => ?_))
      refine r_iload_n dX9_firstWayFrom_32 rfl ?_
      refine r_icmp_ne (tgt := 40) dX9_firstWayFrom_33 rfl (fun h => ?_) (fun h => ?_)
      · have k := k.1 h
        exact k
      · have k := k.2 h
        refine r_iconst dX9_firstWayFrom_36 ⟨by decide, by decide⟩ ?_
        refine r_iload_n dX9_firstWayFrom_37 rfl ?_
        obtain ⟨h, k⟩ := k
        refine r_imul dX9_firstWayFrom_38 h ?_
        exact s_iret dX9_firstWayFrom_39 rfl k
theorem t_X9_firstWayFrom_40 {v1 v2 v3 : Int} {S : ShT} {σ : StT} {Q : Int → StT → Prop} (hS : SHP S) (k : (0 ≤ v3 ∧ v3 < 24) ∧ ((¬ σ 38 v3.toNat = 0 → inR (v3 + 1) ∧ AWs mX9_firstWayFrom 2 [(0, vR 31), (1, vI v1), (2, vI v2), (3, vI (v3 + 1))] [] S σ Q) ∧ (σ 38 v3.toNat = 0 → inR (2 * v3) ∧ inR ((2 * v3) + 1) ∧ WPs mX3_of [vR 7, vI ((2 * v3) + 1)] S σ (fun r58 s58 => (¬ r58 = v2 → inR (v3 + 1) ∧ AWs mX9_firstWayFrom 2 [(0, vR 31), (1, vI v1), (2, vI v2), (3, vI (v3 + 1))] [] S s58 Q) ∧ (r58 = v2 → inR (2 * v3) ∧ inR ((2 * v3) + 1) ∧ Q ((2 * v3) + 1) s58))))) : AWs mX9_firstWayFrom 40 [(0, vR 31), (1, vI v1), (2, vI v2), (3, vI v3)] [] S σ Q := by
  refine r_aload_n dX9_firstWayFrom_40 rfl ?_
  refine r_getRv dX9_firstWayFrom_41 fl_X9_37 rfl (k_31 hS) (f_31_11 hS) (by decide) ?_
  refine r_iload_n dX9_firstWayFrom_44 rfl ?_
  obtain ⟨⟨h0, h1⟩, k⟩ := k
  refine r_zald dX9_firstWayFrom_45 (k_38 hS) h0 h1 ?_
  refine r_if_ne (tgt := 71) dX9_firstWayFrom_46 rfl (fun h => ?_) (fun h => ?_)
  · have k := k.1 h
    obtain ⟨h, k⟩ := k
    refine r_iinc dX9_firstWayFrom_71 rfl (by decide) rfl rfl h ?_
    refine r_goto (tgt := 2) dX9_firstWayFrom_74 rfl ?_
    exact k
  · have k := k.2 h
    refine r_aload_n dX9_firstWayFrom_49 rfl ?_
    refine r_getRv dX9_firstWayFrom_50 fl_X9_48 rfl (k_31 hS) (f_31_1 hS) (by decide) ?_
    refine r_iconst dX9_firstWayFrom_53 ⟨by decide, by decide⟩ ?_
    refine r_iload_n dX9_firstWayFrom_54 rfl ?_
    obtain ⟨h, k⟩ := k
    refine r_imul dX9_firstWayFrom_55 h ?_
    refine r_iconst dX9_firstWayFrom_56 ⟨by decide, by decide⟩ ?_
    obtain ⟨h, k⟩ := k
    refine r_iadd dX9_firstWayFrom_57 h ?_
    refine s_callVv (z := mX3_of) [vI ((2 * v3) + 1)] dX9_firstWayFrom_58 mv_X3_of lk_X9_106 rfl (by decide) (k_7 hS) (Nat.le_of_ble_eq_true rfl) (WPs.mono k (fun r58 s58 k => ?_))
    refine r_iload_n dX9_firstWayFrom_61 rfl ?_
    refine r_icmp_ne (tgt := 71) dX9_firstWayFrom_62 rfl (fun h => ?_) (fun h => ?_)
    · have k := k.1 h
      obtain ⟨h, k⟩ := k
      refine r_iinc dX9_firstWayFrom_71 rfl (by decide) rfl rfl h ?_
      refine r_goto (tgt := 2) dX9_firstWayFrom_74 rfl ?_
      exact k
    · have k := k.2 h
      refine r_iconst dX9_firstWayFrom_65 ⟨by decide, by decide⟩ ?_
      refine r_iload_n dX9_firstWayFrom_66 rfl ?_
      obtain ⟨h, k⟩ := k
      refine r_imul dX9_firstWayFrom_67 h ?_
      refine r_iconst dX9_firstWayFrom_68 ⟨by decide, by decide⟩ ?_
      obtain ⟨h, k⟩ := k
      refine r_iadd dX9_firstWayFrom_69 h ?_
      exact s_iret dX9_firstWayFrom_70 rfl k
theorem t_X9_firstWayFrom_86 {v1 v2 v3 : Int} {S : ShT} {σ : StT} {Q : Int → StT → Prop} (hS : SHP S) (k : WPs mX4_behindLastIn [vR 20, vI v1] S σ (fun r92 s92 => (r92 ≤ v3 → Q (-1) s92) ∧ (¬ (r92 ≤ v3) → (0 ≤ v3 ∧ v3 < 24) ∧ ((¬ s92 39 v3.toNat = 0 → inR (v3 + 1) ∧ AWs mX9_firstWayFrom 86 [(0, vR 31), (1, vI v1), (2, vI v2), (3, vI (v3 + 1))] [] S s92 Q) ∧ (s92 39 v3.toNat = 0 → (0 ≤ v3 ∧ v3 < 24) ∧ ((s92 21 v3.toNat = v2 → inR ((-3) - v3) ∧ Q ((-3) - v3) s92) ∧ (¬ (s92 21 v3.toNat = v2) → (0 ≤ v3 ∧ v3 < 24) ∧ ((¬ s92 22 v3.toNat = v2 → inR (v3 + 1) ∧ AWs mX9_firstWayFrom 86 [(0, vR 31), (1, vI v1), (2, vI v2), (3, vI (v3 + 1))] [] S s92 Q) ∧ (s92 22 v3.toNat = v2 → inR ((-3) - v3) ∧ Q ((-3) - v3) s92))))))))) : AWs mX9_firstWayFrom 86 [(0, vR 31), (1, vI v1), (2, vI v2), (3, vI v3)] [] S σ Q := by
  refine r_iload_n dX9_firstWayFrom_86 rfl ?_
  refine r_aload_n dX9_firstWayFrom_87 rfl ?_
  refine r_getRv dX9_firstWayFrom_88 fl_X9_52 rfl (k_31 hS) (f_31_2 hS) (by decide) ?_
  refine r_iload_n dX9_firstWayFrom_91 rfl ?_
  refine s_callVv (z := mX4_behindLastIn) [vI v1] dX9_firstWayFrom_92 mv_X4_behindLastIn lk_X9_112 rfl (by decide) (k_20 hS) (Nat.le_of_ble_eq_true rfl) (WPs.mono k (fun r92 s92 k => ?_))
  refine r_icmp_ge (tgt := 144) dX9_firstWayFrom_95 rfl (fun h => ?_) (fun h => ?_)
  · have k := k.1 h
    refine r_iconst dX9_firstWayFrom_144 ⟨by decide, by decide⟩ ?_
    exact s_iret dX9_firstWayFrom_145 rfl k
  · have k := k.2 h
    refine r_aload_n dX9_firstWayFrom_98 rfl ?_
    refine r_getRv dX9_firstWayFrom_99 fl_X9_41 rfl (k_31 hS) (f_31_12 hS) (by decide) ?_
    refine r_iload_n dX9_firstWayFrom_102 rfl ?_
    obtain ⟨⟨h0, h1⟩, k⟩ := k
    refine r_zald dX9_firstWayFrom_103 (k_39 hS) h0 h1 ?_
    refine r_if_ne (tgt := 138) dX9_firstWayFrom_104 rfl (fun h => ?_) (fun h => ?_)
    · have k := k.1 h
      obtain ⟨h, k⟩ := k
      refine r_iinc dX9_firstWayFrom_138 rfl (by decide) rfl rfl h ?_
      refine r_goto (tgt := 86) dX9_firstWayFrom_141 rfl ?_
      exact k
    · have k := k.2 h
      refine r_aload_n dX9_firstWayFrom_107 rfl ?_
      refine r_getRv dX9_firstWayFrom_108 fl_X9_52 rfl (k_31 hS) (f_31_2 hS) (by decide) ?_
      refine r_getRv dX9_firstWayFrom_111 fl_X9_81 rfl (k_20 hS) (f_20_1 hS) (by decide) ?_
      refine r_iload_n dX9_firstWayFrom_114 rfl ?_
      obtain ⟨⟨h0, h1⟩, k⟩ := k
      refine r_iald dX9_firstWayFrom_115 (Or.inl (k_21 hS)) h0 h1 ?_
      refine r_iload_n dX9_firstWayFrom_116 rfl ?_
      refine r_icmp_eq (tgt := 133) dX9_firstWayFrom_117 rfl (fun h => ?_) (fun h => ?_)
      · have k := k.1 h
        refine r_bipush dX9_firstWayFrom_133 (by decide +kernel) ⟨by decide, by decide⟩ ?_
        refine r_iload_n dX9_firstWayFrom_135 rfl ?_
        obtain ⟨h, k⟩ := k
        refine r_isub dX9_firstWayFrom_136 h ?_
        exact s_iret dX9_firstWayFrom_137 rfl k
      · have k := k.2 h
        refine r_aload_n dX9_firstWayFrom_120 rfl ?_
        refine r_getRv dX9_firstWayFrom_121 fl_X9_52 rfl (k_31 hS) (f_31_2 hS) (by decide) ?_
        refine r_getRv dX9_firstWayFrom_124 fl_X9_115 rfl (k_20 hS) (f_20_2 hS) (by decide) ?_
        refine r_iload_n dX9_firstWayFrom_127 rfl ?_
        obtain ⟨⟨h0, h1⟩, k⟩ := k
        refine r_iald dX9_firstWayFrom_128 (Or.inl (k_22 hS)) h0 h1 ?_
        refine r_iload_n dX9_firstWayFrom_129 rfl ?_
        refine r_icmp_ne (tgt := 138) dX9_firstWayFrom_130 rfl (fun h => ?_) (fun h => ?_)
        · have k := k.1 h
          obtain ⟨h, k⟩ := k
          refine r_iinc dX9_firstWayFrom_138 rfl (by decide) rfl rfl h ?_
          refine r_goto (tgt := 86) dX9_firstWayFrom_141 rfl ?_
          exact k
        · have k := k.2 h
          refine r_bipush dX9_firstWayFrom_133 (by decide +kernel) ⟨by decide, by decide⟩ ?_
          refine r_iload_n dX9_firstWayFrom_135 rfl ?_
          obtain ⟨h, k⟩ := k
          refine r_isub dX9_firstWayFrom_136 h ?_
          exact s_iret dX9_firstWayFrom_137 rfl k
theorem e_X9_goneBy {v1 v2 : Int} {S : ShT} {σ : StT} {Q : Int → StT → Prop} (hS : SHP S) (k : WPs mX9_isHop [vI v1] S σ (fun r1 s1 => (r1 = 0 → 0 ≤ v1 ∧ (0 ≤ v1 / 2 ∧ v1 / 2 < 24) ∧ WPs mX3_of [vR 7, vI (iXor v1 1)] S (up2 s1 38 (v1 / 2).toNat 1) (fun r70 s70 => Q r70 s70)) ∧ (¬ (r1 = 0) → inR ((-3) - v1) ∧ ((0 ≤ (-3) - v1 ∧ (-3) - v1 < 24) ∧ ((0 ≤ (-3) - v1 ∧ (-3) - v1 < 24) ∧ ((¬ s1 21 ((-3) - v1).toNat = v2 → (0 ≤ (-3) - v1 ∧ (-3) - v1 < 24) ∧ Q (s1 21 ((-3) - v1).toNat) (up2 s1 39 ((-3) - v1).toNat 1)) ∧ (s1 21 ((-3) - v1).toNat = v2 → (0 ≤ (-3) - v1 ∧ (-3) - v1 < 24) ∧ Q (s1 22 ((-3) - v1).toNat) (up2 s1 39 ((-3) - v1).toNat 1)))))))) : WPs mX9_goneBy [vR 31, vI v1, vI v2] S σ Q := by
  refine s_entry (by decide) (Nat.le_of_ble_eq_true rfl) rfl rfl ?_
  refine r_iload_n dX9_goneBy_0 rfl ?_
  refine s_callS (z := mX9_isHop) [vI v1] dX9_goneBy_1 ms_X9_isHop lk_X9_118 rfl (by decide) (Nat.le_of_ble_eq_true rfl) (WPs.mono k (fun r1 s1 k => ?_))
  refine r_if_eq (tgt := 54) dX9_goneBy_4 rfl (fun h => ?_) (fun h => ?_)
  · have k := k.1 h
    refine r_aload_n dX9_goneBy_54 rfl ?_
    refine r_getRv dX9_goneBy_55 fl_X9_37 rfl (k_31 hS) (f_31_11 hS) (by decide) ?_
    refine r_iload_n dX9_goneBy_58 rfl ?_
    refine r_iconst dX9_goneBy_59 ⟨by decide, by decide⟩ ?_
    obtain ⟨h, k⟩ := k
    refine r_idiv dX9_goneBy_60 h (by decide) ?_
    refine r_iconst dX9_goneBy_61 ⟨by decide, by decide⟩ ?_
    obtain ⟨⟨h0, h1⟩, k⟩ := k
    refine r_zast dX9_goneBy_62 (k_38 hS) (by decide) h0 h1 ?_
    refine r_aload_n dX9_goneBy_63 rfl ?_
    refine r_getRv dX9_goneBy_64 fl_X9_48 rfl (k_31 hS) (f_31_1 hS) (by decide) ?_
    refine r_iload_n dX9_goneBy_67 rfl ?_
    refine r_iconst dX9_goneBy_68 ⟨by decide, by decide⟩ ?_
    refine r_ixor dX9_goneBy_69 ?_
    refine s_callVv (z := mX3_of) [vI (iXor v1 1)] dX9_goneBy_70 mv_X3_of lk_X9_106 rfl (by decide) (k_7 hS) (Nat.le_of_ble_eq_true rfl) (WPs.mono k (fun r70 s70 k => ?_))
    exact s_iret dX9_goneBy_73 rfl k
  · have k := k.2 h
    refine r_bipush dX9_goneBy_7 (by decide +kernel) ⟨by decide, by decide⟩ ?_
    refine r_iload_n dX9_goneBy_9 rfl ?_
    obtain ⟨h, k⟩ := k
    refine r_isub dX9_goneBy_10 h ?_
    refine r_istore_n dX9_goneBy_11 (by decide) rfl rfl ?_
    refine r_aload_n dX9_goneBy_12 rfl ?_
    refine r_getRv dX9_goneBy_13 fl_X9_41 rfl (k_31 hS) (f_31_12 hS) (by decide) ?_
    refine r_iload_n dX9_goneBy_16 rfl ?_
    refine r_iconst dX9_goneBy_17 ⟨by decide, by decide⟩ ?_
    obtain ⟨⟨h0, h1⟩, k⟩ := k
    refine r_zast dX9_goneBy_18 (k_39 hS) (by decide) h0 h1 ?_
    refine r_aload_n dX9_goneBy_19 rfl ?_
    refine r_getRv dX9_goneBy_20 fl_X9_52 rfl (k_31 hS) (f_31_2 hS) (by decide) ?_
    refine r_getRv dX9_goneBy_23 fl_X9_81 rfl (k_20 hS) (f_20_1 hS) (by decide) ?_
    refine r_iload_n dX9_goneBy_26 rfl ?_
    obtain ⟨⟨h0, h1⟩, k⟩ := k
    refine r_iald dX9_goneBy_27 (Or.inl (k_21 hS)) h0 h1 ?_
    refine r_top (up2_a (by decide)) ?_
    refine r_iload_n dX9_goneBy_28 rfl ?_
    refine r_icmp_ne (tgt := 44) dX9_goneBy_29 rfl (fun h => ?_) (fun h => ?_)
    · have k := k.1 h
      refine r_aload_n dX9_goneBy_44 rfl ?_
      refine r_getRv dX9_goneBy_45 fl_X9_52 rfl (k_31 hS) (f_31_2 hS) (by decide) ?_
      refine r_getRv dX9_goneBy_48 fl_X9_81 rfl (k_20 hS) (f_20_1 hS) (by decide) ?_
      refine r_iload_n dX9_goneBy_51 rfl ?_
      obtain ⟨⟨h0, h1⟩, k⟩ := k
      refine r_iald dX9_goneBy_52 (Or.inl (k_21 hS)) h0 h1 ?_
      refine r_top (up2_a (by decide)) ?_
      exact s_iret dX9_goneBy_53 rfl k
    · have k := k.2 h
      refine r_aload_n dX9_goneBy_32 rfl ?_
      refine r_getRv dX9_goneBy_33 fl_X9_52 rfl (k_31 hS) (f_31_2 hS) (by decide) ?_
      refine r_getRv dX9_goneBy_36 fl_X9_115 rfl (k_20 hS) (f_20_2 hS) (by decide) ?_
      refine r_iload_n dX9_goneBy_39 rfl ?_
      obtain ⟨⟨h0, h1⟩, k⟩ := k
      refine r_iald dX9_goneBy_40 (Or.inl (k_22 hS)) h0 h1 ?_
      refine r_top (up2_a (by decide)) ?_
      refine r_goto (tgt := 53) dX9_goneBy_41 rfl ?_
      exact s_iret dX9_goneBy_53 rfl k
theorem e_X9_putRing {v1 : Int} {S : ShT} {σ : StT} {Q : Int → StT → Prop} (hS : SHP S) (k : inR ((σ 31 7) - 1) ∧ AWs mX9_putRing 7 [(0, vR 31), (1, vI v1), (2, vI ((σ 31 7) - 1))] [] S σ Q) : WPs mX9_putRing [vR 31, vI v1] S σ Q := by
  refine s_entry (by decide) (Nat.le_of_ble_eq_true rfl) rfl rfl ?_
  refine r_aload_n dX9_putRing_0 rfl ?_
  refine r_getIv dX9_putRing_1 fl_X9_24 rfl (k_31 hS) ?_
  refine r_iconst dX9_putRing_4 ⟨by decide, by decide⟩ ?_
  obtain ⟨h, k⟩ := k
  refine r_isub dX9_putRing_5 h ?_
  refine r_istore_n dX9_putRing_6 (by decide) rfl rfl ?_
  exact k
theorem t_X9_putRing_7 {v1 v2 : Int} {S : ShT} {σ : StT} {Q : Int → StT → Prop} (hS : SHP S) (k : (v2 < v1 → AWs mX9_putRing 58 [(0, vR 31), (1, vI v1), (2, vI 0)] [] S σ Q) ∧ (¬ (v2 < v1) → inR (v2 + (σ 31 10)) ∧ (0 ≤ v2 ∧ v2 < 48) ∧ (0 ≤ v2 + (σ 31 10) ∧ v2 + (σ 31 10) < 48) ∧ inR (v2 + 1) ∧ inR ((v2 + 1) + (σ 31 10)) ∧ inR (v2 + 1) ∧ (0 ≤ v2 + 1 ∧ v2 + 1 < 49) ∧ (0 ≤ (v2 + 1) + (σ 31 10) ∧ (v2 + 1) + (σ 31 10) < 49) ∧ inR (v2 + -1) ∧ AWs mX9_putRing 7 [(0, vR 31), (1, vI v1), (2, vI (v2 + -1))] [] S (up2 (up2 σ 34 (v2 + (σ 31 10)).toNat (σ 34 v2.toNat)) 35 ((v2 + 1) + (σ 31 10)).toNat (σ 35 (v2 + 1).toNat)) Q)) : AWs mX9_putRing 7 [(0, vR 31), (1, vI v1), (2, vI v2)] [] S σ Q := by
  refine r_iload_n dX9_putRing_7 rfl ?_
  refine r_iload_n dX9_putRing_8 rfl ?_
  refine r_icmp_lt (tgt := 56) dX9_putRing_9 rfl (fun h => ?_) (fun h => ?_)
  · have k := k.1 h
    refine r_iconst dX9_putRing_56 ⟨by decide, by decide⟩ ?_
    refine r_istore_n dX9_putRing_57 (by decide) rfl rfl ?_
    exact k
  · have k := k.2 h
    refine r_aload_n dX9_putRing_12 rfl ?_
    refine r_getRv dX9_putRing_13 fl_X9_18 rfl (k_31 hS) (f_31_5 hS) (by decide) ?_
    refine r_iload_n dX9_putRing_16 rfl ?_
    refine r_aload_n dX9_putRing_17 rfl ?_
    refine r_getIv dX9_putRing_18 fl_X9_34 rfl (k_31 hS) ?_
    obtain ⟨h, k⟩ := k
    refine r_iadd dX9_putRing_21 h ?_
    refine r_aload_n dX9_putRing_22 rfl ?_
    refine r_getRv dX9_putRing_23 fl_X9_18 rfl (k_31 hS) (f_31_5 hS) (by decide) ?_
    refine r_iload_n dX9_putRing_26 rfl ?_
    obtain ⟨⟨h0, h1⟩, k⟩ := k
    refine r_iald dX9_putRing_27 (Or.inl (k_34 hS)) h0 h1 ?_
    obtain ⟨⟨h0, h1⟩, k⟩ := k
    refine r_iast dX9_putRing_28 (k_34 hS) h0 h1 ?_
    refine r_aload_n dX9_putRing_29 rfl ?_
    refine r_getRv dX9_putRing_30 fl_X9_21 rfl (k_31 hS) (f_31_6 hS) (by decide) ?_
    refine r_iload_n dX9_putRing_33 rfl ?_
    refine r_iconst dX9_putRing_34 ⟨by decide, by decide⟩ ?_
    obtain ⟨h, k⟩ := k
    refine r_iadd dX9_putRing_35 h ?_
    refine r_aload_n dX9_putRing_36 rfl ?_
    refine r_getIv dX9_putRing_37 fl_X9_34 rfl (k_31 hS) ?_
    refine r_top (up2_a (by decide)) ?_
    obtain ⟨h, k⟩ := k
    refine r_iadd dX9_putRing_40 h ?_
    refine r_aload_n dX9_putRing_41 rfl ?_
    refine r_getRv dX9_putRing_42 fl_X9_21 rfl (k_31 hS) (f_31_6 hS) (by decide) ?_
    refine r_iload_n dX9_putRing_45 rfl ?_
    refine r_iconst dX9_putRing_46 ⟨by decide, by decide⟩ ?_
    obtain ⟨h, k⟩ := k
    refine r_iadd dX9_putRing_47 h ?_
    obtain ⟨⟨h0, h1⟩, k⟩ := k
    refine r_iald dX9_putRing_48 (Or.inl (k_35 hS)) h0 h1 ?_
    refine r_top (up2_a (by decide)) ?_
    obtain ⟨⟨h0, h1⟩, k⟩ := k
    refine r_iast dX9_putRing_49 (k_35 hS) h0 h1 ?_
    obtain ⟨h, k⟩ := k
    refine r_iinc dX9_putRing_50 rfl (by decide) rfl rfl h ?_
    refine r_goto (tgt := 7) dX9_putRing_53 rfl ?_
    exact k
theorem t_X9_putRing_58 {v1 v2 : Int} {S : ShT} {σ : StT} {Q : Int → StT → Prop} (hS : SHP S) (k : (σ 31 10 ≤ v2 → inR ((σ 31 7) + (σ 31 10)) ∧ Q 0 (up2 σ 31 7 ((σ 31 7) + (σ 31 10)))) ∧ (¬ (σ 31 10 ≤ v2) → inR (v1 + v2) ∧ (0 ≤ v2 ∧ v2 < 48) ∧ (0 ≤ v1 + v2 ∧ v1 + v2 < 48) ∧ inR (v1 + v2) ∧ inR ((v1 + v2) + 1) ∧ inR (v2 + 1) ∧ (0 ≤ v2 + 1 ∧ v2 + 1 < 49) ∧ (0 ≤ (v1 + v2) + 1 ∧ (v1 + v2) + 1 < 49) ∧ inR (v2 + 1) ∧ AWs mX9_putRing 58 [(0, vR 31), (1, vI v1), (2, vI (v2 + 1))] [] S (up2 (up2 σ 34 (v1 + v2).toNat (σ 36 v2.toNat)) 35 ((v1 + v2) + 1).toNat (σ 37 (v2 + 1).toNat)) Q)) : AWs mX9_putRing 58 [(0, vR 31), (1, vI v1), (2, vI v2)] [] S σ Q := by
  refine r_iload_n dX9_putRing_58 rfl ?_
  refine r_aload_n dX9_putRing_59 rfl ?_
  refine r_getIv dX9_putRing_60 fl_X9_34 rfl (k_31 hS) ?_
  refine r_icmp_ge (tgt := 104) dX9_putRing_63 rfl (fun h => ?_) (fun h => ?_)
  · have k := k.1 h
    refine r_aload_n dX9_putRing_104 rfl ?_
    refine r_dup dX9_putRing_105 rfl ?_
    refine r_getIv dX9_putRing_106 fl_X9_24 rfl (k_31 hS) ?_
    refine r_aload_n dX9_putRing_109 rfl ?_
    refine r_getIv dX9_putRing_110 fl_X9_34 rfl (k_31 hS) ?_
    obtain ⟨h, k⟩ := k
    refine r_iadd dX9_putRing_113 h ?_
    refine r_putIv dX9_putRing_114 fl_X9_24 (fun _ h => by cases h; rfl) (Or.inl rfl) (k_31 hS) ?_
    exact s_vret dX9_putRing_117 rfl k
  · have k := k.2 h
    refine r_aload_n dX9_putRing_66 rfl ?_
    refine r_getRv dX9_putRing_67 fl_X9_18 rfl (k_31 hS) (f_31_5 hS) (by decide) ?_
    refine r_iload_n dX9_putRing_70 rfl ?_
    refine r_iload_n dX9_putRing_71 rfl ?_
    obtain ⟨h, k⟩ := k
    refine r_iadd dX9_putRing_72 h ?_
    refine r_aload_n dX9_putRing_73 rfl ?_
    refine r_getRv dX9_putRing_74 fl_X9_28 rfl (k_31 hS) (f_31_8 hS) (by decide) ?_
    refine r_iload_n dX9_putRing_77 rfl ?_
    obtain ⟨⟨h0, h1⟩, k⟩ := k
    refine r_iald dX9_putRing_78 (Or.inl (k_36 hS)) h0 h1 ?_
    obtain ⟨⟨h0, h1⟩, k⟩ := k
    refine r_iast dX9_putRing_79 (k_34 hS) h0 h1 ?_
    refine r_aload_n dX9_putRing_80 rfl ?_
    refine r_getRv dX9_putRing_81 fl_X9_21 rfl (k_31 hS) (f_31_6 hS) (by decide) ?_
    refine r_iload_n dX9_putRing_84 rfl ?_
    refine r_iload_n dX9_putRing_85 rfl ?_
    obtain ⟨h, k⟩ := k
    refine r_iadd dX9_putRing_86 h ?_
    refine r_iconst dX9_putRing_87 ⟨by decide, by decide⟩ ?_
    obtain ⟨h, k⟩ := k
    refine r_iadd dX9_putRing_88 h ?_
    refine r_aload_n dX9_putRing_89 rfl ?_
    refine r_getRv dX9_putRing_90 fl_X9_31 rfl (k_31 hS) (f_31_9 hS) (by decide) ?_
    refine r_iload_n dX9_putRing_93 rfl ?_
    refine r_iconst dX9_putRing_94 ⟨by decide, by decide⟩ ?_
    obtain ⟨h, k⟩ := k
    refine r_iadd dX9_putRing_95 h ?_
    obtain ⟨⟨h0, h1⟩, k⟩ := k
    refine r_iald dX9_putRing_96 (Or.inl (k_37 hS)) h0 h1 ?_
    refine r_top (up2_a (by decide)) ?_
    obtain ⟨⟨h0, h1⟩, k⟩ := k
    refine r_iast dX9_putRing_97 (k_35 hS) h0 h1 ?_
    obtain ⟨h, k⟩ := k
    refine r_iinc dX9_putRing_98 rfl (by decide) rfl rfl h ?_
    refine r_goto (tgt := 58) dX9_putRing_101 rfl ?_
    exact k
