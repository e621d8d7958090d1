theorem e_X6_reads {v1 : Int} {S : ShT} {σ : StT} {Q : Int → StT → Prop} (hS : SHP S) (k : WPs mX6_begin [vR 124, vI v1] S σ (fun r2 s2 => AWs mX6_reads 7 [(0, vR 124), (1, vI v1), (2, vI 0)] [] S s2 Q)) : WPs mX6_reads [vR 124, vI v1] S σ Q := by
  refine s_entry (by decide) (Nat.le_of_ble_eq_true rfl) rfl rfl ?_
  refine r_aload_n dX6_reads_0 rfl ?_
  refine r_iload_n dX6_reads_1 rfl ?_
  refine s_callVv (z := mX6_begin) [vI v1] dX6_reads_2 mv_X6_begin lk_X6_36 rfl (by decide) (k_124 hS) (Nat.le_of_ble_eq_true rfl) (WPs.mono k (fun r2 s2 k => ?_))
  refine r_iconst dX6_reads_5 ⟨by decide, by decide⟩ ?_
  refine r_istore_n dX6_reads_6 (by decide) rfl rfl ?_
  exact k
theorem t_X6_reads_7 {v1 v2 : Int} {S : ShT} {σ : StT} {Q : Int → StT → Prop} (hS : SHP S) (k : (v1 < v2 → WPs mX6_fails [vR 124, vI 1] S σ (fun r65 s65 => (r65 = 0 ∨ r65 = 1) ∧ Q r65 s65)) ∧ (¬ (v1 < v2) → WPs mX6_readsLine [vR 124] S σ (fun r13 s13 => (¬ r13 = 0 → WPs mX7_step [vR 2] S s13 (fun r25 s25 => (¬ s25 2 4 = 0 → (s25 2 4 = 3 → inR (v2 + 1) ∧ AWs mX6_reads 7 [(0, vR 124), (1, vI v1), (2, vI (v2 + 1))] [] S s25 Q) ∧ (¬ (s25 2 4 = 3) → WPs mX6_fails [vR 124, vI 1] S s25 (fun r53 s53 => (r53 = 0 ∨ r53 = 1) ∧ Q r53 s53))) ∧ (s25 2 4 = 0 → Q 1 s25))) ∧ (r13 = 0 → Q 0 s13)))) : AWs mX6_reads 7 [(0, vR 124), (1, vI v1), (2, vI v2)] [] S σ Q := by
  refine r_iload_n dX6_reads_7 rfl ?_
  refine r_iload_n dX6_reads_8 rfl ?_
  refine r_icmp_gt (tgt := 63) dX6_reads_9 rfl (fun h => ?_) (fun h => ?_)
  · have k := k.1 h
    refine r_aload_n dX6_reads_63 rfl ?_
    refine r_iconst dX6_reads_64 ⟨by decide, by decide⟩ ?_
    refine s_callVv (z := mX6_fails) [vI 1] dX6_reads_65 mv_X6_fails lk_X6_52 rfl (by decide) (k_124 hS) (Nat.le_of_ble_eq_true rfl) (WPs.mono k (fun r65 s65 k => ?_))
    exact s_zret dX6_reads_68 rfl k.1 k.2
  · have k := k.2 h
    refine r_aload_n dX6_reads_12 rfl ?_
    refine s_callVv (z := mX6_readsLine) [] dX6_reads_13 mv_X6_readsLine lk_X6_40 rfl (by decide) (k_124 hS) (Nat.le_of_ble_eq_true rfl) (WPs.mono k (fun r13 s13 k => ?_))
    refine r_if_ne (tgt := 21) dX6_reads_16 rfl (fun h => ?_) (fun h => ?_)
    · have k := k.1 h
      refine r_aload_n dX6_reads_21 rfl ?_
      refine r_getRv dX6_reads_22 fl_X6_28 rfl (k_124 hS) (f_124_0 hS) (by decide) ?_
      refine s_callVv (z := mX7_step) [] dX6_reads_25 mv_X7_step lk_X6_44 rfl (by decide) (k_2 hS) (Nat.le_of_ble_eq_true rfl) (WPs.mono k (fun r25 s25 k => ?_))
      refine r_aload_n dX6_reads_28 rfl ?_
      refine r_getRv dX6_reads_29 fl_X6_28 rfl (k_124 hS) (f_124_0 hS) (by decide) ?_
      refine r_getIv dX6_reads_32 fl_X6_49 rfl (k_2 hS) ?_
      refine r_if_ne (tgt := 40) dX6_reads_35 rfl (fun h => ?_) (fun h => ?_)
      · have k := k.1 h
        refine r_aload_n dX6_reads_40 rfl ?_
        refine r_getRv dX6_reads_41 fl_X6_28 rfl (k_124 hS) (f_124_0 hS) (by decide) ?_
        refine r_getIv dX6_reads_44 fl_X6_49 rfl (k_2 hS) ?_
        refine r_iconst dX6_reads_47 ⟨by decide, by decide⟩ ?_
        refine r_icmp_eq (tgt := 57) dX6_reads_48 rfl (fun h => ?_) (fun h => ?_)
        · have k := k.1 h
          obtain ⟨h, k⟩ := k
          refine r_iinc dX6_reads_57 rfl (by decide) rfl rfl h ?_
          refine r_goto (tgt := 7) dX6_reads_60 rfl ?_
          exact k
        · have k := k.2 h
          refine r_aload_n dX6_reads_51 rfl ?_
          refine r_iconst dX6_reads_52 ⟨by decide, by decide⟩ ?_
          refine s_callVv (z := mX6_fails) [vI 1] dX6_reads_53 mv_X6_fails lk_X6_52 rfl (by decide) (k_124 hS) (Nat.le_of_ble_eq_true rfl) (WPs.mono k (fun r53 s53 k => ?_))
          exact s_zret dX6_reads_56 rfl k.1 k.2
      · have k := k.2 h
        refine r_iconst dX6_reads_38 ⟨by decide, by decide⟩ ?_
        exact s_zret dX6_reads_39 rfl (by decide) k
    · have k := k.2 h
      refine r_iconst dX6_reads_19 ⟨by decide, by decide⟩ ?_
      exact s_zret dX6_reads_20 rfl (by decide) k
theorem e_X6_begin {v1 : Int} {S : ShT} {σ : StT} {Q : Int → StT → Prop} (hS : SHP S) (k : WPs mX7_rewind [vR 2, vI v1] S σ (fun r5 s5 => WPs mX0_clear [vR 106] S s5 (fun r12 s12 => Q 0 (up2 (up2 (up2 (up2 (up2 s12 124 2 0) 124 3 0) 124 4 0) 124 5 0) 124 6 (-1))))) : WPs mX6_begin [vR 124, vI v1] S σ Q := by
  refine s_entry (by decide) (Nat.le_of_ble_eq_true rfl) rfl rfl ?_
  refine r_aload_n dX6_begin_0 rfl ?_
  refine r_getRv dX6_begin_1 fl_X6_28 rfl (k_124 hS) (f_124_0 hS) (by decide) ?_
  refine r_iload_n dX6_begin_4 rfl ?_
  refine s_callVv (z := mX7_rewind) [vI v1] dX6_begin_5 mv_X7_rewind lk_X6_56 rfl (by decide) (k_2 hS) (Nat.le_of_ble_eq_true rfl) (WPs.mono k (fun r5 s5 k => ?_))
  refine r_aload_n dX6_begin_8 rfl ?_
  refine r_getRv dX6_begin_9 fl_X6_32 rfl (k_124 hS) (f_124_1 hS) (by decide) ?_
  refine s_callVv (z := mX0_clear) [] dX6_begin_12 mv_X0_clear lk_X6_59 rfl (by decide) (k_106 hS) (Nat.le_of_ble_eq_true rfl) (WPs.mono k (fun r12 s12 k => ?_))
  refine r_aload_n dX6_begin_15 rfl ?_
  refine r_iconst dX6_begin_16 ⟨by decide, by decide⟩ ?_
  refine r_putIv dX6_begin_17 fl_X6_9 (fun _ h => by cases h; rfl) (Or.inr ⟨rfl, by decide⟩) (k_124 hS) ?_
  refine r_aload_n dX6_begin_20 rfl ?_
  refine r_iconst dX6_begin_21 ⟨by decide, by decide⟩ ?_
  refine r_putIv dX6_begin_22 fl_X6_15 (fun _ h => by cases h; rfl) (Or.inr ⟨rfl, by decide⟩) (k_124 hS) ?_
  refine r_aload_n dX6_begin_25 rfl ?_
  refine r_iconst dX6_begin_26 ⟨by decide, by decide⟩ ?_
  refine r_putIv dX6_begin_27 fl_X6_18 (fun _ h => by cases h; rfl) (Or.inr ⟨rfl, by decide⟩) (k_124 hS) ?_
  refine r_aload_n dX6_begin_30 rfl ?_
  refine r_iconst dX6_begin_31 ⟨by decide, by decide⟩ ?_
  refine r_putIv dX6_begin_32 fl_X6_21 (fun _ h => by cases h; rfl) (Or.inl rfl) (k_124 hS) ?_
  refine r_aload_n dX6_begin_35 rfl ?_
  refine r_iconst dX6_begin_36 ⟨by decide, by decide⟩ ?_
  refine r_putIv dX6_begin_37 fl_X6_25 (fun _ h => by cases h; rfl) (Or.inl rfl) (k_124 hS) ?_
  exact s_vret dX6_begin_40 rfl k
theorem e_X6_fails {v1 : Int} {S : ShT} {σ : StT} {Q : Int → StT → Prop} (hS : SHP S) (k : Q 0 (up2 (up2 σ 124 5 v1) 124 6 (σ 2 5))) : WPs mX6_fails [vR 124, vI v1] S σ Q := by
  refine s_entry (by decide) (Nat.le_of_ble_eq_true rfl) rfl rfl ?_
  refine r_aload_n dX6_fails_0 rfl ?_
  refine r_iload_n dX6_fails_1 rfl ?_
  refine r_putIv dX6_fails_2 fl_X6_21 (fun _ h => by cases h; rfl) (Or.inl rfl) (k_124 hS) ?_
  refine r_aload_n dX6_fails_5 rfl ?_
  refine r_aload_n dX6_fails_6 rfl ?_
  refine r_getRv dX6_fails_7 fl_X6_28 rfl (k_124 hS) (f_124_0 hS) (by decide) ?_
  refine r_getIv dX6_fails_10 fl_X6_64 rfl (k_2 hS) ?_
  refine r_top (up2_a (by decide)) ?_
  refine r_putIv dX6_fails_13 fl_X6_25 (fun _ h => by cases h; rfl) (Or.inl rfl) (k_124 hS) ?_
  refine r_iconst dX6_fails_16 ⟨by decide, by decide⟩ ?_
  exact s_zret dX6_fails_17 rfl (by decide) k
theorem e_X6_readsLine {S : ShT} {σ : StT} {Q : Int → StT → Prop} (hS : SHP S) (k : WPs mX7_step [vR 2] S σ (fun r4 s4 => WPs mX7_isWord [vR 2, vR (BIG + 1 + 0)] S s4 (fun r13 s13 => (r13 = 0 → WPs mX7_isWord [vR 2, vR (BIG + 1 + 1)] S s13 (fun r30 s30 => (¬ r30 = 0 → AWs mX6_readsLine 66 [(0, vR 124)] [] S s30 Q) ∧ (r30 = 0 → WPs mX7_isWord [vR 2, vR (BIG + 1 + 2)] S s30 (fun r42 s42 => (¬ r42 = 0 → AWs mX6_readsLine 66 [(0, vR 124)] [] S s42 Q) ∧ (r42 = 0 → WPs mX7_isWord [vR 2, vR (BIG + 1 + 3)] S s42 (fun r54 s54 => (¬ r54 = 0 → AWs mX6_readsLine 66 [(0, vR 124)] [] S s54 Q) ∧ (r54 = 0 → WPs mX6_fails [vR 124, vI 1] S s54 (fun r62 s62 => (r62 = 0 ∨ r62 = 1) ∧ Q r62 s62)))))))) ∧ (¬ (r13 = 0) → WPs mX6_readsSheet [vR 124] S s13 (fun r20 s20 => (r20 = 0 ∨ r20 = 1) ∧ Q r20 s20))))) : WPs mX6_readsLine [vR 124] S σ Q := by
  refine s_entry (by decide) (Nat.le_of_ble_eq_true rfl) rfl rfl ?_
  refine r_aload_n dX6_readsLine_0 rfl ?_
  refine r_getRv dX6_readsLine_1 fl_X6_28 rfl (k_124 hS) (f_124_0 hS) (by decide) ?_
  refine s_callVv (z := mX7_step) [] dX6_readsLine_4 mv_X7_step lk_X6_44 rfl (by decide) (k_2 hS) (Nat.le_of_ble_eq_true rfl) (WPs.mono k (fun r4 s4 k => ?_))
  refine r_aload_n dX6_readsLine_7 rfl ?_
  refine r_getRv dX6_readsLine_8 fl_X6_28 rfl (k_124 hS) (f_124_0 hS) (by decide) ?_
  refine r_ldcS 0 dX6_readsLine_11 rfl ?_
  refine s_callVv (z := mX7_isWord) [vR (BIG + 1 + 0)] dX6_readsLine_13 mv_X7_isWord lk_X6_69 rfl (by decide) (k_2 hS) (Nat.le_of_ble_eq_true rfl) (WPs.mono k (fun r13 s13 k => ?_))
  refine r_if_eq (tgt := 24) dX6_readsLine_16 rfl (fun h => ?_) (fun h => ?_)
  · have k := k.1 h
    refine r_aload_n dX6_readsLine_24 rfl ?_
    refine r_getRv dX6_readsLine_25 fl_X6_28 rfl (k_124 hS) (f_124_0 hS) (by decide) ?_
    refine r_ldcS 1 dX6_readsLine_28 rfl ?_
    refine s_callVv (z := mX7_isWord) [vR (BIG + 1 + 1)] dX6_readsLine_30 mv_X7_isWord lk_X6_69 rfl (by decide) (k_2 hS) (Nat.le_of_ble_eq_true rfl) (WPs.mono k (fun r30 s30 k => ?_))
    refine r_if_ne (tgt := 66) dX6_readsLine_33 rfl (fun h => ?_) (fun h => ?_)
    · have k := k.1 h
      exact k
    · have k := k.2 h
      refine r_aload_n dX6_readsLine_36 rfl ?_
      refine r_getRv dX6_readsLine_37 fl_X6_28 rfl (k_124 hS) (f_124_0 hS) (by decide) ?_
      refine r_ldcS 2 dX6_readsLine_40 rfl ?_
      refine s_callVv (z := mX7_isWord) [vR (BIG + 1 + 2)] dX6_readsLine_42 mv_X7_isWord lk_X6_69 rfl (by decide) (k_2 hS) (Nat.le_of_ble_eq_true rfl) (WPs.mono k (fun r42 s42 k => ?_))
      refine r_if_ne (tgt := 66) dX6_readsLine_45 rfl (fun h => ?_) (fun h => ?_)
      · have k := k.1 h
        exact k
      · have k := k.2 h
        refine r_aload_n dX6_readsLine_48 rfl ?_
        refine r_getRv dX6_readsLine_49 fl_X6_28 rfl (k_124 hS) (f_124_0 hS) (by decide) ?_
        refine r_ldcS 3 dX6_readsLine_52 rfl ?_
        refine s_callVv (z := mX7_isWord) [vR (BIG + 1 + 3)] dX6_readsLine_54 mv_X7_isWord lk_X6_69 rfl (by decide) (k_2 hS) (Nat.le_of_ble_eq_true rfl) (WPs.mono k (fun r54 s54 k => ?_))
        refine r_if_ne (tgt := 66) dX6_readsLine_57 rfl (fun h => ?_) (fun h => ?_)
        · have k := k.1 h
          exact k
        · have k := k.2 h
          refine r_aload_n dX6_readsLine_60 rfl ?_
          refine r_iconst dX6_readsLine_61 ⟨by decide, by decide⟩ ?_
          refine s_callVv (z := mX6_fails) [vI 1] dX6_readsLine_62 mv_X6_fails lk_X6_52 rfl (by decide) (k_124 hS) (Nat.le_of_ble_eq_true rfl) (WPs.mono k (fun r62 s62 k => ?_))
          exact s_zret dX6_readsLine_65 rfl k.1 k.2
  · have k := k.2 h
    refine r_aload_n dX6_readsLine_19 rfl ?_
    refine s_callVv (z := mX6_readsSheet) [] dX6_readsLine_20 mv_X6_readsSheet lk_X6_73 rfl (by decide) (k_124 hS) (Nat.le_of_ble_eq_true rfl) (WPs.mono k (fun r20 s20 k => ?_))
    exact s_zret dX6_readsLine_23 rfl k.1 k.2
theorem t_X6_readsLine_66 {S : ShT} {σ : StT} {Q : Int → StT → Prop} (hS : SHP S) (k : (¬ σ 124 2 = 0 → WPs mX7_isWord [vR 2, vR (BIG + 1 + 1)] S σ (fun r86 s86 => (r86 = 0 → WPs mX7_isWord [vR 2, vR (BIG + 1 + 2)] S s86 (fun r103 s103 => (r103 = 0 → WPs mX6_readsPace [vR 124] S s103 (fun r117 s117 => (r117 = 0 ∨ r117 = 1) ∧ Q r117 s117)) ∧ (¬ (r103 = 0) → WPs mX6_readsHome [vR 124] S s103 (fun r110 s110 => (r110 = 0 ∨ r110 = 1) ∧ Q r110 s110)))) ∧ (¬ (r86 = 0) → WPs mX6_readsStroke [vR 124] S s86 (fun r93 s93 => (r93 = 0 ∨ r93 = 1) ∧ Q r93 s93)))) ∧ (σ 124 2 = 0 → WPs mX6_fails [vR 124, vI 6] S σ (fun r76 s76 => (r76 = 0 ∨ r76 = 1) ∧ Q r76 s76))) : AWs mX6_readsLine 66 [(0, vR 124)] [] S σ Q := by
  refine r_aload_n dX6_readsLine_66 rfl ?_
  refine r_getIv dX6_readsLine_67 fl_X6_9 rfl (k_124 hS) ?_
  refine r_if_ne (tgt := 80) dX6_readsLine_70 rfl (fun h => ?_) (fun h => ?_)
  · have k := k.1 h
    refine r_aload_n dX6_readsLine_80 rfl ?_
    refine r_getRv dX6_readsLine_81 fl_X6_28 rfl (k_124 hS) (f_124_0 hS) (by decide) ?_
    refine r_ldcS 1 dX6_readsLine_84 rfl ?_
    refine s_callVv (z := mX7_isWord) [vR (BIG + 1 + 1)] dX6_readsLine_86 mv_X7_isWord lk_X6_69 rfl (by decide) (k_2 hS) (Nat.le_of_ble_eq_true rfl) (WPs.mono k (fun r86 s86 k => ?_))
    refine r_if_eq (tgt := 97) dX6_readsLine_89 rfl (fun h => ?_) (fun h => ?_)
    · have k := k.1 h
      refine r_aload_n dX6_readsLine_97 rfl ?_
      refine r_getRv dX6_readsLine_98 fl_X6_28 rfl (k_124 hS) (f_124_0 hS) (by decide) ?_
      refine r_ldcS 2 dX6_readsLine_101 rfl ?_
      refine s_callVv (z := mX7_isWord) [vR (BIG + 1 + 2)] dX6_readsLine_103 mv_X7_isWord lk_X6_69 rfl (by decide) (k_2 hS) (Nat.le_of_ble_eq_true rfl) (WPs.mono k (fun r103 s103 k => ?_))
      refine r_if_eq (tgt := 116) dX6_readsLine_106 rfl (fun h => ?_) (fun h => ?_)
      · have k := k.1 h
        refine r_aload_n dX6_readsLine_116 rfl ?_
        refine s_callVv (z := mX6_readsPace) [] dX6_readsLine_117 mv_X6_readsPace lk_X6_88 rfl (by decide) (k_124 hS) (Nat.le_of_ble_eq_true rfl) (WPs.mono k (fun r117 s117 k => ?_))
        exact s_zret dX6_readsLine_120 rfl k.1 k.2
      · have k := k.2 h
        refine r_aload_n dX6_readsLine_109 rfl ?_
        refine s_callVv (z := mX6_readsHome) [] dX6_readsLine_110 mv_X6_readsHome lk_X6_85 rfl (by decide) (k_124 hS) (Nat.le_of_ble_eq_true rfl) (WPs.mono k (fun r110 s110 k => ?_))
        refine r_goto (tgt := 120) dX6_readsLine_113 rfl ?_
        exact s_zret dX6_readsLine_120 rfl k.1 k.2
    · have k := k.2 h
      refine r_aload_n dX6_readsLine_92 rfl ?_
      refine s_callVv (z := mX6_readsStroke) [] dX6_readsLine_93 mv_X6_readsStroke lk_X6_82 rfl (by decide) (k_124 hS) (Nat.le_of_ble_eq_true rfl) (WPs.mono k (fun r93 s93 k => ?_))
      exact s_zret dX6_readsLine_96 rfl k.1 k.2
  · have k := k.2 h
    refine r_aload_n dX6_readsLine_73 rfl ?_
    refine r_bipush dX6_readsLine_74 (by decide +kernel) ⟨by decide, by decide⟩ ?_
    refine s_callVv (z := mX6_fails) [vI 6] dX6_readsLine_76 mv_X6_fails lk_X6_52 rfl (by decide) (k_124 hS) (Nat.le_of_ble_eq_true rfl) (WPs.mono k (fun r76 s76 k => ?_))
    exact s_zret dX6_readsLine_79 rfl k.1 k.2
theorem e_X6_readsSheet {S : ShT} {σ : StT} {Q : Int → StT → Prop} (hS : SHP S) (k : (σ 124 2 = 0 → WPs mX6_readsWord [vR 124, vR (BIG + 1 + 4)] S (up2 σ 124 2 1) (fun r21 s21 => (r21 = 0 → Q 0 s21) ∧ (¬ (r21 = 0) → WPs mX6_readsWhole [vR 124, vI 1, vI 200] S s21 (fun r32 s32 => (¬ r32 = 0 → WPs mX6_readsWord [vR 124, vR (BIG + 1 + 5)] S (up2 s32 106 3 (s32 2 6)) (fun r57 s57 => (r57 = 0 → Q 0 s57) ∧ (¬ (r57 = 0) → WPs mX6_readsWhole [vR 124, vI 0, vI 50] S s57 (fun r67 s67 => (¬ r67 = 0 → Q 1 (up2 s67 106 4 (s67 2 6))) ∧ (r67 = 0 → Q 0 s67))))) ∧ (r32 = 0 → Q 0 s32))))) ∧ (¬ (σ 124 2 = 0) → WPs mX6_fails [vR 124, vI 4] S σ (fun r9 s9 => (r9 = 0 ∨ r9 = 1) ∧ Q r9 s9))) : WPs mX6_readsSheet [vR 124] S σ Q := by
  refine s_entry (by decide) (Nat.le_of_ble_eq_true rfl) rfl rfl ?_
  refine r_aload_n dX6_readsSheet_0 rfl ?_
  refine r_getIv dX6_readsSheet_1 fl_X6_9 rfl (k_124 hS) ?_
  refine r_if_eq (tgt := 13) dX6_readsSheet_4 rfl (fun h => ?_) (fun h => ?_)
  · have k := k.1 h
    refine r_aload_n dX6_readsSheet_13 rfl ?_
    refine r_iconst dX6_readsSheet_14 ⟨by decide, by decide⟩ ?_
    refine r_putIv dX6_readsSheet_15 fl_X6_9 (fun _ h => by cases h; rfl) (Or.inr ⟨rfl, by decide⟩) (k_124 hS) ?_
    refine r_aload_n dX6_readsSheet_18 rfl ?_
    refine r_ldcS 4 dX6_readsSheet_19 rfl ?_
    refine s_callVv (z := mX6_readsWord) [vR (BIG + 1 + 4)] dX6_readsSheet_21 mv_X6_readsWord lk_X6_93 rfl (by decide) (k_124 hS) (Nat.le_of_ble_eq_true rfl) (WPs.mono k (fun r21 s21 k => ?_))
    refine r_if_eq (tgt := 38) dX6_readsSheet_24 rfl (fun h => ?_) (fun h => ?_)
    · have k := k.1 h
      refine r_iconst dX6_readsSheet_38 ⟨by decide, by decide⟩ ?_
      exact s_zret dX6_readsSheet_39 rfl (by decide) k
    · have k := k.2 h
      refine r_aload_n dX6_readsSheet_27 rfl ?_
      refine r_iconst dX6_readsSheet_28 ⟨by decide, by decide⟩ ?_
      refine r_sipush dX6_readsSheet_29 (by decide +kernel) ⟨by decide, by decide⟩ ?_
      refine s_callVv (z := mX6_readsWhole) [vI 1, vI 200] dX6_readsSheet_32 mv_X6_readsWhole lk_X6_96 rfl (by decide) (k_124 hS) (Nat.le_of_ble_eq_true rfl) (WPs.mono k (fun r32 s32 k => ?_))
      refine r_if_ne (tgt := 40) dX6_readsSheet_35 rfl (fun h => ?_) (fun h => ?_)
      · have k := k.1 h
        refine r_aload_n dX6_readsSheet_40 rfl ?_
        refine r_getRv dX6_readsSheet_41 fl_X6_32 rfl (k_124 hS) (f_124_1 hS) (by decide) ?_
        refine r_aload_n dX6_readsSheet_44 rfl ?_
        refine r_getRv dX6_readsSheet_45 fl_X6_28 rfl (k_124 hS) (f_124_0 hS) (by decide) ?_
        refine r_getIv dX6_readsSheet_48 fl_X6_100 rfl (k_2 hS) ?_
        refine r_putIv dX6_readsSheet_51 fl_X6_103 (fun _ h => by cases h; rfl) (Or.inl rfl) (k_106 hS) ?_
        refine r_aload_n dX6_readsSheet_54 rfl ?_
        refine r_ldcS 5 dX6_readsSheet_55 rfl ?_
        refine s_callVv (z := mX6_readsWord) [vR (BIG + 1 + 5)] dX6_readsSheet_57 mv_X6_readsWord lk_X6_93 rfl (by decide) (k_124 hS) (Nat.le_of_ble_eq_true rfl) (WPs.mono k (fun r57 s57 k => ?_))
        refine r_if_eq (tgt := 73) dX6_readsSheet_60 rfl (fun h => ?_) (fun h => ?_)
        · have k := k.1 h
          refine r_iconst dX6_readsSheet_73 ⟨by decide, by decide⟩ ?_
          exact s_zret dX6_readsSheet_74 rfl (by decide) k
        · have k := k.2 h
          refine r_aload_n dX6_readsSheet_63 rfl ?_
          refine r_iconst dX6_readsSheet_64 ⟨by decide, by decide⟩ ?_
          refine r_bipush dX6_readsSheet_65 (by decide +kernel) ⟨by decide, by decide⟩ ?_
          refine s_callVv (z := mX6_readsWhole) [vI 0, vI 50] dX6_readsSheet_67 mv_X6_readsWhole lk_X6_96 rfl (by decide) (k_124 hS) (Nat.le_of_ble_eq_true rfl) (WPs.mono k (fun r67 s67 k => ?_))
          refine r_if_ne (tgt := 75) dX6_readsSheet_70 rfl (fun h => ?_) (fun h => ?_)
          · have k := k.1 h
            refine r_aload_n dX6_readsSheet_75 rfl ?_
            refine r_getRv dX6_readsSheet_76 fl_X6_32 rfl (k_124 hS) (f_124_1 hS) (by decide) ?_
            refine r_aload_n dX6_readsSheet_79 rfl ?_
            refine r_getRv dX6_readsSheet_80 fl_X6_28 rfl (k_124 hS) (f_124_0 hS) (by decide) ?_
            refine r_getIv dX6_readsSheet_83 fl_X6_100 rfl (k_2 hS) ?_
            refine r_putIv dX6_readsSheet_86 fl_X6_107 (fun _ h => by cases h; rfl) (Or.inl rfl) (k_106 hS) ?_
            refine r_iconst dX6_readsSheet_89 ⟨by decide, by decide⟩ ?_
            exact s_zret dX6_readsSheet_90 rfl (by decide) k
          · have k := k.2 h
            refine r_iconst dX6_readsSheet_73 ⟨by decide, by decide⟩ ?_
            exact s_zret dX6_readsSheet_74 rfl (by decide) k
      · have k := k.2 h
        refine r_iconst dX6_readsSheet_38 ⟨by decide, by decide⟩ ?_
        exact s_zret dX6_readsSheet_39 rfl (by decide) k
  · have k := k.2 h
    refine r_aload_n dX6_readsSheet_7 rfl ?_
    refine r_iconst dX6_readsSheet_8 ⟨by decide, by decide⟩ ?_
    refine s_callVv (z := mX6_fails) [vI 4] dX6_readsSheet_9 mv_X6_fails lk_X6_52 rfl (by decide) (k_124 hS) (Nat.le_of_ble_eq_true rfl) (WPs.mono k (fun r9 s9 k => ?_))
    exact s_zret dX6_readsSheet_12 rfl k.1 k.2
theorem e_X6_readsStroke {S : ShT} {σ : StT} {Q : Int → StT → Prop} (hS : SHP S) (k : (σ 106 2 < 24 → WPs mX6_readsWhole [vR 124, vI 0, vI (σ 106 3)] S σ (fun r27 s27 => (¬ r27 = 0 → WPs mX6_readsWhole [vR 124, vI 0, vI (s27 106 3)] S s27 (fun r52 s52 => (¬ r52 = 0 → WPs mX6_readsWhole [vR 124, vI 0, vI (s52 106 3)] S s52 (fun r77 s77 => (¬ r77 = 0 → WPs mX6_readsWhole [vR 124, vI 0, vI (s77 106 3)] S s77 (fun r102 s102 => (¬ r102 = 0 → (¬ s27 2 6 = s77 2 6 → AWs mX6_readsStroke 136 [(0, vR 124), (1, vI (s27 2 6)), (2, vI (s52 2 6)), (3, vI (s77 2 6)), (4, vI (s102 2 6))] [] S s102 Q) ∧ (s27 2 6 = s77 2 6 → (¬ s52 2 6 = s102 2 6 → AWs mX6_readsStroke 136 [(0, vR 124), (1, vI (s27 2 6)), (2, vI (s52 2 6)), (3, vI (s77 2 6)), (4, vI (s102 2 6))] [] S s102 Q) ∧ (s52 2 6 = s102 2 6 → WPs mX6_fails [vR 124, vI 3] S s102 (fun r132 s132 => (r132 = 0 ∨ r132 = 1) ∧ Q r132 s132)))) ∧ (r102 = 0 → Q 0 s102))) ∧ (r77 = 0 → Q 0 s77))) ∧ (r52 = 0 → Q 0 s52))) ∧ (r27 = 0 → Q 0 s27))) ∧ (¬ (σ 106 2 < 24) → WPs mX6_fails [vR 124, vI 5] S σ (fun r14 s14 => (r14 = 0 ∨ r14 = 1) ∧ Q r14 s14))) : WPs mX6_readsStroke [vR 124] S σ Q := by
  refine s_entry (by decide) (Nat.le_of_ble_eq_true rfl) rfl rfl ?_
  refine r_aload_n dX6_readsStroke_0 rfl ?_
  refine r_getRv dX6_readsStroke_1 fl_X6_32 rfl (k_124 hS) (f_124_1 hS) (by decide) ?_
  refine r_getIv dX6_readsStroke_4 fl_X6_109 rfl (k_106 hS) ?_
  refine r_bipush dX6_readsStroke_7 (by decide +kernel) ⟨by decide, by decide⟩ ?_
  refine r_icmp_lt (tgt := 18) dX6_readsStroke_9 rfl (fun h => ?_) (fun h => ?_)
  · have k := k.1 h
    refine r_aload_n dX6_readsStroke_18 rfl ?_
    refine r_iconst dX6_readsStroke_19 ⟨by decide, by decide⟩ ?_
    refine r_aload_n dX6_readsStroke_20 rfl ?_
    refine r_getRv dX6_readsStroke_21 fl_X6_32 rfl (k_124 hS) (f_124_1 hS) (by decide) ?_
    refine r_getIv dX6_readsStroke_24 fl_X6_103 rfl (k_106 hS) ?_
    refine s_callVv (z := mX6_readsWhole) [vI 0, vI (σ 106 3)] dX6_readsStroke_27 mv_X6_readsWhole lk_X6_96 rfl (by decide) (k_124 hS) (Nat.le_of_ble_eq_true rfl) (WPs.mono k (fun r27 s27 k => ?_))
    refine r_if_ne (tgt := 35) dX6_readsStroke_30 rfl (fun h => ?_) (fun h => ?_)
    · have k := k.1 h
      refine r_aload_n dX6_readsStroke_35 rfl ?_
      refine r_getRv dX6_readsStroke_36 fl_X6_28 rfl (k_124 hS) (f_124_0 hS) (by decide) ?_
      refine r_getIv dX6_readsStroke_39 fl_X6_100 rfl (k_2 hS) ?_
      refine r_istore_n dX6_readsStroke_42 (by decide) rfl rfl ?_
      refine r_aload_n dX6_readsStroke_43 rfl ?_
      refine r_iconst dX6_readsStroke_44 ⟨by decide, by decide⟩ ?_
      refine r_aload_n dX6_readsStroke_45 rfl ?_
      refine r_getRv dX6_readsStroke_46 fl_X6_32 rfl (k_124 hS) (f_124_1 hS) (by decide) ?_
      refine r_getIv dX6_readsStroke_49 fl_X6_103 rfl (k_106 hS) ?_
      refine s_callVv (z := mX6_readsWhole) [vI 0, vI (s27 106 3)] dX6_readsStroke_52 mv_X6_readsWhole lk_X6_96 rfl (by decide) (k_124 hS) (Nat.le_of_ble_eq_true rfl) (WPs.mono k (fun r52 s52 k => ?_))
      refine r_if_ne (tgt := 60) dX6_readsStroke_55 rfl (fun h => ?_) (fun h => ?_)
      · have k := k.1 h
        refine r_aload_n dX6_readsStroke_60 rfl ?_
        refine r_getRv dX6_readsStroke_61 fl_X6_28 rfl (k_124 hS) (f_124_0 hS) (by decide) ?_
        refine r_getIv dX6_readsStroke_64 fl_X6_100 rfl (k_2 hS) ?_
        refine r_istore_n dX6_readsStroke_67 (by decide) rfl rfl ?_
        refine r_aload_n dX6_readsStroke_68 rfl ?_
        refine r_iconst dX6_readsStroke_69 ⟨by decide, by decide⟩ ?_
        refine r_aload_n dX6_readsStroke_70 rfl ?_
        refine r_getRv dX6_readsStroke_71 fl_X6_32 rfl (k_124 hS) (f_124_1 hS) (by decide) ?_
        refine r_getIv dX6_readsStroke_74 fl_X6_103 rfl (k_106 hS) ?_
        refine s_callVv (z := mX6_readsWhole) [vI 0, vI (s52 106 3)] dX6_readsStroke_77 mv_X6_readsWhole lk_X6_96 rfl (by decide) (k_124 hS) (Nat.le_of_ble_eq_true rfl) (WPs.mono k (fun r77 s77 k => ?_))
        refine r_if_ne (tgt := 85) dX6_readsStroke_80 rfl (fun h => ?_) (fun h => ?_)
        · have k := k.1 h
          refine r_aload_n dX6_readsStroke_85 rfl ?_
          refine r_getRv dX6_readsStroke_86 fl_X6_28 rfl (k_124 hS) (f_124_0 hS) (by decide) ?_
          refine r_getIv dX6_readsStroke_89 fl_X6_100 rfl (k_2 hS) ?_
          refine r_istore_n dX6_readsStroke_92 (by decide) rfl rfl ?_
          refine r_aload_n dX6_readsStroke_93 rfl ?_
          refine r_iconst dX6_readsStroke_94 ⟨by decide, by decide⟩ ?_
          refine r_aload_n dX6_readsStroke_95 rfl ?_
          refine r_getRv dX6_readsStroke_96 fl_X6_32 rfl (k_124 hS) (f_124_1 hS) (by decide) ?_
          refine r_getIv dX6_readsStroke_99 fl_X6_103 rfl (k_106 hS) ?_
          refine s_callVv (z := mX6_readsWhole) [vI 0, vI (s77 106 3)] dX6_readsStroke_102 mv_X6_readsWhole lk_X6_96 rfl (by decide) (k_124 hS) (Nat.le_of_ble_eq_true rfl) (WPs.mono k (fun r102 s102 k => ?_))
          refine r_if_ne (tgt := 110) dX6_readsStroke_105 rfl (fun h => ?_) (fun h => ?_)
          · have k := k.1 h
            refine r_aload_n dX6_readsStroke_110 rfl ?_
            refine r_getRv dX6_readsStroke_111 fl_X6_28 rfl (k_124 hS) (f_124_0 hS) (by decide) ?_
            refine r_getIv dX6_readsStroke_114 fl_X6_100 rfl (k_2 hS) ?_
            refine r_istore dX6_readsStroke_117 (by decide) rfl rfl ?_
            refine r_iload_n dX6_readsStroke_119 rfl ?_
            refine r_iload_n dX6_readsStroke_120 rfl ?_
            refine r_icmp_ne (tgt := 136) dX6_readsStroke_121 rfl (fun h => ?_) (fun h => ?_)
            · have k := k.1 h
              exact k
            · have k := k.2 h
              refine r_iload_n dX6_readsStroke_124 rfl ?_
              refine r_iload dX6_readsStroke_125 rfl ?_
              refine r_icmp_ne (tgt := 136) dX6_readsStroke_127 rfl (fun h => ?_) (fun h => ?_)
              · have k := k.1 h
                exact k
              · have k := k.2 h
                refine r_aload_n dX6_readsStroke_130 rfl ?_
                refine r_iconst dX6_readsStroke_131 ⟨by decide, by decide⟩ ?_
                refine s_callVv (z := mX6_fails) [vI 3] dX6_readsStroke_132 mv_X6_fails lk_X6_52 rfl (by decide) (k_124 hS) (Nat.le_of_ble_eq_true rfl) (WPs.mono k (fun r132 s132 k => ?_))
                exact s_zret dX6_readsStroke_135 rfl k.1 k.2
          · have k := k.2 h
            refine r_iconst dX6_readsStroke_108 ⟨by decide, by decide⟩ ?_
            exact s_zret dX6_readsStroke_109 rfl (by decide) k
        · have k := k.2 h
          refine r_iconst dX6_readsStroke_83 ⟨by decide, by decide⟩ ?_
          exact s_zret dX6_readsStroke_84 rfl (by decide) k
      · have k := k.2 h
        refine r_iconst dX6_readsStroke_58 ⟨by decide, by decide⟩ ?_
        exact s_zret dX6_readsStroke_59 rfl (by decide) k
    · have k := k.2 h
      refine r_iconst dX6_readsStroke_33 ⟨by decide, by decide⟩ ?_
      exact s_zret dX6_readsStroke_34 rfl (by decide) k
  · have k := k.2 h
    refine r_aload_n dX6_readsStroke_12 rfl ?_
    refine r_iconst dX6_readsStroke_13 ⟨by decide, by decide⟩ ?_
    refine s_callVv (z := mX6_fails) [vI 5] dX6_readsStroke_14 mv_X6_fails lk_X6_52 rfl (by decide) (k_124 hS) (Nat.le_of_ble_eq_true rfl) (WPs.mono k (fun r14 s14 k => ?_))
    exact s_zret dX6_readsStroke_17 rfl k.1 k.2
theorem t_X6_readsStroke_136 {v1 v2 v3 v4 : Int} {S : ShT} {σ : StT} {Q : Int → StT → Prop} (hS : SHP S) (k : WPs mX0_putStroke [vR 106, vI v1, vI v2, vI v3, vI v4] S σ (fun r145 s145 => Q 1 s145)) : AWs mX6_readsStroke 136 [(0, vR 124), (1, vI v1), (2, vI v2), (3, vI v3), (4, vI v4)] [] S σ Q := by
  refine r_aload_n dX6_readsStroke_136 rfl ?_
  refine r_getRv dX6_readsStroke_137 fl_X6_32 rfl (k_124 hS) (f_124_1 hS) (by decide) ?_
  refine r_iload_n dX6_readsStroke_140 rfl ?_
  refine r_iload_n dX6_readsStroke_141 rfl ?_
  refine r_iload_n dX6_readsStroke_142 rfl ?_
  refine r_iload dX6_readsStroke_143 rfl ?_
  refine s_callVv (z := mX0_putStroke) [vI v1, vI v2, vI v3, vI v4] dX6_readsStroke_145 mv_X0_putStroke lk_X6_112 rfl (by decide) (k_106 hS) (Nat.le_of_ble_eq_true rfl) (WPs.mono k (fun r145 s145 k => ?_))
  refine r_iconst dX6_readsStroke_148 ⟨by decide, by decide⟩ ?_
  exact s_zret dX6_readsStroke_149 rfl (by decide) k
theorem e_X6_readsHome {S : ShT} {σ : StT} {Q : Int → StT → Prop} (hS : SHP S) (k : (σ 124 3 = 0 → WPs mX6_readsWhole [vR 124, vI 0, vI (σ 106 3)] S (up2 σ 124 3 1) (fun r27 s27 => (¬ r27 = 0 → WPs mX6_readsWhole [vR 124, vI 0, vI (s27 106 3)] S (up2 s27 106 5 (s27 2 6)) (fun r58 s58 => (¬ r58 = 0 → Q 1 (up2 s58 106 6 (s58 2 6))) ∧ (r58 = 0 → Q 0 s58))) ∧ (r27 = 0 → Q 0 s27))) ∧ (¬ (σ 124 3 = 0) → WPs mX6_fails [vR 124, vI 4] S σ (fun r9 s9 => (r9 = 0 ∨ r9 = 1) ∧ Q r9 s9))) : WPs mX6_readsHome [vR 124] S σ Q := by
  refine s_entry (by decide) (Nat.le_of_ble_eq_true rfl) rfl rfl ?_
  refine r_aload_n dX6_readsHome_0 rfl ?_
  refine r_getIv dX6_readsHome_1 fl_X6_15 rfl (k_124 hS) ?_
  refine r_if_eq (tgt := 13) dX6_readsHome_4 rfl (fun h => ?_) (fun h => ?_)
  · have k := k.1 h
    refine r_aload_n dX6_readsHome_13 rfl ?_
    refine r_iconst dX6_readsHome_14 ⟨by decide, by decide⟩ ?_
    refine r_putIv dX6_readsHome_15 fl_X6_15 (fun _ h => by cases h; rfl) (Or.inr ⟨rfl, by decide⟩) (k_124 hS) ?_
    refine r_aload_n dX6_readsHome_18 rfl ?_
    refine r_iconst dX6_readsHome_19 ⟨by decide, by decide⟩ ?_
    refine r_aload_n dX6_readsHome_20 rfl ?_
    refine r_getRv dX6_readsHome_21 fl_X6_32 rfl (k_124 hS) (f_124_1 hS) (by decide) ?_
    refine r_getIv dX6_readsHome_24 fl_X6_103 rfl (k_106 hS) ?_
    refine r_top (up2_a (by decide)) ?_
    refine s_callVv (z := mX6_readsWhole) [vI 0, vI (σ 106 3)] dX6_readsHome_27 mv_X6_readsWhole lk_X6_96 rfl (by decide) (k_124 hS) (Nat.le_of_ble_eq_true rfl) (WPs.mono k (fun r27 s27 k => ?_))
    refine r_if_ne (tgt := 35) dX6_readsHome_30 rfl (fun h => ?_) (fun h => ?_)
    · have k := k.1 h
      refine r_aload_n dX6_readsHome_35 rfl ?_
      refine r_getRv dX6_readsHome_36 fl_X6_32 rfl (k_124 hS) (f_124_1 hS) (by decide) ?_
      refine r_aload_n dX6_readsHome_39 rfl ?_
      refine r_getRv dX6_readsHome_40 fl_X6_28 rfl (k_124 hS) (f_124_0 hS) (by decide) ?_
      refine r_getIv dX6_readsHome_43 fl_X6_100 rfl (k_2 hS) ?_
      refine r_putIv dX6_readsHome_46 fl_X6_116 (fun _ h => by cases h; rfl) (Or.inl rfl) (k_106 hS) ?_
      refine r_aload_n dX6_readsHome_49 rfl ?_
      refine r_iconst dX6_readsHome_50 ⟨by decide, by decide⟩ ?_
      refine r_aload_n dX6_readsHome_51 rfl ?_
      refine r_getRv dX6_readsHome_52 fl_X6_32 rfl (k_124 hS) (f_124_1 hS) (by decide) ?_
      refine r_getIv dX6_readsHome_55 fl_X6_103 rfl (k_106 hS) ?_
      refine r_top (up2_i (by decide)) ?_
      refine s_callVv (z := mX6_readsWhole) [vI 0, vI (s27 106 3)] dX6_readsHome_58 mv_X6_readsWhole lk_X6_96 rfl (by decide) (k_124 hS) (Nat.le_of_ble_eq_true rfl) (WPs.mono k (fun r58 s58 k => ?_))
      refine r_if_ne (tgt := 66) dX6_readsHome_61 rfl (fun h => ?_) (fun h => ?_)
      · have k := k.1 h
        refine r_aload_n dX6_readsHome_66 rfl ?_
        refine r_getRv dX6_readsHome_67 fl_X6_32 rfl (k_124 hS) (f_124_1 hS) (by decide) ?_
        refine r_aload_n dX6_readsHome_70 rfl ?_
        refine r_getRv dX6_readsHome_71 fl_X6_28 rfl (k_124 hS) (f_124_0 hS) (by decide) ?_
        refine r_getIv dX6_readsHome_74 fl_X6_100 rfl (k_2 hS) ?_
        refine r_putIv dX6_readsHome_77 fl_X6_119 (fun _ h => by cases h; rfl) (Or.inl rfl) (k_106 hS) ?_
        refine r_iconst dX6_readsHome_80 ⟨by decide, by decide⟩ ?_
        exact s_zret dX6_readsHome_81 rfl (by decide) k
      · have k := k.2 h
        refine r_iconst dX6_readsHome_64 ⟨by decide, by decide⟩ ?_
        exact s_zret dX6_readsHome_65 rfl (by decide) k
    · have k := k.2 h
      refine r_iconst dX6_readsHome_33 ⟨by decide, by decide⟩ ?_
      exact s_zret dX6_readsHome_34 rfl (by decide) k
  · have k := k.2 h
    refine r_aload_n dX6_readsHome_7 rfl ?_
    refine r_iconst dX6_readsHome_8 ⟨by decide, by decide⟩ ?_
    refine s_callVv (z := mX6_fails) [vI 4] dX6_readsHome_9 mv_X6_fails lk_X6_52 rfl (by decide) (k_124 hS) (Nat.le_of_ble_eq_true rfl) (WPs.mono k (fun r9 s9 k => ?_))
    exact s_zret dX6_readsHome_12 rfl k.1 k.2
theorem e_X6_readsPace {S : ShT} {σ : StT} {Q : Int → StT → Prop} (hS : SHP S) (k : (σ 124 4 = 0 → WPs mX6_readsWhole [vR 124, vI 1, vI 9] S (up2 σ 124 4 1) (fun r22 s22 => (¬ r22 = 0 → WPs mX6_readsWhole [vR 124, vI 1, vI 9] S (up2 s22 106 7 (s22 2 6)) (fun r48 s48 => (¬ r48 = 0 → Q 1 (up2 s48 106 8 (s48 2 6))) ∧ (r48 = 0 → Q 0 s48))) ∧ (r22 = 0 → Q 0 s22))) ∧ (¬ (σ 124 4 = 0) → WPs mX6_fails [vR 124, vI 4] S σ (fun r9 s9 => (r9 = 0 ∨ r9 = 1) ∧ Q r9 s9))) : WPs mX6_readsPace [vR 124] S σ Q := by
  refine s_entry (by decide) (Nat.le_of_ble_eq_true rfl) rfl rfl ?_
  refine r_aload_n dX6_readsPace_0 rfl ?_
  refine r_getIv dX6_readsPace_1 fl_X6_18 rfl (k_124 hS) ?_
  refine r_if_eq (tgt := 13) dX6_readsPace_4 rfl (fun h => ?_) (fun h => ?_)
  · have k := k.1 h
    refine r_aload_n dX6_readsPace_13 rfl ?_
    refine r_iconst dX6_readsPace_14 ⟨by decide, by decide⟩ ?_
    refine r_putIv dX6_readsPace_15 fl_X6_18 (fun _ h => by cases h; rfl) (Or.inr ⟨rfl, by decide⟩) (k_124 hS) ?_
    refine r_aload_n dX6_readsPace_18 rfl ?_
    refine r_iconst dX6_readsPace_19 ⟨by decide, by decide⟩ ?_
    refine r_bipush dX6_readsPace_20 (by decide +kernel) ⟨by decide, by decide⟩ ?_
    refine s_callVv (z := mX6_readsWhole) [vI 1, vI 9] dX6_readsPace_22 mv_X6_readsWhole lk_X6_96 rfl (by decide) (k_124 hS) (Nat.le_of_ble_eq_true rfl) (WPs.mono k (fun r22 s22 k => ?_))
    refine r_if_ne (tgt := 30) dX6_readsPace_25 rfl (fun h => ?_) (fun h => ?_)
    · have k := k.1 h
      refine r_aload_n dX6_readsPace_30 rfl ?_
      refine r_getRv dX6_readsPace_31 fl_X6_32 rfl (k_124 hS) (f_124_1 hS) (by decide) ?_
      refine r_aload_n dX6_readsPace_34 rfl ?_
      refine r_getRv dX6_readsPace_35 fl_X6_28 rfl (k_124 hS) (f_124_0 hS) (by decide) ?_
      refine r_getIv dX6_readsPace_38 fl_X6_100 rfl (k_2 hS) ?_
      refine r_putIv dX6_readsPace_41 fl_X6_122 (fun _ h => by cases h; rfl) (Or.inl rfl) (k_106 hS) ?_
      refine r_aload_n dX6_readsPace_44 rfl ?_
      refine r_iconst dX6_readsPace_45 ⟨by decide, by decide⟩ ?_
      refine r_bipush dX6_readsPace_46 (by decide +kernel) ⟨by decide, by decide⟩ ?_
      refine s_callVv (z := mX6_readsWhole) [vI 1, vI 9] dX6_readsPace_48 mv_X6_readsWhole lk_X6_96 rfl (by decide) (k_124 hS) (Nat.le_of_ble_eq_true rfl) (WPs.mono k (fun r48 s48 k => ?_))
      refine r_if_ne (tgt := 56) dX6_readsPace_51 rfl (fun h => ?_) (fun h => ?_)
      · have k := k.1 h
        refine r_aload_n dX6_readsPace_56 rfl ?_
        refine r_getRv dX6_readsPace_57 fl_X6_32 rfl (k_124 hS) (f_124_1 hS) (by decide) ?_
        refine r_aload_n dX6_readsPace_60 rfl ?_
        refine r_getRv dX6_readsPace_61 fl_X6_28 rfl (k_124 hS) (f_124_0 hS) (by decide) ?_
        refine r_getIv dX6_readsPace_64 fl_X6_100 rfl (k_2 hS) ?_
        refine r_putIv dX6_readsPace_67 fl_X6_125 (fun _ h => by cases h; rfl) (Or.inl rfl) (k_106 hS) ?_
        refine r_iconst dX6_readsPace_70 ⟨by decide, by decide⟩ ?_
        exact s_zret dX6_readsPace_71 rfl (by decide) k
      · have k := k.2 h
        refine r_iconst dX6_readsPace_54 ⟨by decide, by decide⟩ ?_
        exact s_zret dX6_readsPace_55 rfl (by decide) k
    · have k := k.2 h
      refine r_iconst dX6_readsPace_28 ⟨by decide, by decide⟩ ?_
      exact s_zret dX6_readsPace_29 rfl (by decide) k
  · have k := k.2 h
    refine r_aload_n dX6_readsPace_7 rfl ?_
    refine r_iconst dX6_readsPace_8 ⟨by decide, by decide⟩ ?_
    refine s_callVv (z := mX6_fails) [vI 4] dX6_readsPace_9 mv_X6_fails lk_X6_52 rfl (by decide) (k_124 hS) (Nat.le_of_ble_eq_true rfl) (WPs.mono k (fun r9 s9 k => ?_))
    exact s_zret dX6_readsPace_12 rfl k.1 k.2
theorem e_X6_readsWord {w : Nat} {S : ShT} {σ : StT} {Q : Int → StT → Prop} (hS : SHP S) (hw : w < 12) (k : WPs mX7_step [vR 2] S σ (fun r4 s4 => WPs mX7_isWord [vR 2, vR (BIG + 1 + w)] S s4 (fun r12 s12 => (¬ r12 = 0 → Q 1 s12) ∧ (r12 = 0 → WPs mX6_fails [vR 124, vI 1] S s12 (fun r20 s20 => (r20 = 0 → Q 0 s20) ∧ (¬ (r20 = 0) → Q 1 s20)))))) : WPs mX6_readsWord [vR 124, vR (BIG + 1 + w)] S σ Q := by
  refine s_entry (by decide) (Nat.le_of_ble_eq_true rfl) rfl rfl ?_
  refine r_aload_n dX6_readsWord_0 rfl ?_
  refine r_getRv dX6_readsWord_1 fl_X6_28 rfl (k_124 hS) (f_124_0 hS) (by decide) ?_
  refine s_callVv (z := mX7_step) [] dX6_readsWord_4 mv_X7_step lk_X6_44 rfl (by decide) (k_2 hS) (Nat.le_of_ble_eq_true rfl) (WPs.mono k (fun r4 s4 k => ?_))
  refine r_aload_n dX6_readsWord_7 rfl ?_
  refine r_getRv dX6_readsWord_8 fl_X6_28 rfl (k_124 hS) (f_124_0 hS) (by decide) ?_
  refine r_aload_n dX6_readsWord_11 rfl ?_
  refine s_callVv (z := mX7_isWord) [vR (BIG + 1 + w)] dX6_readsWord_12 mv_X7_isWord lk_X6_69 rfl (by decide) (k_2 hS) (Nat.le_of_ble_eq_true rfl) (WPs.mono k (fun r12 s12 k => ?_))
  refine r_if_ne (tgt := 26) dX6_readsWord_15 rfl (fun h => ?_) (fun h => ?_)
  · have k := k.1 h
    refine r_iconst dX6_readsWord_26 ⟨by decide, by decide⟩ ?_
    refine r_goto (tgt := 31) dX6_readsWord_27 rfl ?_
    exact s_zret dX6_readsWord_31 rfl (by decide) k
  · have k := k.2 h
    refine r_aload_n dX6_readsWord_18 rfl ?_
    refine r_iconst dX6_readsWord_19 ⟨by decide, by decide⟩ ?_
    refine s_callVv (z := mX6_fails) [vI 1] dX6_readsWord_20 mv_X6_fails lk_X6_52 rfl (by decide) (k_124 hS) (Nat.le_of_ble_eq_true rfl) (WPs.mono k (fun r20 s20 k => ?_))
    refine r_if_eq (tgt := 30) dX6_readsWord_23 rfl (fun h => ?_) (fun h => ?_)
    · have k := k.1 h
      refine r_iconst dX6_readsWord_30 ⟨by decide, by decide⟩ ?_
      exact s_zret dX6_readsWord_31 rfl (by decide) k
    · have k := k.2 h
      refine r_iconst dX6_readsWord_26 ⟨by decide, by decide⟩ ?_
      refine r_goto (tgt := 31) dX6_readsWord_27 rfl ?_
      exact s_zret dX6_readsWord_31 rfl (by decide) k
theorem e_X6_readsWhole {v1 v2 : Int} {S : ShT} {σ : StT} {Q : Int → StT → Prop} (hS : SHP S) (k : WPs mX7_step [vR 2] S σ (fun r4 s4 => (s4 2 4 = 2 → (s4 2 6 < v1 → AWs mX6_readsWhole 46 [(0, vR 124)] [] S s4 Q) ∧ (¬ (s4 2 6 < v1) → (s4 2 6 ≤ v2 → Q 1 s4) ∧ (¬ (s4 2 6 ≤ v2) → AWs mX6_readsWhole 46 [(0, vR 124)] [] S s4 Q))) ∧ (¬ (s4 2 4 = 2) → WPs mX6_fails [vR 124, vI 1] S s4 (fun r20 s20 => (r20 = 0 ∨ r20 = 1) ∧ Q r20 s20)))) : WPs mX6_readsWhole [vR 124, vI v1, vI v2] S σ Q := by
  refine s_entry (by decide) (Nat.le_of_ble_eq_true rfl) rfl rfl ?_
  refine r_aload_n dX6_readsWhole_0 rfl ?_
  refine r_getRv dX6_readsWhole_1 fl_X6_28 rfl (k_124 hS) (f_124_0 hS) (by decide) ?_
  refine s_callVv (z := mX7_step) [] dX6_readsWhole_4 mv_X7_step lk_X6_44 rfl (by decide) (k_2 hS) (Nat.le_of_ble_eq_true rfl) (WPs.mono k (fun r4 s4 k => ?_))
  refine r_aload_n dX6_readsWhole_7 rfl ?_
  refine r_getRv dX6_readsWhole_8 fl_X6_28 rfl (k_124 hS) (f_124_0 hS) (by decide) ?_
  refine r_getIv dX6_readsWhole_11 fl_X6_49 rfl (k_2 hS) ?_
  refine r_iconst dX6_readsWhole_14 ⟨by decide, by decide⟩ ?_
  refine r_icmp_eq (tgt := 24) dX6_readsWhole_15 rfl (fun h => ?_) (fun h => ?_)
  · have k := k.1 h
    refine r_aload_n dX6_readsWhole_24 rfl ?_
    refine r_getRv dX6_readsWhole_25 fl_X6_28 rfl (k_124 hS) (f_124_0 hS) (by decide) ?_
    refine r_getIv dX6_readsWhole_28 fl_X6_100 rfl (k_2 hS) ?_
    refine r_iload_n dX6_readsWhole_31 rfl ?_
    refine r_icmp_lt (tgt := 46) dX6_readsWhole_32 rfl (fun h => ?_) (fun h => ?_)
    · have k := k.1 h
      refine r_loc [0] rfl ?_
      exact k
    · have k := k.2 h
      refine r_aload_n dX6_readsWhole_35 rfl ?_
      refine r_getRv dX6_readsWhole_36 fl_X6_28 rfl (k_124 hS) (f_124_0 hS) (by decide) ?_
      refine r_getIv dX6_readsWhole_39 fl_X6_100 rfl (k_2 hS) ?_
      refine r_iload_n dX6_readsWhole_42 rfl ?_
      refine r_icmp_le (tgt := 54) dX6_readsWhole_43 rfl (fun h => ?_) (fun h => ?_)
      · have k := k.1 h
        refine r_iconst dX6_readsWhole_54 ⟨by decide, by decide⟩ ?_
        refine r_goto (tgt := 59) dX6_readsWhole_55 rfl ?_
        exact s_zret dX6_readsWhole_59 rfl (by decide) k
      · have k := k.2 h
        refine r_loc [0] rfl ?_
        exact k
  · have k := k.2 h
    refine r_aload_n dX6_readsWhole_18 rfl ?_
    refine r_iconst dX6_readsWhole_19 ⟨by decide, by decide⟩ ?_
    refine s_callVv (z := mX6_fails) [vI 1] dX6_readsWhole_20 mv_X6_fails lk_X6_52 rfl (by decide) (k_124 hS) (Nat.le_of_ble_eq_true rfl) (WPs.mono k (fun r20 s20 k => ?_))
    exact s_zret dX6_readsWhole_23 rfl k.1 k.2
theorem t_X6_readsWhole_46 {S : ShT} {σ : StT} {Q : Int → StT → Prop} (hS : SHP S) (k : WPs mX6_fails [vR 124, vI 2] S σ (fun r48 s48 => (r48 = 0 → Q 0 s48) ∧ (¬ (r48 = 0) → Q 1 s48))) : AWs mX6_readsWhole 46 [(0, vR 124)] [] S σ Q := by
  refine r_aload_n dX6_readsWhole_46 rfl ?_
  refine r_iconst dX6_readsWhole_47 ⟨by decide, by decide⟩ ?_
  refine s_callVv (z := mX6_fails) [vI 2] dX6_readsWhole_48 mv_X6_fails lk_X6_52 rfl (by decide) (k_124 hS) (Nat.le_of_ble_eq_true rfl) (WPs.mono k (fun r48 s48 k => ?_))
  refine r_if_eq (tgt := 58) dX6_readsWhole_51 rfl (fun h => ?_) (fun h => ?_)
  · have k := k.1 h
    refine r_iconst dX6_readsWhole_58 ⟨by decide, by decide⟩ ?_
    exact s_zret dX6_readsWhole_59 rfl (by decide) k
  · have k := k.2 h
    refine r_iconst dX6_readsWhole_54 ⟨by decide, by decide⟩ ?_
    refine r_goto (tgt := 59) dX6_readsWhole_55 rfl ?_
    exact s_zret dX6_readsWhole_59 rfl (by decide) k
