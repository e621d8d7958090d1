theorem e_X10_feed {v1 v2 v3 v4 v5 : Int} {S : ShT} {σ : StT} {Q : Int → StT → Prop} (hS : SHP S) (k : WPs mX7_hasRoom [vR 2] S σ (fun r4 s4 => (¬ r4 = 0 → WPs mX7_put [vR 2, vI v1] S s4 (fun r17 s17 => WPs mX7_put [vR 2, vI v2] S s17 (fun r25 s25 => WPs mX7_put [vR 2, vI v3] S s25 (fun r33 s33 => WPs mX7_put [vR 2, vI v4] S s33 (fun r42 s42 => WPs mX7_put [vR 2, vI v5] S s42 (fun r51 s51 => Q (s51 2 1) s51)))))) ∧ (r4 = 0 → Q (-1) s4))) : WPs mX10_feed [vR 1, vI v1, vI v2, vI v3, vI v4, vI v5] S σ Q := by
  refine s_entry (by decide) (Nat.le_of_ble_eq_true rfl) rfl rfl ?_
  refine r_aload_n dX10_feed_0 rfl ?_
  refine r_getRv dX10_feed_1 fl_X10_12 rfl (k_1 hS) (f_1_0 hS) (by decide) ?_
  refine s_callVv (z := mX7_hasRoom) [] dX10_feed_4 mv_X7_hasRoom lk_X10_101 rfl (by decide) (k_2 hS) (Nat.le_of_ble_eq_true rfl) (WPs.mono k (fun r4 s4 k => ?_))
  refine r_if_ne (tgt := 12) dX10_feed_7 rfl (fun h => ?_) (fun h => ?_)
  · have k := k.1 h
    refine r_aload_n dX10_feed_12 rfl ?_
    refine r_getRv dX10_feed_13 fl_X10_12 rfl (k_1 hS) (f_1_0 hS) (by decide) ?_
    refine r_iload_n dX10_feed_16 rfl ?_
    refine s_callVv (z := mX7_put) [vI v1] dX10_feed_17 mv_X7_put lk_X10_105 rfl (by decide) (k_2 hS) (Nat.le_of_ble_eq_true rfl) (WPs.mono k (fun r17 s17 k => ?_))
    refine r_aload_n dX10_feed_20 rfl ?_
    refine r_getRv dX10_feed_21 fl_X10_12 rfl (k_1 hS) (f_1_0 hS) (by decide) ?_
    refine r_iload_n dX10_feed_24 rfl ?_
    refine s_callVv (z := mX7_put) [vI v2] dX10_feed_25 mv_X7_put lk_X10_105 rfl (by decide) (k_2 hS) (Nat.le_of_ble_eq_true rfl) (WPs.mono k (fun r25 s25 k => ?_))
    refine r_aload_n dX10_feed_28 rfl ?_
    refine r_getRv dX10_feed_29 fl_X10_12 rfl (k_1 hS) (f_1_0 hS) (by decide) ?_
    refine r_iload_n dX10_feed_32 rfl ?_
    refine s_callVv (z := mX7_put) [vI v3] dX10_feed_33 mv_X7_put lk_X10_105 rfl (by decide) (k_2 hS) (Nat.le_of_ble_eq_true rfl) (WPs.mono k (fun r33 s33 k => ?_))
    refine r_aload_n dX10_feed_36 rfl ?_
    refine r_getRv dX10_feed_37 fl_X10_12 rfl (k_1 hS) (f_1_0 hS) (by decide) ?_
    refine r_iload dX10_feed_40 rfl ?_
    refine s_callVv (z := mX7_put) [vI v4] dX10_feed_42 mv_X7_put lk_X10_105 rfl (by decide) (k_2 hS) (Nat.le_of_ble_eq_true rfl) (WPs.mono k (fun r42 s42 k => ?_))
    refine r_aload_n dX10_feed_45 rfl ?_
    refine r_getRv dX10_feed_46 fl_X10_12 rfl (k_1 hS) (f_1_0 hS) (by decide) ?_
    refine r_iload dX10_feed_49 rfl ?_
    refine s_callVv (z := mX7_put) [vI v5] dX10_feed_51 mv_X7_put lk_X10_105 rfl (by decide) (k_2 hS) (Nat.le_of_ble_eq_true rfl) (WPs.mono k (fun r51 s51 k => ?_))
    refine r_aload_n dX10_feed_54 rfl ?_
    refine r_getRv dX10_feed_55 fl_X10_12 rfl (k_1 hS) (f_1_0 hS) (by decide) ?_
    refine r_getIv dX10_feed_58 fl_X10_109 rfl (k_2 hS) ?_
    exact s_iret dX10_feed_61 rfl k
  · have k := k.2 h
    refine r_iconst dX10_feed_10 ⟨by decide, by decide⟩ ?_
    exact s_iret dX10_feed_11 rfl k
theorem e_X10_sheet {v1 : Int} {S : ShT} {σ : StT} {Q : Int → StT → Prop} (hS : SHP S) (k : (v1 < 0 → WPs mX10_refused [vR 1, vI 2] S σ (fun r17 s17 => Q r17 s17)) ∧ (¬ (v1 < 0) → (v1 ≤ σ 2 1 → WPs mX6_reads [vR 124, vI v1] S σ (fun r26 s26 => (¬ r26 = 0 → WPs mX0_copy [vR 4, vR 106] S (up2 s26 2 1 0) (fun r56 s56 => WPs mX2_clear [vR 53] S (up2 s56 1 12 1) (fun r68 s68 => WPs mX10_startPlan [vR 1] S s68 (fun r72 s72 => WPs mX10_told [vR 1, vI (s72 4 2)] S s72 (fun r83 s83 => Q r83 s83))))) ∧ (r26 = 0 → WPs mX10_refused [vR 1, vI 4] S (up2 s26 2 1 0) (fun r44 s44 => Q r44 s44)))) ∧ (¬ (v1 ≤ σ 2 1) → WPs mX10_refused [vR 1, vI 2] S σ (fun r17 s17 => Q r17 s17)))) : WPs mX10_sheet [vR 1, vI v1] S σ Q := by
  refine s_entry (by decide) (Nat.le_of_ble_eq_true rfl) rfl rfl ?_
  refine r_iload_n dX10_sheet_0 rfl ?_
  refine r_if_lt (tgt := 15) dX10_sheet_1 rfl (fun h => ?_) (fun h => ?_)
  · have k := k.1 h
    refine r_aload_n dX10_sheet_15 rfl ?_
    refine r_iconst dX10_sheet_16 ⟨by decide, by decide⟩ ?_
    refine s_callVv (z := mX10_refused) [vI 2] dX10_sheet_17 mv_X10_refused lk_X10_112 rfl (by decide) (k_1 hS) (Nat.le_of_ble_eq_true rfl) (WPs.mono k (fun r17 s17 k => ?_))
    exact s_iret dX10_sheet_20 rfl k
  · have k := k.2 h
    refine r_iload_n dX10_sheet_4 rfl ?_
    refine r_aload_n dX10_sheet_5 rfl ?_
    refine r_getRv dX10_sheet_6 fl_X10_12 rfl (k_1 hS) (f_1_0 hS) (by decide) ?_
    refine r_getIv dX10_sheet_9 fl_X10_109 rfl (k_2 hS) ?_
    refine r_icmp_le (tgt := 21) dX10_sheet_12 rfl (fun h => ?_) (fun h => ?_)
    · have k := k.1 h
      refine r_aload_n dX10_sheet_21 rfl ?_
      refine r_getRv dX10_sheet_22 fl_X10_89 rfl (k_1 hS) (f_1_11 hS) (by decide) ?_
      refine r_iload_n dX10_sheet_25 rfl ?_
      refine s_callVv (z := mX6_reads) [vI v1] dX10_sheet_26 mv_X6_reads lk_X10_116 rfl (by decide) (k_124 hS) (Nat.le_of_ble_eq_true rfl) (WPs.mono k (fun r26 s26 k => ?_))
      refine r_istore_n dX10_sheet_29 (by decide) rfl rfl ?_
      refine r_aload_n dX10_sheet_30 rfl ?_
      refine r_getRv dX10_sheet_31 fl_X10_12 rfl (k_1 hS) (f_1_0 hS) (by decide) ?_
      refine r_iconst dX10_sheet_34 ⟨by decide, by decide⟩ ?_
      refine r_putIv dX10_sheet_35 fl_X10_109 (fun _ h => by cases h; rfl) (Or.inl rfl) (k_2 hS) ?_
      refine r_iload_n dX10_sheet_38 rfl ?_
      refine r_if_ne (tgt := 48) dX10_sheet_39 rfl (fun h => ?_) (fun h => ?_)
      · have k := k.1 h
        refine r_aload_n dX10_sheet_48 rfl ?_
        refine r_getRv dX10_sheet_49 fl_X10_19 rfl (k_1 hS) (f_1_1 hS) (by decide) ?_
        refine r_aload_n dX10_sheet_52 rfl ?_
        refine r_getRv dX10_sheet_53 fl_X10_75 rfl (k_1 hS) (f_1_8 hS) (by decide) ?_
        refine s_callVv (z := mX0_copy) [vR 106] dX10_sheet_56 mv_X0_copy lk_X10_120 rfl (by decide) (k_4 hS) (Nat.le_of_ble_eq_true rfl) (WPs.mono k (fun r56 s56 k => ?_))
        refine r_aload_n dX10_sheet_59 rfl ?_
        refine r_iconst dX10_sheet_60 ⟨by decide, by decide⟩ ?_
        refine r_putIv dX10_sheet_61 fl_X10_93 (fun _ h => by cases h; rfl) (Or.inr ⟨rfl, by decide⟩) (k_1 hS) ?_
        refine r_aload_n dX10_sheet_64 rfl ?_
        refine r_getRv dX10_sheet_65 fl_X10_71 rfl (k_1 hS) (f_1_7 hS) (by decide) ?_
        refine s_callVv (z := mX2_clear) [] dX10_sheet_68 mv_X2_clear lk_X10_123 rfl (by decide) (k_53 hS) (Nat.le_of_ble_eq_true rfl) (WPs.mono k (fun r68 s68 k => ?_))
        refine r_aload_n dX10_sheet_71 rfl ?_
        refine s_callVv (z := mX10_startPlan) [] dX10_sheet_72 mv_X10_startPlan lk_X10_126 rfl (by decide) (k_1 hS) (Nat.le_of_ble_eq_true rfl) (WPs.mono k (fun r72 s72 k => ?_))
        refine r_aload_n dX10_sheet_75 rfl ?_
        refine r_aload_n dX10_sheet_76 rfl ?_
        refine r_getRv dX10_sheet_77 fl_X10_19 rfl (k_1 hS) (f_1_1 hS) (by decide) ?_
        refine r_getIv dX10_sheet_80 fl_X10_129 rfl (k_4 hS) ?_
        refine s_callVv (z := mX10_told) [vI (s72 4 2)] dX10_sheet_83 mv_X10_told lk_X10_132 rfl (by decide) (k_1 hS) (Nat.le_of_ble_eq_true rfl) (WPs.mono k (fun r83 s83 k => ?_))
        exact s_iret dX10_sheet_86 rfl k
      · have k := k.2 h
        refine r_aload_n dX10_sheet_42 rfl ?_
        refine r_iconst dX10_sheet_43 ⟨by decide, by decide⟩ ?_
        refine s_callVv (z := mX10_refused) [vI 4] dX10_sheet_44 mv_X10_refused lk_X10_112 rfl (by decide) (k_1 hS) (Nat.le_of_ble_eq_true rfl) (WPs.mono k (fun r44 s44 k => ?_))
        exact s_iret dX10_sheet_47 rfl k
    · have k := k.2 h
      refine r_aload_n dX10_sheet_15 rfl ?_
      refine r_iconst dX10_sheet_16 ⟨by decide, by decide⟩ ?_
      refine s_callVv (z := mX10_refused) [vI 2] dX10_sheet_17 mv_X10_refused lk_X10_112 rfl (by decide) (k_1 hS) (Nat.le_of_ble_eq_true rfl) (WPs.mono k (fun r17 s17 k => ?_))
      exact s_iret dX10_sheet_20 rfl k
theorem e_X10_fault {S : ShT} {σ : StT} {Q : Int → StT → Prop} (hS : SHP S) (k : Q (σ 124 5) σ) : WPs mX10_fault [vR 1] S σ Q := by
  refine s_entry (by decide) (Nat.le_of_ble_eq_true rfl) rfl rfl ?_
  refine r_aload_n dX10_fault_0 rfl ?_
  refine r_getRv dX10_fault_1 fl_X10_89 rfl (k_1 hS) (f_1_11 hS) (by decide) ?_
  refine r_getIv dX10_fault_4 fl_X10_135 rfl (k_124 hS) ?_
  exact s_iret dX10_fault_7 rfl k
theorem e_X10_where {S : ShT} {σ : StT} {Q : Int → StT → Prop} (hS : SHP S) (k : (¬ σ 1 13 = 4 → Q (-1) σ) ∧ (σ 1 13 = 4 → Q (σ 124 6) σ)) : WPs mX10_where [vR 1] S σ Q := by
  refine s_entry (by decide) (Nat.le_of_ble_eq_true rfl) rfl rfl ?_
  refine r_aload_n dX10_where_0 rfl ?_
  refine r_getIv dX10_where_1 fl_X10_97 rfl (k_1 hS) ?_
  refine r_iconst dX10_where_4 ⟨by decide, by decide⟩ ?_
  refine r_icmp_ne (tgt := 18) dX10_where_5 rfl (fun h => ?_) (fun h => ?_)
  · have k := k.1 h
    refine r_iconst dX10_where_18 ⟨by decide, by decide⟩ ?_
    exact s_iret dX10_where_19 rfl k
  · have k := k.2 h
    refine r_aload_n dX10_where_8 rfl ?_
    refine r_getRv dX10_where_9 fl_X10_89 rfl (k_1 hS) (f_1_11 hS) (by decide) ?_
    refine r_getIv dX10_where_12 fl_X10_138 rfl (k_124 hS) ?_
    refine r_goto (tgt := 19) dX10_where_15 rfl ?_
    exact s_iret dX10_where_19 rfl k
theorem e_X10_about {v1 : Int} {S : ShT} {σ : StT} {Q : Int → StT → Prop} (hS : SHP S) (k : (¬ σ 1 12 = 0 → (v1 < 0 ∨ 10 < v1 → WPs mX10_refused [vR 1, vI 1] S σ (fun r206 s206 => Q r206 s206)) ∧ (v1 = 0 → WPs mX10_told [vR 1, vI (σ 4 3)] S σ (fun r80 s80 => Q r80 s80)) ∧ (v1 = 1 → WPs mX10_told [vR 1, vI (σ 4 4)] S σ (fun r92 s92 => Q r92 s92)) ∧ (v1 = 2 → WPs mX10_told [vR 1, vI (σ 4 2)] S σ (fun r104 s104 => Q r104 s104)) ∧ (v1 = 3 → WPs mX10_told [vR 1, vI (σ 4 5)] S σ (fun r116 s116 => Q r116 s116)) ∧ (v1 = 4 → WPs mX10_told [vR 1, vI (σ 4 6)] S σ (fun r128 s128 => Q r128 s128)) ∧ (v1 = 5 → WPs mX10_told [vR 1, vI (σ 4 7)] S σ (fun r140 s140 => Q r140 s140)) ∧ (v1 = 6 → WPs mX10_told [vR 1, vI (σ 4 8)] S σ (fun r152 s152 => Q r152 s152)) ∧ (v1 = 7 → WPs mX3_count [vR 7] S σ (fun r161 s161 => WPs mX10_told [vR 1, vI r161] S s161 (fun r164 s164 => Q r164 s164))) ∧ (v1 = 8 → WPs mX3_parts [vR 7] S σ (fun r173 s173 => WPs mX10_told [vR 1, vI r173] S s173 (fun r176 s176 => Q r176 s176))) ∧ (v1 = 9 → WPs mX3_odds [vR 7] S σ (fun r185 s185 => WPs mX10_told [vR 1, vI r185] S s185 (fun r188 s188 => Q r188 s188))) ∧ (v1 = 10 → WPs mX10_told [vR 1, vI (σ 40 9)] S σ (fun r200 s200 => Q r200 s200))) ∧ (σ 1 12 = 0 → WPs mX10_refused [vR 1, vI 1] S σ (fun r9 s9 => Q r9 s9))) : WPs mX10_about [vR 1, vI v1] S σ Q := by
  refine s_entry (by decide) (Nat.le_of_ble_eq_true rfl) rfl rfl ?_
  refine r_aload_n dX10_about_0 rfl ?_
  refine r_getIv dX10_about_1 fl_X10_93 rfl (k_1 hS) ?_
  refine r_if_ne (tgt := 13) dX10_about_4 rfl (fun h => ?_) (fun h => ?_)
  · have k := k.1 h
    refine r_iload_n dX10_about_13 rfl ?_
    refine r_tsw (dt := 204) [72, 84, 96, 108, 120, 132, 144, 156, 168, 180, 192] dX10_about_14 rfl (by decide +kernel) rfl (fun h => ?_) ⟨fun h => ?_, fun h => ?_, fun h => ?_, fun h => ?_, fun h => ?_, fun h => ?_, fun h => ?_, fun h => ?_, fun h => ?_, fun h => ?_, fun h => ?_, trivial⟩
    · have k := k.1 h
      refine r_aload_n dX10_about_204 rfl ?_
      refine r_iconst dX10_about_205 ⟨by decide, by decide⟩ ?_
      refine s_callVv (z := mX10_refused) [vI 1] dX10_about_206 mv_X10_refused lk_X10_112 rfl (by decide) (k_1 hS) (Nat.le_of_ble_eq_true rfl) (WPs.mono k (fun r206 s206 k => ?_))
      exact s_iret dX10_about_209 rfl k
    · have k := k.2.1 h
      refine r_aload_n dX10_about_72 rfl ?_
      refine r_aload_n dX10_about_73 rfl ?_
      refine r_getRv dX10_about_74 fl_X10_19 rfl (k_1 hS) (f_1_1 hS) (by decide) ?_
      refine r_getIv dX10_about_77 fl_X10_141 rfl (k_4 hS) ?_
      refine s_callVv (z := mX10_told) [vI (σ 4 3)] dX10_about_80 mv_X10_told lk_X10_132 rfl (by decide) (k_1 hS) (Nat.le_of_ble_eq_true rfl) (WPs.mono k (fun r80 s80 k => ?_))
      exact s_iret dX10_about_83 rfl k
    · have k := k.2.2.1 h
      refine r_aload_n dX10_about_84 rfl ?_
      refine r_aload_n dX10_about_85 rfl ?_
      refine r_getRv dX10_about_86 fl_X10_19 rfl (k_1 hS) (f_1_1 hS) (by decide) ?_
      refine r_getIv dX10_about_89 fl_X10_144 rfl (k_4 hS) ?_
      refine s_callVv (z := mX10_told) [vI (σ 4 4)] dX10_about_92 mv_X10_told lk_X10_132 rfl (by decide) (k_1 hS) (Nat.le_of_ble_eq_true rfl) (WPs.mono k (fun r92 s92 k => ?_))
      exact s_iret dX10_about_95 rfl k
    · have k := k.2.2.2.1 h
      refine r_aload_n dX10_about_96 rfl ?_
      refine r_aload_n dX10_about_97 rfl ?_
      refine r_getRv dX10_about_98 fl_X10_19 rfl (k_1 hS) (f_1_1 hS) (by decide) ?_
      refine r_getIv dX10_about_101 fl_X10_129 rfl (k_4 hS) ?_
      refine s_callVv (z := mX10_told) [vI (σ 4 2)] dX10_about_104 mv_X10_told lk_X10_132 rfl (by decide) (k_1 hS) (Nat.le_of_ble_eq_true rfl) (WPs.mono k (fun r104 s104 k => ?_))
      exact s_iret dX10_about_107 rfl k
    · have k := k.2.2.2.2.1 h
      refine r_aload_n dX10_about_108 rfl ?_
      refine r_aload_n dX10_about_109 rfl ?_
      refine r_getRv dX10_about_110 fl_X10_19 rfl (k_1 hS) (f_1_1 hS) (by decide) ?_
      refine r_getIv dX10_about_113 fl_X10_147 rfl (k_4 hS) ?_
      refine s_callVv (z := mX10_told) [vI (σ 4 5)] dX10_about_116 mv_X10_told lk_X10_132 rfl (by decide) (k_1 hS) (Nat.le_of_ble_eq_true rfl) (WPs.mono k (fun r116 s116 k => ?_))
      exact s_iret dX10_about_119 rfl k
    · have k := k.2.2.2.2.2.1 h
      refine r_aload_n dX10_about_120 rfl ?_
      refine r_aload_n dX10_about_121 rfl ?_
      refine r_getRv dX10_about_122 fl_X10_19 rfl (k_1 hS) (f_1_1 hS) (by decide) ?_
      refine r_getIv dX10_about_125 fl_X10_150 rfl (k_4 hS) ?_
      refine s_callVv (z := mX10_told) [vI (σ 4 6)] dX10_about_128 mv_X10_told lk_X10_132 rfl (by decide) (k_1 hS) (Nat.le_of_ble_eq_true rfl) (WPs.mono k (fun r128 s128 k => ?_))
      exact s_iret dX10_about_131 rfl k
    · have k := k.2.2.2.2.2.2.1 h
      refine r_aload_n dX10_about_132 rfl ?_
      refine r_aload_n dX10_about_133 rfl ?_
      refine r_getRv dX10_about_134 fl_X10_19 rfl (k_1 hS) (f_1_1 hS) (by decide) ?_
      refine r_getIv dX10_about_137 fl_X10_153 rfl (k_4 hS) ?_
      refine s_callVv (z := mX10_told) [vI (σ 4 7)] dX10_about_140 mv_X10_told lk_X10_132 rfl (by decide) (k_1 hS) (Nat.le_of_ble_eq_true rfl) (WPs.mono k (fun r140 s140 k => ?_))
      exact s_iret dX10_about_143 rfl k
    · have k := k.2.2.2.2.2.2.2.1 h
      refine r_aload_n dX10_about_144 rfl ?_
      refine r_aload_n dX10_about_145 rfl ?_
      refine r_getRv dX10_about_146 fl_X10_19 rfl (k_1 hS) (f_1_1 hS) (by decide) ?_
      refine r_getIv dX10_about_149 fl_X10_156 rfl (k_4 hS) ?_
      refine s_callVv (z := mX10_told) [vI (σ 4 8)] dX10_about_152 mv_X10_told lk_X10_132 rfl (by decide) (k_1 hS) (Nat.le_of_ble_eq_true rfl) (WPs.mono k (fun r152 s152 k => ?_))
      exact s_iret dX10_about_155 rfl k
    · have k := k.2.2.2.2.2.2.2.2.1 h
      refine r_aload_n dX10_about_156 rfl ?_
      refine r_aload_n dX10_about_157 rfl ?_
      refine r_getRv dX10_about_158 fl_X10_28 rfl (k_1 hS) (f_1_2 hS) (by decide) ?_
      refine s_callVv (z := mX3_count) [] dX10_about_161 mv_X3_count lk_X10_159 rfl (by decide) (k_7 hS) (Nat.le_of_ble_eq_true rfl) (WPs.mono k (fun r161 s161 k => ?_))
      refine s_callVv (z := mX10_told) [vI r161] dX10_about_164 mv_X10_told lk_X10_132 rfl (by decide) (k_1 hS) (Nat.le_of_ble_eq_true rfl) (WPs.mono k (fun r164 s164 k => ?_))
      exact s_iret dX10_about_167 rfl k
    · have k := k.2.2.2.2.2.2.2.2.2.1 h
      refine r_aload_n dX10_about_168 rfl ?_
      refine r_aload_n dX10_about_169 rfl ?_
      refine r_getRv dX10_about_170 fl_X10_28 rfl (k_1 hS) (f_1_2 hS) (by decide) ?_
      refine s_callVv (z := mX3_parts) [] dX10_about_173 mv_X3_parts lk_X10_163 rfl (by decide) (k_7 hS) (Nat.le_of_ble_eq_true rfl) (WPs.mono k (fun r173 s173 k => ?_))
      refine s_callVv (z := mX10_told) [vI r173] dX10_about_176 mv_X10_told lk_X10_132 rfl (by decide) (k_1 hS) (Nat.le_of_ble_eq_true rfl) (WPs.mono k (fun r176 s176 k => ?_))
      exact s_iret dX10_about_179 rfl k
    · have k := k.2.2.2.2.2.2.2.2.2.2.1 h
      refine r_aload_n dX10_about_180 rfl ?_
      refine r_aload_n dX10_about_181 rfl ?_
      refine r_getRv dX10_about_182 fl_X10_28 rfl (k_1 hS) (f_1_2 hS) (by decide) ?_
      refine s_callVv (z := mX3_odds) [] dX10_about_185 mv_X3_odds lk_X10_166 rfl (by decide) (k_7 hS) (Nat.le_of_ble_eq_true rfl) (WPs.mono k (fun r185 s185 k => ?_))
      refine s_callVv (z := mX10_told) [vI r185] dX10_about_188 mv_X10_told lk_X10_132 rfl (by decide) (k_1 hS) (Nat.le_of_ble_eq_true rfl) (WPs.mono k (fun r188 s188 k => ?_))
      exact s_iret dX10_about_191 rfl k
    · have k := k.2.2.2.2.2.2.2.2.2.2.2 h
      refine r_aload_n dX10_about_192 rfl ?_
      refine r_aload_n dX10_about_193 rfl ?_
      refine r_getRv dX10_about_194 fl_X10_55 rfl (k_1 hS) (f_1_5 hS) (by decide) ?_
      refine r_getIv dX10_about_197 fl_X10_169 rfl (k_40 hS) ?_
      refine s_callVv (z := mX10_told) [vI (σ 40 9)] dX10_about_200 mv_X10_told lk_X10_132 rfl (by decide) (k_1 hS) (Nat.le_of_ble_eq_true rfl) (WPs.mono k (fun r200 s200 k => ?_))
      exact s_iret dX10_about_203 rfl k
  · have k := k.2 h
    refine r_aload_n dX10_about_7 rfl ?_
    refine r_iconst dX10_about_8 ⟨by decide, by decide⟩ ?_
    refine s_callVv (z := mX10_refused) [vI 1] dX10_about_9 mv_X10_refused lk_X10_112 rfl (by decide) (k_1 hS) (Nat.le_of_ble_eq_true rfl) (WPs.mono k (fun r9 s9 k => ?_))
    exact s_iret dX10_about_12 rfl k
theorem e_X10_stroke {v1 v2 : Int} {S : ShT} {σ : StT} {Q : Int → StT → Prop} (hS : SHP S) (k : WPs mX10_hasStroke [vR 1, vI v1] S σ (fun r2 s2 => (¬ r2 = 0 → (v2 < 0 ∨ 6 < v2 → WPs mX10_refused [vR 1, vI 1] S s2 (fun r171 s171 => Q r171 s171)) ∧ (v2 = 0 → inR (2 * v1) ∧ (0 ≤ 2 * v1 ∧ 2 * v1 < 48) ∧ WPs mX10_told [vR 1, vI (s2 5 (2 * v1).toNat)] S s2 (fun r68 s68 => Q r68 s68)) ∧ (v2 = 1 → inR (2 * v1) ∧ (0 ≤ 2 * v1 ∧ 2 * v1 < 48) ∧ WPs mX10_told [vR 1, vI (s2 6 (2 * v1).toNat)] S s2 (fun r84 s84 => Q r84 s84)) ∧ (v2 = 2 → inR (2 * v1) ∧ inR ((2 * v1) + 1) ∧ (0 ≤ (2 * v1) + 1 ∧ (2 * v1) + 1 < 48) ∧ WPs mX10_told [vR 1, vI (s2 5 ((2 * v1) + 1).toNat)] S s2 (fun r102 s102 => Q r102 s102)) ∧ (v2 = 3 → inR (2 * v1) ∧ inR ((2 * v1) + 1) ∧ (0 ≤ (2 * v1) + 1 ∧ (2 * v1) + 1 < 48) ∧ WPs mX10_told [vR 1, vI (s2 6 ((2 * v1) + 1).toNat)] S s2 (fun r120 s120 => Q r120 s120)) ∧ (v2 = 4 → WPs mX0_strokeLength [vR 4, vI v1] S s2 (fun r130 s130 => WPs mX10_told [vR 1, vI r130] S s130 (fun r133 s133 => Q r133 s133))) ∧ (v2 = 5 → inR (2 * v1) ∧ WPs mX3_of [vR 7, vI (2 * v1)] S s2 (fun r145 s145 => WPs mX10_told [vR 1, vI r145] S s145 (fun r148 s148 => Q r148 s148))) ∧ (v2 = 6 → inR (2 * v1) ∧ inR ((2 * v1) + 1) ∧ WPs mX3_of [vR 7, vI ((2 * v1) + 1)] S s2 (fun r162 s162 => WPs mX10_told [vR 1, vI r162] S s162 (fun r165 s165 => Q r165 s165)))) ∧ (r2 = 0 → WPs mX10_refused [vR 1, vI 1] S s2 (fun r10 s10 => Q r10 s10)))) : WPs mX10_stroke [vR 1, vI v1, vI v2] S σ Q := by
  refine s_entry (by decide) (Nat.le_of_ble_eq_true rfl) rfl rfl ?_
  refine r_aload_n dX10_stroke_0 rfl ?_
  refine r_iload_n dX10_stroke_1 rfl ?_
  refine s_callVv (z := mX10_hasStroke) [vI v1] dX10_stroke_2 mv_X10_hasStroke lk_X10_171 rfl (by decide) (k_1 hS) (Nat.le_of_ble_eq_true rfl) (WPs.mono k (fun r2 s2 k => ?_))
  refine r_if_ne (tgt := 14) dX10_stroke_5 rfl (fun h => ?_) (fun h => ?_)
  · have k := k.1 h
    refine r_iload_n dX10_stroke_14 rfl ?_
    refine r_tsw (dt := 169) [56, 72, 88, 106, 124, 137, 152] dX10_stroke_15 rfl (by decide +kernel) rfl (fun h => ?_) ⟨fun h => ?_, fun h => ?_, fun h => ?_, fun h => ?_, fun h => ?_, fun h => ?_, fun h => ?_, trivial⟩
    · have k := k.1 h
      refine r_aload_n dX10_stroke_169 rfl ?_
      refine r_iconst dX10_stroke_170 ⟨by decide, by decide⟩ ?_
      refine s_callVv (z := mX10_refused) [vI 1] dX10_stroke_171 mv_X10_refused lk_X10_112 rfl (by decide) (k_1 hS) (Nat.le_of_ble_eq_true rfl) (WPs.mono k (fun r171 s171 k => ?_))
      exact s_iret dX10_stroke_174 rfl k
    · have k := k.2.1 h
      refine r_aload_n dX10_stroke_56 rfl ?_
      refine r_aload_n dX10_stroke_57 rfl ?_
      refine r_getRv dX10_stroke_58 fl_X10_19 rfl (k_1 hS) (f_1_1 hS) (by decide) ?_
      refine r_getRv dX10_stroke_61 fl_X10_174 rfl (k_4 hS) (f_4_0 hS) (by decide) ?_
      refine r_iconst dX10_stroke_64 ⟨by decide, by decide⟩ ?_
      refine r_iload_n dX10_stroke_65 rfl ?_
      obtain ⟨h, k⟩ := k
      refine r_imul dX10_stroke_66 h ?_
      obtain ⟨⟨h0, h1⟩, k⟩ := k
      refine r_iald dX10_stroke_67 (Or.inl (k_5 hS)) h0 h1 ?_
      refine s_callVv (z := mX10_told) [vI (s2 5 (2 * v1).toNat)] dX10_stroke_68 mv_X10_told lk_X10_132 rfl (by decide) (k_1 hS) (Nat.le_of_ble_eq_true rfl) (WPs.mono k (fun r68 s68 k => ?_))
      exact s_iret dX10_stroke_71 rfl k
    · have k := k.2.2.1 h
      refine r_aload_n dX10_stroke_72 rfl ?_
      refine r_aload_n dX10_stroke_73 rfl ?_
      refine r_getRv dX10_stroke_74 fl_X10_19 rfl (k_1 hS) (f_1_1 hS) (by decide) ?_
      refine r_getRv dX10_stroke_77 fl_X10_178 rfl (k_4 hS) (f_4_1 hS) (by decide) ?_
      refine r_iconst dX10_stroke_80 ⟨by decide, by decide⟩ ?_
      refine r_iload_n dX10_stroke_81 rfl ?_
      obtain ⟨h, k⟩ := k
      refine r_imul dX10_stroke_82 h ?_
      obtain ⟨⟨h0, h1⟩, k⟩ := k
      refine r_iald dX10_stroke_83 (Or.inl (k_6 hS)) h0 h1 ?_
      refine s_callVv (z := mX10_told) [vI (s2 6 (2 * v1).toNat)] dX10_stroke_84 mv_X10_told lk_X10_132 rfl (by decide) (k_1 hS) (Nat.le_of_ble_eq_true rfl) (WPs.mono k (fun r84 s84 k => ?_))
      exact s_iret dX10_stroke_87 rfl k
    · have k := k.2.2.2.1 h
      refine r_aload_n dX10_stroke_88 rfl ?_
      refine r_aload_n dX10_stroke_89 rfl ?_
      refine r_getRv dX10_stroke_90 fl_X10_19 rfl (k_1 hS) (f_1_1 hS) (by decide) ?_
      refine r_getRv dX10_stroke_93 fl_X10_174 rfl (k_4 hS) (f_4_0 hS) (by decide) ?_
      refine r_iconst dX10_stroke_96 ⟨by decide, by decide⟩ ?_
      refine r_iload_n dX10_stroke_97 rfl ?_
      obtain ⟨h, k⟩ := k
      refine r_imul dX10_stroke_98 h ?_
      refine r_iconst dX10_stroke_99 ⟨by decide, by decide⟩ ?_
      obtain ⟨h, k⟩ := k
      refine r_iadd dX10_stroke_100 h ?_
      obtain ⟨⟨h0, h1⟩, k⟩ := k
      refine r_iald dX10_stroke_101 (Or.inl (k_5 hS)) h0 h1 ?_
      refine s_callVv (z := mX10_told) [vI (s2 5 ((2 * v1) + 1).toNat)] dX10_stroke_102 mv_X10_told lk_X10_132 rfl (by decide) (k_1 hS) (Nat.le_of_ble_eq_true rfl) (WPs.mono k (fun r102 s102 k => ?_))
      exact s_iret dX10_stroke_105 rfl k
    · have k := k.2.2.2.2.1 h
      refine r_aload_n dX10_stroke_106 rfl ?_
      refine r_aload_n dX10_stroke_107 rfl ?_
      refine r_getRv dX10_stroke_108 fl_X10_19 rfl (k_1 hS) (f_1_1 hS) (by decide) ?_
      refine r_getRv dX10_stroke_111 fl_X10_178 rfl (k_4 hS) (f_4_1 hS) (by decide) ?_
      refine r_iconst dX10_stroke_114 ⟨by decide, by decide⟩ ?_
      refine r_iload_n dX10_stroke_115 rfl ?_
      obtain ⟨h, k⟩ := k
      refine r_imul dX10_stroke_116 h ?_
      refine r_iconst dX10_stroke_117 ⟨by decide, by decide⟩ ?_
      obtain ⟨h, k⟩ := k
      refine r_iadd dX10_stroke_118 h ?_
      obtain ⟨⟨h0, h1⟩, k⟩ := k
      refine r_iald dX10_stroke_119 (Or.inl (k_6 hS)) h0 h1 ?_
      refine s_callVv (z := mX10_told) [vI (s2 6 ((2 * v1) + 1).toNat)] dX10_stroke_120 mv_X10_told lk_X10_132 rfl (by decide) (k_1 hS) (Nat.le_of_ble_eq_true rfl) (WPs.mono k (fun r120 s120 k => ?_))
      exact s_iret dX10_stroke_123 rfl k
    · have k := k.2.2.2.2.2.1 h
      refine r_aload_n dX10_stroke_124 rfl ?_
      refine r_aload_n dX10_stroke_125 rfl ?_
      refine r_getRv dX10_stroke_126 fl_X10_19 rfl (k_1 hS) (f_1_1 hS) (by decide) ?_
      refine r_iload_n dX10_stroke_129 rfl ?_
      refine s_callVv (z := mX0_strokeLength) [vI v1] dX10_stroke_130 mv_X0_strokeLength lk_X10_181 rfl (by decide) (k_4 hS) (Nat.le_of_ble_eq_true rfl) (WPs.mono k (fun r130 s130 k => ?_))
      refine s_callVv (z := mX10_told) [vI r130] dX10_stroke_133 mv_X10_told lk_X10_132 rfl (by decide) (k_1 hS) (Nat.le_of_ble_eq_true rfl) (WPs.mono k (fun r133 s133 k => ?_))
      exact s_iret dX10_stroke_136 rfl k
    · have k := k.2.2.2.2.2.2.1 h
      refine r_aload_n dX10_stroke_137 rfl ?_
      refine r_aload_n dX10_stroke_138 rfl ?_
      refine r_getRv dX10_stroke_139 fl_X10_28 rfl (k_1 hS) (f_1_2 hS) (by decide) ?_
      refine r_iconst dX10_stroke_142 ⟨by decide, by decide⟩ ?_
      refine r_iload_n dX10_stroke_143 rfl ?_
      obtain ⟨h, k⟩ := k
      refine r_imul dX10_stroke_144 h ?_
      refine s_callVv (z := mX3_of) [vI (2 * v1)] dX10_stroke_145 mv_X3_of lk_X10_184 rfl (by decide) (k_7 hS) (Nat.le_of_ble_eq_true rfl) (WPs.mono k (fun r145 s145 k => ?_))
      refine s_callVv (z := mX10_told) [vI r145] dX10_stroke_148 mv_X10_told lk_X10_132 rfl (by decide) (k_1 hS) (Nat.le_of_ble_eq_true rfl) (WPs.mono k (fun r148 s148 k => ?_))
      exact s_iret dX10_stroke_151 rfl k
    · have k := k.2.2.2.2.2.2.2 h
      refine r_aload_n dX10_stroke_152 rfl ?_
      refine r_aload_n dX10_stroke_153 rfl ?_
      refine r_getRv dX10_stroke_154 fl_X10_28 rfl (k_1 hS) (f_1_2 hS) (by decide) ?_
      refine r_iconst dX10_stroke_157 ⟨by decide, by decide⟩ ?_
      refine r_iload_n dX10_stroke_158 rfl ?_
      obtain ⟨h, k⟩ := k
      refine r_imul dX10_stroke_159 h ?_
      refine r_iconst dX10_stroke_160 ⟨by decide, by decide⟩ ?_
      obtain ⟨h, k⟩ := k
      refine r_iadd dX10_stroke_161 h ?_
      refine s_callVv (z := mX3_of) [vI ((2 * v1) + 1)] dX10_stroke_162 mv_X3_of lk_X10_184 rfl (by decide) (k_7 hS) (Nat.le_of_ble_eq_true rfl) (WPs.mono k (fun r162 s162 k => ?_))
      refine s_callVv (z := mX10_told) [vI r162] dX10_stroke_165 mv_X10_told lk_X10_132 rfl (by decide) (k_1 hS) (Nat.le_of_ble_eq_true rfl) (WPs.mono k (fun r165 s165 k => ?_))
      exact s_iret dX10_stroke_168 rfl k
  · have k := k.2 h
    refine r_aload_n dX10_stroke_8 rfl ?_
    refine r_iconst dX10_stroke_9 ⟨by decide, by decide⟩ ?_
    refine s_callVv (z := mX10_refused) [vI 1] dX10_stroke_10 mv_X10_refused lk_X10_112 rfl (by decide) (k_1 hS) (Nat.le_of_ble_eq_true rfl) (WPs.mono k (fun r10 s10 k => ?_))
    exact s_iret dX10_stroke_13 rfl k
theorem e_X10_meeting {v1 v2 : Int} {S : ShT} {σ : StT} {Q : Int → StT → Prop} (hS : SHP S) (k : (σ 1 12 = 0 → WPs mX10_refused [vR 1, vI 1] S σ (fun r24 s24 => Q r24 s24)) ∧ (¬ (σ 1 12 = 0) → (v1 < 0 → WPs mX10_refused [vR 1, vI 1] S σ (fun r24 s24 => Q r24 s24)) ∧ (¬ (v1 < 0) → WPs mX3_count [vR 7] S σ (fun r16 s16 => (v1 < r16 → (v2 < 0 ∨ 4 < v2 → WPs mX10_refused [vR 1, vI 1] S s16 (fun r132 s132 => Q r132 s132)) ∧ (v2 = 0 → WPs mX3_xOf [vR 7, vI v1] S s16 (fun r70 s70 => WPs mX10_told [vR 1, vI r70] S s70 (fun r73 s73 => Q r73 s73))) ∧ (v2 = 1 → WPs mX3_yOf [vR 7, vI v1] S s16 (fun r83 s83 => WPs mX10_told [vR 1, vI r83] S s83 (fun r86 s86 => Q r86 s86))) ∧ (v2 = 2 → (0 ≤ v1 ∧ v1 < 48) ∧ WPs mX10_told [vR 1, vI (s16 18 v1.toNat)] S s16 (fun r100 s100 => Q r100 s100)) ∧ (v2 = 3 → WPs mX3_partOf [vR 7, vI v1] S s16 (fun r110 s110 => WPs mX10_told [vR 1, vI r110] S s110 (fun r113 s113 => Q r113 s113))) ∧ (v2 = 4 → WPs mX3_firstEnd [vR 7, vI v1] S s16 (fun r123 s123 => WPs mX10_told [vR 1, vI r123] S s123 (fun r126 s126 => Q r126 s126)))) ∧ (¬ (v1 < r16) → WPs mX10_refused [vR 1, vI 1] S s16 (fun r24 s24 => Q r24 s24)))))) : WPs mX10_meeting [vR 1, vI v1, vI v2] S σ Q := by
  refine s_entry (by decide) (Nat.le_of_ble_eq_true rfl) rfl rfl ?_
  refine r_aload_n dX10_meeting_0 rfl ?_
  refine r_getIv dX10_meeting_1 fl_X10_93 rfl (k_1 hS) ?_
  refine r_if_eq (tgt := 22) dX10_meeting_4 rfl (fun h => ?_) (fun h => ?_)
  · have k := k.1 h
    refine r_aload_n dX10_meeting_22 rfl ?_
    refine r_iconst dX10_meeting_23 ⟨by decide, by decide⟩ ?_
    refine s_callVv (z := mX10_refused) [vI 1] dX10_meeting_24 mv_X10_refused lk_X10_112 rfl (by decide) (k_1 hS) (Nat.le_of_ble_eq_true rfl) (WPs.mono k (fun r24 s24 k => ?_))
    exact s_iret dX10_meeting_27 rfl k
  · have k := k.2 h
    refine r_iload_n dX10_meeting_7 rfl ?_
    refine r_if_lt (tgt := 22) dX10_meeting_8 rfl (fun h => ?_) (fun h => ?_)
    · have k := k.1 h
      refine r_aload_n dX10_meeting_22 rfl ?_
      refine r_iconst dX10_meeting_23 ⟨by decide, by decide⟩ ?_
      refine s_callVv (z := mX10_refused) [vI 1] dX10_meeting_24 mv_X10_refused lk_X10_112 rfl (by decide) (k_1 hS) (Nat.le_of_ble_eq_true rfl) (WPs.mono k (fun r24 s24 k => ?_))
      exact s_iret dX10_meeting_27 rfl k
    · have k := k.2 h
      refine r_iload_n dX10_meeting_11 rfl ?_
      refine r_aload_n dX10_meeting_12 rfl ?_
      refine r_getRv dX10_meeting_13 fl_X10_28 rfl (k_1 hS) (f_1_2 hS) (by decide) ?_
      refine s_callVv (z := mX3_count) [] dX10_meeting_16 mv_X3_count lk_X10_159 rfl (by decide) (k_7 hS) (Nat.le_of_ble_eq_true rfl) (WPs.mono k (fun r16 s16 k => ?_))
      refine r_icmp_lt (tgt := 28) dX10_meeting_19 rfl (fun h => ?_) (fun h => ?_)
      · have k := k.1 h
        refine r_iload_n dX10_meeting_28 rfl ?_
        refine r_tsw (dt := 130) [64, 77, 90, 104, 117] dX10_meeting_29 rfl (by decide +kernel) rfl (fun h => ?_) ⟨fun h => ?_, fun h => ?_, fun h => ?_, fun h => ?_, fun h => ?_, trivial⟩
        · have k := k.1 h
          refine r_aload_n dX10_meeting_130 rfl ?_
          refine r_iconst dX10_meeting_131 ⟨by decide, by decide⟩ ?_
          refine s_callVv (z := mX10_refused) [vI 1] dX10_meeting_132 mv_X10_refused lk_X10_112 rfl (by decide) (k_1 hS) (Nat.le_of_ble_eq_true rfl) (WPs.mono k (fun r132 s132 k => ?_))
          exact s_iret dX10_meeting_135 rfl k
        · have k := k.2.1 h
          refine r_aload_n dX10_meeting_64 rfl ?_
          refine r_aload_n dX10_meeting_65 rfl ?_
          refine r_getRv dX10_meeting_66 fl_X10_28 rfl (k_1 hS) (f_1_2 hS) (by decide) ?_
          refine r_iload_n dX10_meeting_69 rfl ?_
          refine s_callVv (z := mX3_xOf) [vI v1] dX10_meeting_70 mv_X3_xOf lk_X10_187 rfl (by decide) (k_7 hS) (Nat.le_of_ble_eq_true rfl) (WPs.mono k (fun r70 s70 k => ?_))
          refine s_callVv (z := mX10_told) [vI r70] dX10_meeting_73 mv_X10_told lk_X10_132 rfl (by decide) (k_1 hS) (Nat.le_of_ble_eq_true rfl) (WPs.mono k (fun r73 s73 k => ?_))
          exact s_iret dX10_meeting_76 rfl k
        · have k := k.2.2.1 h
          refine r_aload_n dX10_meeting_77 rfl ?_
          refine r_aload_n dX10_meeting_78 rfl ?_
          refine r_getRv dX10_meeting_79 fl_X10_28 rfl (k_1 hS) (f_1_2 hS) (by decide) ?_
          refine r_iload_n dX10_meeting_82 rfl ?_
          refine s_callVv (z := mX3_yOf) [vI v1] dX10_meeting_83 mv_X3_yOf lk_X10_190 rfl (by decide) (k_7 hS) (Nat.le_of_ble_eq_true rfl) (WPs.mono k (fun r83 s83 k => ?_))
          refine s_callVv (z := mX10_told) [vI r83] dX10_meeting_86 mv_X10_told lk_X10_132 rfl (by decide) (k_1 hS) (Nat.le_of_ble_eq_true rfl) (WPs.mono k (fun r86 s86 k => ?_))
          exact s_iret dX10_meeting_89 rfl k
        · have k := k.2.2.2.1 h
          refine r_aload_n dX10_meeting_90 rfl ?_
          refine r_aload_n dX10_meeting_91 rfl ?_
          refine r_getRv dX10_meeting_92 fl_X10_28 rfl (k_1 hS) (f_1_2 hS) (by decide) ?_
          refine r_getRv dX10_meeting_95 fl_X10_193 rfl (k_7 hS) (f_7_5 hS) (by decide) ?_
          refine r_iload_n dX10_meeting_98 rfl ?_
          obtain ⟨⟨h0, h1⟩, k⟩ := k
          refine r_iald dX10_meeting_99 (Or.inl (k_18 hS)) h0 h1 ?_
          refine s_callVv (z := mX10_told) [vI (s16 18 v1.toNat)] dX10_meeting_100 mv_X10_told lk_X10_132 rfl (by decide) (k_1 hS) (Nat.le_of_ble_eq_true rfl) (WPs.mono k (fun r100 s100 k => ?_))
          exact s_iret dX10_meeting_103 rfl k
        · have k := k.2.2.2.2.1 h
          refine r_aload_n dX10_meeting_104 rfl ?_
          refine r_aload_n dX10_meeting_105 rfl ?_
          refine r_getRv dX10_meeting_106 fl_X10_28 rfl (k_1 hS) (f_1_2 hS) (by decide) ?_
          refine r_iload_n dX10_meeting_109 rfl ?_
          refine s_callVv (z := mX3_partOf) [vI v1] dX10_meeting_110 mv_X3_partOf lk_X10_196 rfl (by decide) (k_7 hS) (Nat.le_of_ble_eq_true rfl) (WPs.mono k (fun r110 s110 k => ?_))
          refine s_callVv (z := mX10_told) [vI r110] dX10_meeting_113 mv_X10_told lk_X10_132 rfl (by decide) (k_1 hS) (Nat.le_of_ble_eq_true rfl) (WPs.mono k (fun r113 s113 k => ?_))
          exact s_iret dX10_meeting_116 rfl k
        · have k := k.2.2.2.2.2 h
          refine r_aload_n dX10_meeting_117 rfl ?_
          refine r_aload_n dX10_meeting_118 rfl ?_
          refine r_getRv dX10_meeting_119 fl_X10_28 rfl (k_1 hS) (f_1_2 hS) (by decide) ?_
          refine r_iload_n dX10_meeting_122 rfl ?_
          refine s_callVv (z := mX3_firstEnd) [vI v1] dX10_meeting_123 mv_X3_firstEnd lk_X10_199 rfl (by decide) (k_7 hS) (Nat.le_of_ble_eq_true rfl) (WPs.mono k (fun r123 s123 k => ?_))
          refine s_callVv (z := mX10_told) [vI r123] dX10_meeting_126 mv_X10_told lk_X10_132 rfl (by decide) (k_1 hS) (Nat.le_of_ble_eq_true rfl) (WPs.mono k (fun r126 s126 k => ?_))
          exact s_iret dX10_meeting_129 rfl k
      · have k := k.2 h
        refine r_aload_n dX10_meeting_22 rfl ?_
        refine r_iconst dX10_meeting_23 ⟨by decide, by decide⟩ ?_
        refine s_callVv (z := mX10_refused) [vI 1] dX10_meeting_24 mv_X10_refused lk_X10_112 rfl (by decide) (k_1 hS) (Nat.le_of_ble_eq_true rfl) (WPs.mono k (fun r24 s24 k => ?_))
        exact s_iret dX10_meeting_27 rfl k
theorem e_X10_part {v1 v2 : Int} {S : ShT} {σ : StT} {Q : Int → StT → Prop} (hS : SHP S) (k : WPs mX10_hasPart [vR 1, vI v1] S σ (fun r2 s2 => (¬ r2 = 0 → (v2 < 0 ∨ 5 < v2 → WPs mX10_refused [vR 1, vI 1] S s2 (fun r133 s133 => Q r133 s133)) ∧ (v2 = 0 → WPs mX3_meetingsIn [vR 7, vI v1] S s2 (fun r58 s58 => WPs mX10_told [vR 1, vI r58] S s58 (fun r61 s61 => Q r61 s61))) ∧ (v2 = 1 → WPs mX3_strokesIn [vR 7, vI v1] S s2 (fun r71 s71 => WPs mX10_told [vR 1, vI r71] S s71 (fun r74 s74 => Q r74 s74))) ∧ (v2 = 2 → (0 ≤ v1 ∧ v1 < 48) ∧ WPs mX10_told [vR 1, vI (s2 19 v1.toNat)] S s2 (fun r88 s88 => Q r88 s88)) ∧ (v2 = 3 → WPs mX3_trailsIn [vR 7, vI v1] S s2 (fun r98 s98 => WPs mX10_told [vR 1, vI r98] S s98 (fun r101 s101 => Q r101 s101))) ∧ (v2 = 4 → WPs mX3_firstMeeting [vR 7, vI v1] S s2 (fun r111 s111 => WPs mX10_told [vR 1, vI r111] S s111 (fun r114 s114 => Q r114 s114))) ∧ (v2 = 5 → WPs mX4_gapsIn [vR 20, vI v1] S s2 (fun r124 s124 => WPs mX10_told [vR 1, vI r124] S s124 (fun r127 s127 => Q r127 s127)))) ∧ (r2 = 0 → WPs mX10_refused [vR 1, vI 1] S s2 (fun r10 s10 => Q r10 s10)))) : WPs mX10_part [vR 1, vI v1, vI v2] S σ Q := by
  refine s_entry (by decide) (Nat.le_of_ble_eq_true rfl) rfl rfl ?_
  refine r_aload_n dX10_part_0 rfl ?_
  refine r_iload_n dX10_part_1 rfl ?_
  refine s_callVv (z := mX10_hasPart) [vI v1] dX10_part_2 mv_X10_hasPart lk_X10_202 rfl (by decide) (k_1 hS) (Nat.le_of_ble_eq_true rfl) (WPs.mono k (fun r2 s2 k => ?_))
  refine r_if_ne (tgt := 14) dX10_part_5 rfl (fun h => ?_) (fun h => ?_)
  · have k := k.1 h
    refine r_iload_n dX10_part_14 rfl ?_
    refine r_tsw (dt := 131) [52, 65, 78, 92, 105, 118] dX10_part_15 rfl (by decide +kernel) rfl (fun h => ?_) ⟨fun h => ?_, fun h => ?_, fun h => ?_, fun h => ?_, fun h => ?_, fun h => ?_, trivial⟩
    · have k := k.1 h
      refine r_aload_n dX10_part_131 rfl ?_
      refine r_iconst dX10_part_132 ⟨by decide, by decide⟩ ?_
      refine s_callVv (z := mX10_refused) [vI 1] dX10_part_133 mv_X10_refused lk_X10_112 rfl (by decide) (k_1 hS) (Nat.le_of_ble_eq_true rfl) (WPs.mono k (fun r133 s133 k => ?_))
      exact s_iret dX10_part_136 rfl k
    · have k := k.2.1 h
      refine r_aload_n dX10_part_52 rfl ?_
      refine r_aload_n dX10_part_53 rfl ?_
      refine r_getRv dX10_part_54 fl_X10_28 rfl (k_1 hS) (f_1_2 hS) (by decide) ?_
      refine r_iload_n dX10_part_57 rfl ?_
      refine s_callVv (z := mX3_meetingsIn) [vI v1] dX10_part_58 mv_X3_meetingsIn lk_X10_205 rfl (by decide) (k_7 hS) (Nat.le_of_ble_eq_true rfl) (WPs.mono k (fun r58 s58 k => ?_))
      refine s_callVv (z := mX10_told) [vI r58] dX10_part_61 mv_X10_told lk_X10_132 rfl (by decide) (k_1 hS) (Nat.le_of_ble_eq_true rfl) (WPs.mono k (fun r61 s61 k => ?_))
      exact s_iret dX10_part_64 rfl k
    · have k := k.2.2.1 h
      refine r_aload_n dX10_part_65 rfl ?_
      refine r_aload_n dX10_part_66 rfl ?_
      refine r_getRv dX10_part_67 fl_X10_28 rfl (k_1 hS) (f_1_2 hS) (by decide) ?_
      refine r_iload_n dX10_part_70 rfl ?_
      refine s_callVv (z := mX3_strokesIn) [vI v1] dX10_part_71 mv_X3_strokesIn lk_X10_208 rfl (by decide) (k_7 hS) (Nat.le_of_ble_eq_true rfl) (WPs.mono k (fun r71 s71 k => ?_))
      refine s_callVv (z := mX10_told) [vI r71] dX10_part_74 mv_X10_told lk_X10_132 rfl (by decide) (k_1 hS) (Nat.le_of_ble_eq_true rfl) (WPs.mono k (fun r74 s74 k => ?_))
      exact s_iret dX10_part_77 rfl k
    · have k := k.2.2.2.1 h
      refine r_aload_n dX10_part_78 rfl ?_
      refine r_aload_n dX10_part_79 rfl ?_
      refine r_getRv dX10_part_80 fl_X10_28 rfl (k_1 hS) (f_1_2 hS) (by decide) ?_
      refine r_getRv dX10_part_83 fl_X10_211 rfl (k_7 hS) (f_7_6 hS) (by decide) ?_
      refine r_iload_n dX10_part_86 rfl ?_
      obtain ⟨⟨h0, h1⟩, k⟩ := k
      refine r_iald dX10_part_87 (Or.inl (k_19 hS)) h0 h1 ?_
      refine s_callVv (z := mX10_told) [vI (s2 19 v1.toNat)] dX10_part_88 mv_X10_told lk_X10_132 rfl (by decide) (k_1 hS) (Nat.le_of_ble_eq_true rfl) (WPs.mono k (fun r88 s88 k => ?_))
      exact s_iret dX10_part_91 rfl k
    · have k := k.2.2.2.2.1 h
      refine r_aload_n dX10_part_92 rfl ?_
      refine r_aload_n dX10_part_93 rfl ?_
      refine r_getRv dX10_part_94 fl_X10_28 rfl (k_1 hS) (f_1_2 hS) (by decide) ?_
      refine r_iload_n dX10_part_97 rfl ?_
      refine s_callVv (z := mX3_trailsIn) [vI v1] dX10_part_98 mv_X3_trailsIn lk_X10_214 rfl (by decide) (k_7 hS) (Nat.le_of_ble_eq_true rfl) (WPs.mono k (fun r98 s98 k => ?_))
      refine s_callVv (z := mX10_told) [vI r98] dX10_part_101 mv_X10_told lk_X10_132 rfl (by decide) (k_1 hS) (Nat.le_of_ble_eq_true rfl) (WPs.mono k (fun r101 s101 k => ?_))
      exact s_iret dX10_part_104 rfl k
    · have k := k.2.2.2.2.2.1 h
      refine r_aload_n dX10_part_105 rfl ?_
      refine r_aload_n dX10_part_106 rfl ?_
      refine r_getRv dX10_part_107 fl_X10_28 rfl (k_1 hS) (f_1_2 hS) (by decide) ?_
      refine r_iload_n dX10_part_110 rfl ?_
      refine s_callVv (z := mX3_firstMeeting) [vI v1] dX10_part_111 mv_X3_firstMeeting lk_X10_217 rfl (by decide) (k_7 hS) (Nat.le_of_ble_eq_true rfl) (WPs.mono k (fun r111 s111 k => ?_))
      refine s_callVv (z := mX10_told) [vI r111] dX10_part_114 mv_X10_told lk_X10_132 rfl (by decide) (k_1 hS) (Nat.le_of_ble_eq_true rfl) (WPs.mono k (fun r114 s114 k => ?_))
      exact s_iret dX10_part_117 rfl k
    · have k := k.2.2.2.2.2.2 h
      refine r_aload_n dX10_part_118 rfl ?_
      refine r_aload_n dX10_part_119 rfl ?_
      refine r_getRv dX10_part_120 fl_X10_37 rfl (k_1 hS) (f_1_3 hS) (by decide) ?_
      refine r_iload_n dX10_part_123 rfl ?_
      refine s_callVv (z := mX4_gapsIn) [vI v1] dX10_part_124 mv_X4_gapsIn lk_X10_220 rfl (by decide) (k_20 hS) (Nat.le_of_ble_eq_true rfl) (WPs.mono k (fun r124 s124 k => ?_))
      refine s_callVv (z := mX10_told) [vI r124] dX10_part_127 mv_X10_told lk_X10_132 rfl (by decide) (k_1 hS) (Nat.le_of_ble_eq_true rfl) (WPs.mono k (fun r127 s127 k => ?_))
      exact s_iret dX10_part_130 rfl k
  · have k := k.2 h
    refine r_aload_n dX10_part_8 rfl ?_
    refine r_iconst dX10_part_9 ⟨by decide, by decide⟩ ?_
    refine s_callVv (z := mX10_refused) [vI 1] dX10_part_10 mv_X10_refused lk_X10_112 rfl (by decide) (k_1 hS) (Nat.le_of_ble_eq_true rfl) (WPs.mono k (fun r10 s10 k => ?_))
    exact s_iret dX10_part_13 rfl k
theorem e_X10_pair {v1 v2 : Int} {S : ShT} {σ : StT} {Q : Int → StT → Prop} (hS : SHP S) (k : (σ 1 12 = 0 → WPs mX10_refused [vR 1, vI 1] S σ (fun r24 s24 => Q r24 s24)) ∧ (¬ (σ 1 12 = 0) → (v1 < 0 → WPs mX10_refused [vR 1, vI 1] S σ (fun r24 s24 => Q r24 s24)) ∧ (¬ (v1 < 0) → (v1 < σ 20 6 → (v2 < 0 ∨ 3 < v2 → WPs mX10_refused [vR 1, vI 1] S σ (fun r126 s126 => Q r126 s126)) ∧ (v2 = 0 → (0 ≤ v1 ∧ v1 < 24) ∧ WPs mX10_told [vR 1, vI (σ 21 v1.toNat)] S σ (fun r70 s70 => Q r70 s70)) ∧ (v2 = 1 → (0 ≤ v1 ∧ v1 < 24) ∧ WPs mX10_told [vR 1, vI (σ 22 v1.toNat)] S σ (fun r84 s84 => Q r84 s84)) ∧ (v2 = 2 → (0 ≤ v1 ∧ v1 < 24) ∧ WPs mX10_told [vR 1, vI (σ 23 v1.toNat)] S σ (fun r98 s98 => Q r98 s98)) ∧ (v2 = 3 → (0 ≤ v1 ∧ v1 < 24) ∧ ((σ 24 v1.toNat = 0 → WPs mX10_told [vR 1, vI 0] S σ (fun r120 s120 => Q r120 s120)) ∧ (¬ (σ 24 v1.toNat = 0) → WPs mX10_told [vR 1, vI 1] S σ (fun r120 s120 => Q r120 s120))))) ∧ (¬ (v1 < σ 20 6) → WPs mX10_refused [vR 1, vI 1] S σ (fun r24 s24 => Q r24 s24))))) : WPs mX10_pair [vR 1, vI v1, vI v2] S σ Q := by
  refine s_entry (by decide) (Nat.le_of_ble_eq_true rfl) rfl rfl ?_
  refine r_aload_n dX10_pair_0 rfl ?_
  refine r_getIv dX10_pair_1 fl_X10_93 rfl (k_1 hS) ?_
  refine r_if_eq (tgt := 22) dX10_pair_4 rfl (fun h => ?_) (fun h => ?_)
  · have k := k.1 h
    refine r_aload_n dX10_pair_22 rfl ?_
    refine r_iconst dX10_pair_23 ⟨by decide, by decide⟩ ?_
    refine s_callVv (z := mX10_refused) [vI 1] dX10_pair_24 mv_X10_refused lk_X10_112 rfl (by decide) (k_1 hS) (Nat.le_of_ble_eq_true rfl) (WPs.mono k (fun r24 s24 k => ?_))
    exact s_iret dX10_pair_27 rfl k
  · have k := k.2 h
    refine r_iload_n dX10_pair_7 rfl ?_
    refine r_if_lt (tgt := 22) dX10_pair_8 rfl (fun h => ?_) (fun h => ?_)
    · have k := k.1 h
      refine r_aload_n dX10_pair_22 rfl ?_
      refine r_iconst dX10_pair_23 ⟨by decide, by decide⟩ ?_
      refine s_callVv (z := mX10_refused) [vI 1] dX10_pair_24 mv_X10_refused lk_X10_112 rfl (by decide) (k_1 hS) (Nat.le_of_ble_eq_true rfl) (WPs.mono k (fun r24 s24 k => ?_))
      exact s_iret dX10_pair_27 rfl k
    · have k := k.2 h
      refine r_iload_n dX10_pair_11 rfl ?_
      refine r_aload_n dX10_pair_12 rfl ?_
      refine r_getRv dX10_pair_13 fl_X10_37 rfl (k_1 hS) (f_1_3 hS) (by decide) ?_
      refine r_getIv dX10_pair_16 fl_X10_223 rfl (k_20 hS) ?_
      refine r_icmp_lt (tgt := 28) dX10_pair_19 rfl (fun h => ?_) (fun h => ?_)
      · have k := k.1 h
        refine r_iload_n dX10_pair_28 rfl ?_
        refine r_tsw (dt := 124) [60, 74, 88, 102] dX10_pair_29 rfl (by decide +kernel) rfl (fun h => ?_) ⟨fun h => ?_, fun h => ?_, fun h => ?_, fun h => ?_, trivial⟩
        · have k := k.1 h
          refine r_aload_n dX10_pair_124 rfl ?_
          refine r_iconst dX10_pair_125 ⟨by decide, by decide⟩ ?_
          refine s_callVv (z := mX10_refused) [vI 1] dX10_pair_126 mv_X10_refused lk_X10_112 rfl (by decide) (k_1 hS) (Nat.le_of_ble_eq_true rfl) (WPs.mono k (fun r126 s126 k => ?_))
          exact s_iret dX10_pair_129 rfl k
        · have k := k.2.1 h
          refine r_aload_n dX10_pair_60 rfl ?_
          refine r_aload_n dX10_pair_61 rfl ?_
          refine r_getRv dX10_pair_62 fl_X10_37 rfl (k_1 hS) (f_1_3 hS) (by decide) ?_
          refine r_getRv dX10_pair_65 fl_X10_224 rfl (k_20 hS) (f_20_1 hS) (by decide) ?_
          refine r_iload_n dX10_pair_68 rfl ?_
          obtain ⟨⟨h0, h1⟩, k⟩ := k
          refine r_iald dX10_pair_69 (Or.inl (k_21 hS)) h0 h1 ?_
          refine s_callVv (z := mX10_told) [vI (σ 21 v1.toNat)] dX10_pair_70 mv_X10_told lk_X10_132 rfl (by decide) (k_1 hS) (Nat.le_of_ble_eq_true rfl) (WPs.mono k (fun r70 s70 k => ?_))
          exact s_iret dX10_pair_73 rfl k
        · have k := k.2.2.1 h
          refine r_aload_n dX10_pair_74 rfl ?_
          refine r_aload_n dX10_pair_75 rfl ?_
          refine r_getRv dX10_pair_76 fl_X10_37 rfl (k_1 hS) (f_1_3 hS) (by decide) ?_
          refine r_getRv dX10_pair_79 fl_X10_227 rfl (k_20 hS) (f_20_2 hS) (by decide) ?_
          refine r_iload_n dX10_pair_82 rfl ?_
          obtain ⟨⟨h0, h1⟩, k⟩ := k
          refine r_iald dX10_pair_83 (Or.inl (k_22 hS)) h0 h1 ?_
          refine s_callVv (z := mX10_told) [vI (σ 22 v1.toNat)] dX10_pair_84 mv_X10_told lk_X10_132 rfl (by decide) (k_1 hS) (Nat.le_of_ble_eq_true rfl) (WPs.mono k (fun r84 s84 k => ?_))
          exact s_iret dX10_pair_87 rfl k
        · have k := k.2.2.2.1 h
          refine r_aload_n dX10_pair_88 rfl ?_
          refine r_aload_n dX10_pair_89 rfl ?_
          refine r_getRv dX10_pair_90 fl_X10_37 rfl (k_1 hS) (f_1_3 hS) (by decide) ?_
          refine r_getRv dX10_pair_93 fl_X10_230 rfl (k_20 hS) (f_20_3 hS) (by decide) ?_
          refine r_iload_n dX10_pair_96 rfl ?_
          obtain ⟨⟨h0, h1⟩, k⟩ := k
          refine r_iald dX10_pair_97 (Or.inl (k_23 hS)) h0 h1 ?_
          refine s_callVv (z := mX10_told) [vI (σ 23 v1.toNat)] dX10_pair_98 mv_X10_told lk_X10_132 rfl (by decide) (k_1 hS) (Nat.le_of_ble_eq_true rfl) (WPs.mono k (fun r98 s98 k => ?_))
          exact s_iret dX10_pair_101 rfl k
        · have k := k.2.2.2.2 h
          refine r_aload_n dX10_pair_102 rfl ?_
          refine r_aload_n dX10_pair_103 rfl ?_
          refine r_getRv dX10_pair_104 fl_X10_37 rfl (k_1 hS) (f_1_3 hS) (by decide) ?_
          refine r_getRv dX10_pair_107 fl_X10_233 rfl (k_20 hS) (f_20_4 hS) (by decide) ?_
          refine r_iload_n dX10_pair_110 rfl ?_
          obtain ⟨⟨h0, h1⟩, k⟩ := k
          refine r_zald dX10_pair_111 (k_24 hS) h0 h1 ?_
          refine r_if_eq (tgt := 119) dX10_pair_112 rfl (fun h => ?_) (fun h => ?_)
          · have k := k.1 h
            refine r_iconst dX10_pair_119 ⟨by decide, by decide⟩ ?_
            refine s_callVv (z := mX10_told) [vI 0] dX10_pair_120 mv_X10_told lk_X10_132 rfl (by decide) (k_1 hS) (Nat.le_of_ble_eq_true rfl) (WPs.mono k (fun r120 s120 k => ?_))
            exact s_iret dX10_pair_123 rfl k
          · have k := k.2 h
            refine r_iconst dX10_pair_115 ⟨by decide, by decide⟩ ?_
            refine r_goto (tgt := 120) dX10_pair_116 rfl ?_
            refine s_callVv (z := mX10_told) [vI 1] dX10_pair_120 mv_X10_told lk_X10_132 rfl (by decide) (k_1 hS) (Nat.le_of_ble_eq_true rfl) (WPs.mono k (fun r120 s120 k => ?_))
            exact s_iret dX10_pair_123 rfl k
      · have k := k.2 h
        refine r_aload_n dX10_pair_22 rfl ?_
        refine r_iconst dX10_pair_23 ⟨by decide, by decide⟩ ?_
        refine s_callVv (z := mX10_refused) [vI 1] dX10_pair_24 mv_X10_refused lk_X10_112 rfl (by decide) (k_1 hS) (Nat.le_of_ble_eq_true rfl) (WPs.mono k (fun r24 s24 k => ?_))
        exact s_iret dX10_pair_27 rfl k
theorem e_X10_walk {v1 v2 : Int} {S : ShT} {σ : StT} {Q : Int → StT → Prop} (hS : SHP S) (k : WPs mX10_hasPart [vR 1, vI v1] S σ (fun r2 s2 => (r2 = 0 → WPs mX10_refused [vR 1, vI 1] S s2 (fun r14 s14 => Q r14 s14)) ∧ (¬ (r2 = 0) → (0 ≤ v2 → WPs mX9_waysIn [vR 31, vI v1] S s2 (fun r24 s24 => (v2 < r24 → WPs mX9_wayOf [vR 31, vI v1, vI v2] S s24 (fun r44 s44 => WPs mX10_told [vR 1, vI r44] S s44 (fun r47 s47 => Q r47 s47))) ∧ (¬ (v2 < r24) → WPs mX10_told [vR 1, vI (-2)] S s24 (fun r33 s33 => Q r33 s33)))) ∧ (¬ (0 ≤ v2) → WPs mX10_refused [vR 1, vI 1] S s2 (fun r14 s14 => Q r14 s14))))) : WPs mX10_walk [vR 1, vI v1, vI v2] S σ Q := by
  refine s_entry (by decide) (Nat.le_of_ble_eq_true rfl) rfl rfl ?_
  refine r_aload_n dX10_walk_0 rfl ?_
  refine r_iload_n dX10_walk_1 rfl ?_
  refine s_callVv (z := mX10_hasPart) [vI v1] dX10_walk_2 mv_X10_hasPart lk_X10_202 rfl (by decide) (k_1 hS) (Nat.le_of_ble_eq_true rfl) (WPs.mono k (fun r2 s2 k => ?_))
  refine r_if_eq (tgt := 12) dX10_walk_5 rfl (fun h => ?_) (fun h => ?_)
  · have k := k.1 h
    refine r_aload_n dX10_walk_12 rfl ?_
    refine r_iconst dX10_walk_13 ⟨by decide, by decide⟩ ?_
    refine s_callVv (z := mX10_refused) [vI 1] dX10_walk_14 mv_X10_refused lk_X10_112 rfl (by decide) (k_1 hS) (Nat.le_of_ble_eq_true rfl) (WPs.mono k (fun r14 s14 k => ?_))
    exact s_iret dX10_walk_17 rfl k
  · have k := k.2 h
    refine r_iload_n dX10_walk_8 rfl ?_
    refine r_if_ge (tgt := 18) dX10_walk_9 rfl (fun h => ?_) (fun h => ?_)
    · have k := k.1 h
      refine r_iload_n dX10_walk_18 rfl ?_
      refine r_aload_n dX10_walk_19 rfl ?_
      refine r_getRv dX10_walk_20 fl_X10_46 rfl (k_1 hS) (f_1_4 hS) (by decide) ?_
      refine r_iload_n dX10_walk_23 rfl ?_
      refine s_callVv (z := mX9_waysIn) [vI v1] dX10_walk_24 mv_X9_waysIn lk_X10_237 rfl (by decide) (k_31 hS) (Nat.le_of_ble_eq_true rfl) (WPs.mono k (fun r24 s24 k => ?_))
      refine r_icmp_lt (tgt := 37) dX10_walk_27 rfl (fun h => ?_) (fun h => ?_)
      · have k := k.1 h
        refine r_aload_n dX10_walk_37 rfl ?_
        refine r_aload_n dX10_walk_38 rfl ?_
        refine r_getRv dX10_walk_39 fl_X10_46 rfl (k_1 hS) (f_1_4 hS) (by decide) ?_
        refine r_iload_n dX10_walk_42 rfl ?_
        refine r_iload_n dX10_walk_43 rfl ?_
        refine s_callVv (z := mX9_wayOf) [vI v1, vI v2] dX10_walk_44 mv_X9_wayOf lk_X10_240 rfl (by decide) (k_31 hS) (Nat.le_of_ble_eq_true rfl) (WPs.mono k (fun r44 s44 k => ?_))
        refine s_callVv (z := mX10_told) [vI r44] dX10_walk_47 mv_X10_told lk_X10_132 rfl (by decide) (k_1 hS) (Nat.le_of_ble_eq_true rfl) (WPs.mono k (fun r47 s47 k => ?_))
        exact s_iret dX10_walk_50 rfl k
      · have k := k.2 h
        refine r_aload_n dX10_walk_30 rfl ?_
        refine r_bipush dX10_walk_31 (by decide +kernel) ⟨by decide, by decide⟩ ?_
        refine s_callVv (z := mX10_told) [vI (-2)] dX10_walk_33 mv_X10_told lk_X10_132 rfl (by decide) (k_1 hS) (Nat.le_of_ble_eq_true rfl) (WPs.mono k (fun r33 s33 k => ?_))
        exact s_iret dX10_walk_36 rfl k
    · have k := k.2 h
      refine r_aload_n dX10_walk_12 rfl ?_
      refine r_iconst dX10_walk_13 ⟨by decide, by decide⟩ ?_
      refine s_callVv (z := mX10_refused) [vI 1] dX10_walk_14 mv_X10_refused lk_X10_112 rfl (by decide) (k_1 hS) (Nat.le_of_ble_eq_true rfl) (WPs.mono k (fun r14 s14 k => ?_))
      exact s_iret dX10_walk_17 rfl k
theorem e_X10_trail {v1 v2 : Int} {S : ShT} {σ : StT} {Q : Int → StT → Prop} (hS : SHP S) (k : WPs mX10_hasPlace [vR 1, vI v1] S σ (fun r2 s2 => (¬ r2 = 0 → WPs mX5_trailAt [vR 51, vI v1] S s2 (fun r19 s19 => (v2 < 0 ∨ 6 < v2 → WPs mX10_refused [vR 1, vI 1] S s19 (fun r165 s165 => Q r165 s165)) ∧ (v2 = 0 → (0 ≤ r19 ∧ r19 < 24) ∧ WPs mX10_told [vR 1, vI (s19 41 r19.toNat)] S s19 (fun r78 s78 => Q r78 s78)) ∧ (v2 = 1 → (0 ≤ r19 ∧ r19 < 24) ∧ WPs mX10_told [vR 1, vI (s19 42 r19.toNat)] S s19 (fun r92 s92 => Q r92 s92)) ∧ (v2 = 2 → WPs mX5_beginOf [vR 51, vI v1] S s19 (fun r102 s102 => WPs mX10_told [vR 1, vI r102] S s102 (fun r105 s105 => Q r105 s105))) ∧ (v2 = 3 → WPs mX5_endOf [vR 51, vI v1] S s19 (fun r115 s115 => WPs mX10_told [vR 1, vI r115] S s115 (fun r118 s118 => Q r118 s118))) ∧ (v2 = 4 → (0 ≤ r19 ∧ r19 < 24) ∧ WPs mX10_told [vR 1, vI (s19 45 r19.toNat)] S s19 (fun r132 s132 => Q r132 s132)) ∧ (v2 = 5 → WPs mX5_isBackwards [vR 51, vI v1] S s19 (fun r142 s142 => (r142 = 0 → WPs mX10_told [vR 1, vI 0] S s142 (fun r153 s153 => Q r153 s153)) ∧ (¬ (r142 = 0) → WPs mX10_told [vR 1, vI 1] S s142 (fun r153 s153 => Q r153 s153)))) ∧ (v2 = 6 → WPs mX10_told [vR 1, vI r19] S s19 (fun r159 s159 => Q r159 s159)))) ∧ (r2 = 0 → WPs mX10_refused [vR 1, vI 1] S s2 (fun r10 s10 => Q r10 s10)))) : WPs mX10_trail [vR 1, vI v1, vI v2] S σ Q := by
  refine s_entry (by decide) (Nat.le_of_ble_eq_true rfl) rfl rfl ?_
  refine r_aload_n dX10_trail_0 rfl ?_
  refine r_iload_n dX10_trail_1 rfl ?_
  refine s_callVv (z := mX10_hasPlace) [vI v1] dX10_trail_2 mv_X10_hasPlace lk_X10_244 rfl (by decide) (k_1 hS) (Nat.le_of_ble_eq_true rfl) (WPs.mono k (fun r2 s2 k => ?_))
  refine r_if_ne (tgt := 14) dX10_trail_5 rfl (fun h => ?_) (fun h => ?_)
  · have k := k.1 h
    refine r_aload_n dX10_trail_14 rfl ?_
    refine r_getRv dX10_trail_15 fl_X10_64 rfl (k_1 hS) (f_1_6 hS) (by decide) ?_
    refine r_iload_n dX10_trail_18 rfl ?_
    refine s_callVv (z := mX5_trailAt) [vI v1] dX10_trail_19 mv_X5_trailAt lk_X10_247 rfl (by decide) (k_51 hS) (Nat.le_of_ble_eq_true rfl) (WPs.mono k (fun r19 s19 k => ?_))
    refine r_istore_n dX10_trail_22 (by decide) rfl rfl ?_
    refine r_iload_n dX10_trail_23 rfl ?_
    refine r_tsw (dt := 163) [68, 82, 96, 109, 122, 136, 157] dX10_trail_24 rfl (by decide +kernel) rfl (fun h => ?_) ⟨fun h => ?_, fun h => ?_, fun h => ?_, fun h => ?_, fun h => ?_, fun h => ?_, fun h => ?_, trivial⟩
    · have k := k.1 h
      refine r_aload_n dX10_trail_163 rfl ?_
      refine r_iconst dX10_trail_164 ⟨by decide, by decide⟩ ?_
      refine s_callVv (z := mX10_refused) [vI 1] dX10_trail_165 mv_X10_refused lk_X10_112 rfl (by decide) (k_1 hS) (Nat.le_of_ble_eq_true rfl) (WPs.mono k (fun r165 s165 k => ?_))
      exact s_iret dX10_trail_168 rfl k
    · have k := k.2.1 h
      refine r_aload_n dX10_trail_68 rfl ?_
      refine r_aload_n dX10_trail_69 rfl ?_
      refine r_getRv dX10_trail_70 fl_X10_55 rfl (k_1 hS) (f_1_5 hS) (by decide) ?_
      refine r_getRv dX10_trail_73 fl_X10_250 rfl (k_40 hS) (f_40_3 hS) (by decide) ?_
      refine r_iload_n dX10_trail_76 rfl ?_
      obtain ⟨⟨h0, h1⟩, k⟩ := k
      refine r_iald dX10_trail_77 (Or.inl (k_41 hS)) h0 h1 ?_
      refine s_callVv (z := mX10_told) [vI (s19 41 r19.toNat)] dX10_trail_78 mv_X10_told lk_X10_132 rfl (by decide) (k_1 hS) (Nat.le_of_ble_eq_true rfl) (WPs.mono k (fun r78 s78 k => ?_))
      exact s_iret dX10_trail_81 rfl k
    · have k := k.2.2.1 h
      refine r_aload_n dX10_trail_82 rfl ?_
      refine r_aload_n dX10_trail_83 rfl ?_
      refine r_getRv dX10_trail_84 fl_X10_55 rfl (k_1 hS) (f_1_5 hS) (by decide) ?_
      refine r_getRv dX10_trail_87 fl_X10_253 rfl (k_40 hS) (f_40_4 hS) (by decide) ?_
      refine r_iload_n dX10_trail_90 rfl ?_
      obtain ⟨⟨h0, h1⟩, k⟩ := k
      refine r_iald dX10_trail_91 (Or.inl (k_42 hS)) h0 h1 ?_
      refine s_callVv (z := mX10_told) [vI (s19 42 r19.toNat)] dX10_trail_92 mv_X10_told lk_X10_132 rfl (by decide) (k_1 hS) (Nat.le_of_ble_eq_true rfl) (WPs.mono k (fun r92 s92 k => ?_))
      exact s_iret dX10_trail_95 rfl k
    · have k := k.2.2.2.1 h
      refine r_aload_n dX10_trail_96 rfl ?_
      refine r_aload_n dX10_trail_97 rfl ?_
      refine r_getRv dX10_trail_98 fl_X10_64 rfl (k_1 hS) (f_1_6 hS) (by decide) ?_
      refine r_iload_n dX10_trail_101 rfl ?_
      refine s_callVv (z := mX5_beginOf) [vI v1] dX10_trail_102 mv_X5_beginOf lk_X10_255 rfl (by decide) (k_51 hS) (Nat.le_of_ble_eq_true rfl) (WPs.mono k (fun r102 s102 k => ?_))
      refine s_callVv (z := mX10_told) [vI r102] dX10_trail_105 mv_X10_told lk_X10_132 rfl (by decide) (k_1 hS) (Nat.le_of_ble_eq_true rfl) (WPs.mono k (fun r105 s105 k => ?_))
      exact s_iret dX10_trail_108 rfl k
    · have k := k.2.2.2.2.1 h
      refine r_aload_n dX10_trail_109 rfl ?_
      refine r_aload_n dX10_trail_110 rfl ?_
      refine r_getRv dX10_trail_111 fl_X10_64 rfl (k_1 hS) (f_1_6 hS) (by decide) ?_
      refine r_iload_n dX10_trail_114 rfl ?_
      refine s_callVv (z := mX5_endOf) [vI v1] dX10_trail_115 mv_X5_endOf lk_X10_258 rfl (by decide) (k_51 hS) (Nat.le_of_ble_eq_true rfl) (WPs.mono k (fun r115 s115 k => ?_))
      refine s_callVv (z := mX10_told) [vI r115] dX10_trail_118 mv_X10_told lk_X10_132 rfl (by decide) (k_1 hS) (Nat.le_of_ble_eq_true rfl) (WPs.mono k (fun r118 s118 k => ?_))
      exact s_iret dX10_trail_121 rfl k
    · have k := k.2.2.2.2.2.1 h
      refine r_aload_n dX10_trail_122 rfl ?_
      refine r_aload_n dX10_trail_123 rfl ?_
      refine r_getRv dX10_trail_124 fl_X10_55 rfl (k_1 hS) (f_1_5 hS) (by decide) ?_
      refine r_getRv dX10_trail_127 fl_X10_261 rfl (k_40 hS) (f_40_7 hS) (by decide) ?_
      refine r_iload_n dX10_trail_130 rfl ?_
      obtain ⟨⟨h0, h1⟩, k⟩ := k
      refine r_iald dX10_trail_131 (Or.inl (k_45 hS)) h0 h1 ?_
      refine s_callVv (z := mX10_told) [vI (s19 45 r19.toNat)] dX10_trail_132 mv_X10_told lk_X10_132 rfl (by decide) (k_1 hS) (Nat.le_of_ble_eq_true rfl) (WPs.mono k (fun r132 s132 k => ?_))
      exact s_iret dX10_trail_135 rfl k
    · have k := k.2.2.2.2.2.2.1 h
      refine r_aload_n dX10_trail_136 rfl ?_
      refine r_aload_n dX10_trail_137 rfl ?_
      refine r_getRv dX10_trail_138 fl_X10_64 rfl (k_1 hS) (f_1_6 hS) (by decide) ?_
      refine r_iload_n dX10_trail_141 rfl ?_
      refine s_callVv (z := mX5_isBackwards) [vI v1] dX10_trail_142 mv_X5_isBackwards lk_X10_263 rfl (by decide) (k_51 hS) (Nat.le_of_ble_eq_true rfl) (WPs.mono k (fun r142 s142 k => ?_))
      refine r_if_eq (tgt := 152) dX10_trail_145 rfl (fun h => ?_) (fun h => ?_)
      · have k := k.1 h
        refine r_iconst dX10_trail_152 ⟨by decide, by decide⟩ ?_
        refine s_callVv (z := mX10_told) [vI 0] dX10_trail_153 mv_X10_told lk_X10_132 rfl (by decide) (k_1 hS) (Nat.le_of_ble_eq_true rfl) (WPs.mono k (fun r153 s153 k => ?_))
        exact s_iret dX10_trail_156 rfl k
      · have k := k.2 h
        refine r_iconst dX10_trail_148 ⟨by decide, by decide⟩ ?_
        refine r_goto (tgt := 153) dX10_trail_149 rfl ?_
        refine s_callVv (z := mX10_told) [vI 1] dX10_trail_153 mv_X10_told lk_X10_132 rfl (by decide) (k_1 hS) (Nat.le_of_ble_eq_true rfl) (WPs.mono k (fun r153 s153 k => ?_))
        exact s_iret dX10_trail_156 rfl k
    · have k := k.2.2.2.2.2.2.2 h
      refine r_aload_n dX10_trail_157 rfl ?_
      refine r_iload_n dX10_trail_158 rfl ?_
      refine s_callVv (z := mX10_told) [vI r19] dX10_trail_159 mv_X10_told lk_X10_132 rfl (by decide) (k_1 hS) (Nat.le_of_ble_eq_true rfl) (WPs.mono k (fun r159 s159 k => ?_))
      exact s_iret dX10_trail_162 rfl k
  · have k := k.2 h
    refine r_aload_n dX10_trail_8 rfl ?_
    refine r_iconst dX10_trail_9 ⟨by decide, by decide⟩ ?_
    refine s_callVv (z := mX10_refused) [vI 1] dX10_trail_10 mv_X10_refused lk_X10_112 rfl (by decide) (k_1 hS) (Nat.le_of_ble_eq_true rfl) (WPs.mono k (fun r10 s10 k => ?_))
    exact s_iret dX10_trail_13 rfl k
theorem e_X10_ride {v1 v2 : Int} {S : ShT} {σ : StT} {Q : Int → StT → Prop} (hS : SHP S) (k : WPs mX10_hasPlace [vR 1, vI v1] S σ (fun r2 s2 => (r2 = 0 → WPs mX10_refused [vR 1, vI 1] S s2 (fun r34 s34 => Q r34 s34)) ∧ (¬ (r2 = 0) → (v2 < 0 → WPs mX10_refused [vR 1, vI 1] S s2 (fun r34 s34 => Q r34 s34)) ∧ (¬ (v2 < 0) → WPs mX5_trailAt [vR 51, vI v1] S s2 (fun r25 s25 => (0 ≤ r25 ∧ r25 < 24) ∧ ((v2 < s25 42 r25.toNat → WPs mX5_strokeAt [vR 51, vI v1, vI v2] S s25 (fun r45 s45 => WPs mX10_told [vR 1, vI r45] S s45 (fun r48 s48 => Q r48 s48))) ∧ (¬ (v2 < s25 42 r25.toNat) → WPs mX10_refused [vR 1, vI 1] S s25 (fun r34 s34 => Q r34 s34)))))))) : WPs mX10_ride [vR 1, vI v1, vI v2] S σ Q := by
  refine s_entry (by decide) (Nat.le_of_ble_eq_true rfl) rfl rfl ?_
  refine r_aload_n dX10_ride_0 rfl ?_
  refine r_iload_n dX10_ride_1 rfl ?_
  refine s_callVv (z := mX10_hasPlace) [vI v1] dX10_ride_2 mv_X10_hasPlace lk_X10_244 rfl (by decide) (k_1 hS) (Nat.le_of_ble_eq_true rfl) (WPs.mono k (fun r2 s2 k => ?_))
  refine r_if_eq (tgt := 32) dX10_ride_5 rfl (fun h => ?_) (fun h => ?_)
  · have k := k.1 h
    refine r_aload_n dX10_ride_32 rfl ?_
    refine r_iconst dX10_ride_33 ⟨by decide, by decide⟩ ?_
    refine s_callVv (z := mX10_refused) [vI 1] dX10_ride_34 mv_X10_refused lk_X10_112 rfl (by decide) (k_1 hS) (Nat.le_of_ble_eq_true rfl) (WPs.mono k (fun r34 s34 k => ?_))
    exact s_iret dX10_ride_37 rfl k
  · have k := k.2 h
    refine r_iload_n dX10_ride_8 rfl ?_
    refine r_if_lt (tgt := 32) dX10_ride_9 rfl (fun h => ?_) (fun h => ?_)
    · have k := k.1 h
      refine r_aload_n dX10_ride_32 rfl ?_
      refine r_iconst dX10_ride_33 ⟨by decide, by decide⟩ ?_
      refine s_callVv (z := mX10_refused) [vI 1] dX10_ride_34 mv_X10_refused lk_X10_112 rfl (by decide) (k_1 hS) (Nat.le_of_ble_eq_true rfl) (WPs.mono k (fun r34 s34 k => ?_))
      exact s_iret dX10_ride_37 rfl k
    · have k := k.2 h
      refine r_iload_n dX10_ride_12 rfl ?_
      refine r_aload_n dX10_ride_13 rfl ?_
      refine r_getRv dX10_ride_14 fl_X10_55 rfl (k_1 hS) (f_1_5 hS) (by decide) ?_
      refine r_getRv dX10_ride_17 fl_X10_253 rfl (k_40 hS) (f_40_4 hS) (by decide) ?_
      refine r_aload_n dX10_ride_20 rfl ?_
      refine r_getRv dX10_ride_21 fl_X10_64 rfl (k_1 hS) (f_1_6 hS) (by decide) ?_
      refine r_iload_n dX10_ride_24 rfl ?_
      refine s_callVv (z := mX5_trailAt) [vI v1] dX10_ride_25 mv_X5_trailAt lk_X10_247 rfl (by decide) (k_51 hS) (Nat.le_of_ble_eq_true rfl) (WPs.mono k (fun r25 s25 k => ?_))
      obtain ⟨⟨h0, h1⟩, k⟩ := k
      refine r_iald dX10_ride_28 (Or.inl (k_42 hS)) h0 h1 ?_
      refine r_icmp_lt (tgt := 38) dX10_ride_29 rfl (fun h => ?_) (fun h => ?_)
      · have k := k.1 h
        refine r_aload_n dX10_ride_38 rfl ?_
        refine r_aload_n dX10_ride_39 rfl ?_
        refine r_getRv dX10_ride_40 fl_X10_64 rfl (k_1 hS) (f_1_6 hS) (by decide) ?_
        refine r_iload_n dX10_ride_43 rfl ?_
        refine r_iload_n dX10_ride_44 rfl ?_
        refine s_callVv (z := mX5_strokeAt) [vI v1, vI v2] dX10_ride_45 mv_X5_strokeAt lk_X10_266 rfl (by decide) (k_51 hS) (Nat.le_of_ble_eq_true rfl) (WPs.mono k (fun r45 s45 k => ?_))
        refine s_callVv (z := mX10_told) [vI r45] dX10_ride_48 mv_X10_told lk_X10_132 rfl (by decide) (k_1 hS) (Nat.le_of_ble_eq_true rfl) (WPs.mono k (fun r48 s48 k => ?_))
        exact s_iret dX10_ride_51 rfl k
      · have k := k.2 h
        refine r_aload_n dX10_ride_32 rfl ?_
        refine r_iconst dX10_ride_33 ⟨by decide, by decide⟩ ?_
        refine s_callVv (z := mX10_refused) [vI 1] dX10_ride_34 mv_X10_refused lk_X10_112 rfl (by decide) (k_1 hS) (Nat.le_of_ble_eq_true rfl) (WPs.mono k (fun r34 s34 k => ?_))
        exact s_iret dX10_ride_37 rfl k
theorem e_X10_travel {S : ShT} {σ : StT} {Q : Int → StT → Prop} (hS : SHP S) (k : (σ 1 12 = 0 → WPs mX10_refused [vR 1, vI 1] S σ (fun r23 s23 => Q r23 s23)) ∧ (¬ (σ 1 12 = 0) → WPs mX5_wholeTravel [vR 51] S σ (fun r12 s12 => WPs mX10_told [vR 1, vI r12] S s12 (fun r15 s15 => Q r15 s15)))) : WPs mX10_travel [vR 1] S σ Q := by
  refine s_entry (by decide) (Nat.le_of_ble_eq_true rfl) rfl rfl ?_
  refine r_aload_n dX10_travel_0 rfl ?_
  refine r_getIv dX10_travel_1 fl_X10_93 rfl (k_1 hS) ?_
  refine r_if_eq (tgt := 21) dX10_travel_4 rfl (fun h => ?_) (fun h => ?_)
  · have k := k.1 h
    refine r_aload_n dX10_travel_21 rfl ?_
    refine r_iconst dX10_travel_22 ⟨by decide, by decide⟩ ?_
    refine s_callVv (z := mX10_refused) [vI 1] dX10_travel_23 mv_X10_refused lk_X10_112 rfl (by decide) (k_1 hS) (Nat.le_of_ble_eq_true rfl) (WPs.mono k (fun r23 s23 k => ?_))
    exact s_iret dX10_travel_26 rfl k
  · have k := k.2 h
    refine r_aload_n dX10_travel_7 rfl ?_
    refine r_aload_n dX10_travel_8 rfl ?_
    refine r_getRv dX10_travel_9 fl_X10_64 rfl (k_1 hS) (f_1_6 hS) (by decide) ?_
    refine s_callVv (z := mX5_wholeTravel) [] dX10_travel_12 mv_X5_wholeTravel lk_X10_269 rfl (by decide) (k_51 hS) (Nat.le_of_ble_eq_true rfl) (WPs.mono k (fun r12 s12 k => ?_))
    refine s_callVv (z := mX10_told) [vI r12] dX10_travel_15 mv_X10_told lk_X10_132 rfl (by decide) (k_1 hS) (Nat.le_of_ble_eq_true rfl) (WPs.mono k (fun r15 s15 k => ?_))
    refine r_goto (tgt := 26) dX10_travel_18 rfl ?_
    exact s_iret dX10_travel_26 rfl k
theorem e_X10_started {S : ShT} {σ : StT} {Q : Int → StT → Prop} (hS : SHP S) (k : (¬ σ 1 12 = 0 → WPs mX5_start [vR 122] S σ (fun r17 s17 => WPs mX5_wholeTravel [vR 122] S s17 (fun r25 s25 => WPs mX10_told [vR 1, vI r25] S s25 (fun r28 s28 => Q r28 s28)))) ∧ (σ 1 12 = 0 → WPs mX10_refused [vR 1, vI 1] S σ (fun r9 s9 => Q r9 s9))) : WPs mX10_started [vR 1] S σ Q := by
  refine s_entry (by decide) (Nat.le_of_ble_eq_true rfl) rfl rfl ?_
  refine r_aload_n dX10_started_0 rfl ?_
  refine r_getIv dX10_started_1 fl_X10_93 rfl (k_1 hS) ?_
  refine r_if_ne (tgt := 13) dX10_started_4 rfl (fun h => ?_) (fun h => ?_)
  · have k := k.1 h
    refine r_aload_n dX10_started_13 rfl ?_
    refine r_getRv dX10_started_14 fl_X10_81 rfl (k_1 hS) (f_1_10 hS) (by decide) ?_
    refine s_callVv (z := mX5_start) [] dX10_started_17 mv_X5_start lk_X10_272 rfl (by decide) (k_122 hS) (Nat.le_of_ble_eq_true rfl) (WPs.mono k (fun r17 s17 k => ?_))
    refine r_aload_n dX10_started_20 rfl ?_
    refine r_aload_n dX10_started_21 rfl ?_
    refine r_getRv dX10_started_22 fl_X10_81 rfl (k_1 hS) (f_1_10 hS) (by decide) ?_
    refine s_callVv (z := mX5_wholeTravel) [] dX10_started_25 mv_X5_wholeTravel lk_X10_269 rfl (by decide) (k_122 hS) (Nat.le_of_ble_eq_true rfl) (WPs.mono k (fun r25 s25 k => ?_))
    refine s_callVv (z := mX10_told) [vI r25] dX10_started_28 mv_X10_told lk_X10_132 rfl (by decide) (k_1 hS) (Nat.le_of_ble_eq_true rfl) (WPs.mono k (fun r28 s28 k => ?_))
    exact s_iret dX10_started_31 rfl k
  · have k := k.2 h
    refine r_aload_n dX10_started_7 rfl ?_
    refine r_iconst dX10_started_8 ⟨by decide, by decide⟩ ?_
    refine s_callVv (z := mX10_refused) [vI 1] dX10_started_9 mv_X10_refused lk_X10_112 rfl (by decide) (k_1 hS) (Nat.le_of_ble_eq_true rfl) (WPs.mono k (fun r9 s9 k => ?_))
    exact s_iret dX10_started_12 rfl k
theorem e_X10_better {v1 : Int} {S : ShT} {σ : StT} {Q : Int → StT → Prop} (hS : SHP S) (k : (σ 1 12 = 0 → WPs mX10_refused [vR 1, vI 1] S σ (fun r18 s18 => Q r18 s18)) ∧ (¬ (σ 1 12 = 0) → (v1 < 0 → WPs mX10_refused [vR 1, vI 1] S σ (fun r18 s18 => Q r18 s18)) ∧ (¬ (v1 < 0) → (v1 ≤ 1 → WPs mX5_copy [vR 122, vR 51] S σ (fun r30 s30 => WPs mX5_makeBetter [vR 122] S s30 (fun r37 s37 => (¬ v1 = 0 → WPs mX10_told [vR 1, vI r37] S s37 (fun r57 s57 => Q r57 s57)) ∧ (v1 = 0 → WPs mX5_wholeTravel [vR 122] S s37 (fun r50 s50 => WPs mX10_told [vR 1, vI r50] S s50 (fun r57 s57 => Q r57 s57)))))) ∧ (¬ (v1 ≤ 1) → WPs mX10_refused [vR 1, vI 1] S σ (fun r18 s18 => Q r18 s18))))) : WPs mX10_better [vR 1, vI v1] S σ Q := by
  refine s_entry (by decide) (Nat.le_of_ble_eq_true rfl) rfl rfl ?_
  refine r_aload_n dX10_better_0 rfl ?_
  refine r_getIv dX10_better_1 fl_X10_93 rfl (k_1 hS) ?_
  refine r_if_eq (tgt := 16) dX10_better_4 rfl (fun h => ?_) (fun h => ?_)
  · have k := k.1 h
    refine r_aload_n dX10_better_16 rfl ?_
    refine r_iconst dX10_better_17 ⟨by decide, by decide⟩ ?_
    refine s_callVv (z := mX10_refused) [vI 1] dX10_better_18 mv_X10_refused lk_X10_112 rfl (by decide) (k_1 hS) (Nat.le_of_ble_eq_true rfl) (WPs.mono k (fun r18 s18 k => ?_))
    exact s_iret dX10_better_21 rfl k
  · have k := k.2 h
    refine r_iload_n dX10_better_7 rfl ?_
    refine r_if_lt (tgt := 16) dX10_better_8 rfl (fun h => ?_) (fun h => ?_)
    · have k := k.1 h
      refine r_aload_n dX10_better_16 rfl ?_
      refine r_iconst dX10_better_17 ⟨by decide, by decide⟩ ?_
      refine s_callVv (z := mX10_refused) [vI 1] dX10_better_18 mv_X10_refused lk_X10_112 rfl (by decide) (k_1 hS) (Nat.le_of_ble_eq_true rfl) (WPs.mono k (fun r18 s18 k => ?_))
      exact s_iret dX10_better_21 rfl k
    · have k := k.2 h
      refine r_iload_n dX10_better_11 rfl ?_
      refine r_iconst dX10_better_12 ⟨by decide, by decide⟩ ?_
      refine r_icmp_le (tgt := 22) dX10_better_13 rfl (fun h => ?_) (fun h => ?_)
      · have k := k.1 h
        refine r_aload_n dX10_better_22 rfl ?_
        refine r_getRv dX10_better_23 fl_X10_81 rfl (k_1 hS) (f_1_10 hS) (by decide) ?_
        refine r_aload_n dX10_better_26 rfl ?_
        refine r_getRv dX10_better_27 fl_X10_64 rfl (k_1 hS) (f_1_6 hS) (by decide) ?_
        refine s_callVv (z := mX5_copy) [vR 51] dX10_better_30 mv_X5_copy lk_X10_275 rfl (by decide) (k_122 hS) (Nat.le_of_ble_eq_true rfl) (WPs.mono k (fun r30 s30 k => ?_))
        refine r_aload_n dX10_better_33 rfl ?_
        refine r_getRv dX10_better_34 fl_X10_81 rfl (k_1 hS) (f_1_10 hS) (by decide) ?_
        refine s_callVv (z := mX5_makeBetter) [] dX10_better_37 mv_X5_makeBetter lk_X10_278 rfl (by decide) (k_122 hS) (Nat.le_of_ble_eq_true rfl) (WPs.mono k (fun r37 s37 k => ?_))
        refine r_istore_n dX10_better_40 (by decide) rfl rfl ?_
        refine r_aload_n dX10_better_41 rfl ?_
        refine r_iload_n dX10_better_42 rfl ?_
        refine r_if_ne (tgt := 56) dX10_better_43 rfl (fun h => ?_) (fun h => ?_)
        · have k := k.1 h
          refine r_iload_n dX10_better_56 rfl ?_
          refine s_callVv (z := mX10_told) [vI r37] dX10_better_57 mv_X10_told lk_X10_132 rfl (by decide) (k_1 hS) (Nat.le_of_ble_eq_true rfl) (WPs.mono k (fun r57 s57 k => ?_))
          exact s_iret dX10_better_60 rfl k
        · have k := k.2 h
          refine r_aload_n dX10_better_46 rfl ?_
          refine r_getRv dX10_better_47 fl_X10_81 rfl (k_1 hS) (f_1_10 hS) (by decide) ?_
          refine s_callVv (z := mX5_wholeTravel) [] dX10_better_50 mv_X5_wholeTravel lk_X10_269 rfl (by decide) (k_122 hS) (Nat.le_of_ble_eq_true rfl) (WPs.mono k (fun r50 s50 k => ?_))
          refine r_goto (tgt := 57) dX10_better_53 rfl ?_
          refine s_callVv (z := mX10_told) [vI r50] dX10_better_57 mv_X10_told lk_X10_132 rfl (by decide) (k_1 hS) (Nat.le_of_ble_eq_true rfl) (WPs.mono k (fun r57 s57 k => ?_))
          exact s_iret dX10_better_60 rfl k
      · have k := k.2 h
        refine r_aload_n dX10_better_16 rfl ?_
        refine r_iconst dX10_better_17 ⟨by decide, by decide⟩ ?_
        refine s_callVv (z := mX10_refused) [vI 1] dX10_better_18 mv_X10_refused lk_X10_112 rfl (by decide) (k_1 hS) (Nat.le_of_ble_eq_true rfl) (WPs.mono k (fun r18 s18 k => ?_))
        exact s_iret dX10_better_21 rfl k
theorem e_X10_exchanged {v1 v2 : Int} {S : ShT} {σ : StT} {Q : Int → StT → Prop} (hS : SHP S) (k : WPs mX10_hasPlace [vR 1, vI v1] S σ (fun r2 s2 => (r2 = 0 → WPs mX10_refused [vR 1, vI 1] S s2 (fun r23 s23 => Q (-2147483648) s23)) ∧ (¬ (r2 = 0) → WPs mX10_hasPlace [vR 1, vI v2] S s2 (fun r10 s10 => (r10 = 0 → WPs mX10_refused [vR 1, vI 1] S s10 (fun r23 s23 => Q (-2147483648) s23)) ∧ (¬ (r10 = 0) → (v1 ≤ v2 → WPs mX5_changeBy [vR 51, vI v1, vI v2] S s10 (fun r38 s38 => WPs mX10_told [vR 1, vI r38] S s38 (fun r41 s41 => Q r41 s41))) ∧ (¬ (v1 ≤ v2) → WPs mX10_refused [vR 1, vI 1] S s10 (fun r23 s23 => Q (-2147483648) s23))))))) : WPs mX10_exchanged [vR 1, vI v1, vI v2] S σ Q := by
  refine s_entry (by decide) (Nat.le_of_ble_eq_true rfl) rfl rfl ?_
  refine r_aload_n dX10_exchanged_0 rfl ?_
  refine r_iload_n dX10_exchanged_1 rfl ?_
  refine s_callVv (z := mX10_hasPlace) [vI v1] dX10_exchanged_2 mv_X10_hasPlace lk_X10_244 rfl (by decide) (k_1 hS) (Nat.le_of_ble_eq_true rfl) (WPs.mono k (fun r2 s2 k => ?_))
  refine r_if_eq (tgt := 21) dX10_exchanged_5 rfl (fun h => ?_) (fun h => ?_)
  · have k := k.1 h
    refine r_aload_n dX10_exchanged_21 rfl ?_
    refine r_iconst dX10_exchanged_22 ⟨by decide, by decide⟩ ?_
    refine s_callVv (z := mX10_refused) [vI 1] dX10_exchanged_23 mv_X10_refused lk_X10_112 rfl (by decide) (k_1 hS) (Nat.le_of_ble_eq_true rfl) (WPs.mono k (fun r23 s23 k => ?_))
    refine r_pop dX10_exchanged_26 rfl ?_
    refine r_ldcw dX10_exchanged_27 ct_X10_283 ⟨by decide, by decide⟩ ?_
    exact s_iret dX10_exchanged_30 rfl k
  · have k := k.2 h
    refine r_aload_n dX10_exchanged_8 rfl ?_
    refine r_iload_n dX10_exchanged_9 rfl ?_
    refine s_callVv (z := mX10_hasPlace) [vI v2] dX10_exchanged_10 mv_X10_hasPlace lk_X10_244 rfl (by decide) (k_1 hS) (Nat.le_of_ble_eq_true rfl) (WPs.mono k (fun r10 s10 k => ?_))
    refine r_if_eq (tgt := 21) dX10_exchanged_13 rfl (fun h => ?_) (fun h => ?_)
    · have k := k.1 h
      refine r_aload_n dX10_exchanged_21 rfl ?_
      refine r_iconst dX10_exchanged_22 ⟨by decide, by decide⟩ ?_
      refine s_callVv (z := mX10_refused) [vI 1] dX10_exchanged_23 mv_X10_refused lk_X10_112 rfl (by decide) (k_1 hS) (Nat.le_of_ble_eq_true rfl) (WPs.mono k (fun r23 s23 k => ?_))
      refine r_pop dX10_exchanged_26 rfl ?_
      refine r_ldcw dX10_exchanged_27 ct_X10_283 ⟨by decide, by decide⟩ ?_
      exact s_iret dX10_exchanged_30 rfl k
    · have k := k.2 h
      refine r_iload_n dX10_exchanged_16 rfl ?_
      refine r_iload_n dX10_exchanged_17 rfl ?_
      refine r_icmp_le (tgt := 31) dX10_exchanged_18 rfl (fun h => ?_) (fun h => ?_)
      · have k := k.1 h
        refine r_aload_n dX10_exchanged_31 rfl ?_
        refine r_aload_n dX10_exchanged_32 rfl ?_
        refine r_getRv dX10_exchanged_33 fl_X10_64 rfl (k_1 hS) (f_1_6 hS) (by decide) ?_
        refine r_iload_n dX10_exchanged_36 rfl ?_
        refine r_iload_n dX10_exchanged_37 rfl ?_
        refine s_callVv (z := mX5_changeBy) [vI v1, vI v2] dX10_exchanged_38 mv_X5_changeBy lk_X10_284 rfl (by decide) (k_51 hS) (Nat.le_of_ble_eq_true rfl) (WPs.mono k (fun r38 s38 k => ?_))
        refine s_callVv (z := mX10_told) [vI r38] dX10_exchanged_41 mv_X10_told lk_X10_132 rfl (by decide) (k_1 hS) (Nat.le_of_ble_eq_true rfl) (WPs.mono k (fun r41 s41 k => ?_))
        exact s_iret dX10_exchanged_44 rfl k
      · have k := k.2 h
        refine r_aload_n dX10_exchanged_21 rfl ?_
        refine r_iconst dX10_exchanged_22 ⟨by decide, by decide⟩ ?_
        refine s_callVv (z := mX10_refused) [vI 1] dX10_exchanged_23 mv_X10_refused lk_X10_112 rfl (by decide) (k_1 hS) (Nat.le_of_ble_eq_true rfl) (WPs.mono k (fun r23 s23 k => ?_))
        refine r_pop dX10_exchanged_26 rfl ?_
        refine r_ldcw dX10_exchanged_27 ct_X10_283 ⟨by decide, by decide⟩ ?_
        exact s_iret dX10_exchanged_30 rfl k
theorem e_X10_floor {S : ShT} {σ : StT} {Q : Int → StT → Prop} (hS : SHP S) (k : (σ 1 12 = 0 → WPs mX10_refused [vR 1, vI 1] S σ (fun r23 s23 => Q r23 s23)) ∧ (¬ (σ 1 12 = 0) → WPs mX8_leastTree [vR 40] S σ (fun r12 s12 => WPs mX10_told [vR 1, vI r12] S s12 (fun r15 s15 => Q r15 s15)))) : WPs mX10_floor [vR 1] S σ Q := by
  refine s_entry (by decide) (Nat.le_of_ble_eq_true rfl) rfl rfl ?_
  refine r_aload_n dX10_floor_0 rfl ?_
  refine r_getIv dX10_floor_1 fl_X10_93 rfl (k_1 hS) ?_
  refine r_if_eq (tgt := 21) dX10_floor_4 rfl (fun h => ?_) (fun h => ?_)
  · have k := k.1 h
    refine r_aload_n dX10_floor_21 rfl ?_
    refine r_iconst dX10_floor_22 ⟨by decide, by decide⟩ ?_
    refine s_callVv (z := mX10_refused) [vI 1] dX10_floor_23 mv_X10_refused lk_X10_112 rfl (by decide) (k_1 hS) (Nat.le_of_ble_eq_true rfl) (WPs.mono k (fun r23 s23 k => ?_))
    exact s_iret dX10_floor_26 rfl k
  · have k := k.2 h
    refine r_aload_n dX10_floor_7 rfl ?_
    refine r_aload_n dX10_floor_8 rfl ?_
    refine r_getRv dX10_floor_9 fl_X10_55 rfl (k_1 hS) (f_1_5 hS) (by decide) ?_
    refine s_callVv (z := mX8_leastTree) [] dX10_floor_12 mv_X8_leastTree lk_X10_287 rfl (by decide) (k_40 hS) (Nat.le_of_ble_eq_true rfl) (WPs.mono k (fun r12 s12 k => ?_))
    refine s_callVv (z := mX10_told) [vI r12] dX10_floor_15 mv_X10_told lk_X10_132 rfl (by decide) (k_1 hS) (Nat.le_of_ble_eq_true rfl) (WPs.mono k (fun r15 s15 k => ?_))
    refine r_goto (tgt := 26) dX10_floor_18 rfl ?_
    exact s_iret dX10_floor_26 rfl k
theorem e_X10_time {S : ShT} {σ : StT} {Q : Int → StT → Prop} (hS : SHP S) (k : (σ 1 12 = 0 → WPs mX10_refused [vR 1, vI 1] S σ (fun r23 s23 => Q r23 s23)) ∧ (¬ (σ 1 12 = 0) → WPs mX5_wholeTime [vR 51] S σ (fun r12 s12 => WPs mX10_told [vR 1, vI r12] S s12 (fun r15 s15 => Q r15 s15)))) : WPs mX10_time [vR 1] S σ Q := by
  refine s_entry (by decide) (Nat.le_of_ble_eq_true rfl) rfl rfl ?_
  refine r_aload_n dX10_time_0 rfl ?_
  refine r_getIv dX10_time_1 fl_X10_93 rfl (k_1 hS) ?_
  refine r_if_eq (tgt := 21) dX10_time_4 rfl (fun h => ?_) (fun h => ?_)
  · have k := k.1 h
    refine r_aload_n dX10_time_21 rfl ?_
    refine r_iconst dX10_time_22 ⟨by decide, by decide⟩ ?_
    refine s_callVv (z := mX10_refused) [vI 1] dX10_time_23 mv_X10_refused lk_X10_112 rfl (by decide) (k_1 hS) (Nat.le_of_ble_eq_true rfl) (WPs.mono k (fun r23 s23 k => ?_))
    exact s_iret dX10_time_26 rfl k
  · have k := k.2 h
    refine r_aload_n dX10_time_7 rfl ?_
    refine r_aload_n dX10_time_8 rfl ?_
    refine r_getRv dX10_time_9 fl_X10_64 rfl (k_1 hS) (f_1_6 hS) (by decide) ?_
    refine s_callVv (z := mX5_wholeTime) [] dX10_time_12 mv_X5_wholeTime lk_X10_290 rfl (by decide) (k_51 hS) (Nat.le_of_ble_eq_true rfl) (WPs.mono k (fun r12 s12 k => ?_))
    refine s_callVv (z := mX10_told) [vI r12] dX10_time_15 mv_X10_told lk_X10_132 rfl (by decide) (k_1 hS) (Nat.le_of_ble_eq_true rfl) (WPs.mono k (fun r15 s15 k => ?_))
    refine r_goto (tgt := 26) dX10_time_18 rfl ?_
    exact s_iret dX10_time_26 rfl k
theorem e_X10_pen {v1 v2 : Int} {S : ShT} {σ : StT} {Q : Int → StT → Prop} (hS : SHP S) (k : (σ 1 12 = 0 → WPs mX10_refused [vR 1, vI 1] S σ (fun r18 s18 => Q r18 s18)) ∧ (¬ (σ 1 12 = 0) → (v2 < 0 → WPs mX10_refused [vR 1, vI 1] S σ (fun r18 s18 => Q r18 s18)) ∧ (¬ (v2 < 0) → (v2 ≤ 2 → (v1 < 0 → WPs mX10_refused [vR 1, vI 2] S σ (fun r35 s35 => Q r35 s35)) ∧ (¬ (v1 < 0) → (v1 ≤ 99999 → WPs mX5_penAt [vR 51, vI v1, vI v2] S σ (fun r46 s46 => WPs mX10_told [vR 1, vI r46] S s46 (fun r49 s49 => Q r49 s49))) ∧ (¬ (v1 ≤ 99999) → WPs mX10_refused [vR 1, vI 2] S σ (fun r35 s35 => Q r35 s35)))) ∧ (¬ (v2 ≤ 2) → WPs mX10_refused [vR 1, vI 1] S σ (fun r18 s18 => Q r18 s18))))) : WPs mX10_pen [vR 1, vI v1, vI v2] S σ Q := by
  refine s_entry (by decide) (Nat.le_of_ble_eq_true rfl) rfl rfl ?_
  refine r_aload_n dX10_pen_0 rfl ?_
  refine r_getIv dX10_pen_1 fl_X10_93 rfl (k_1 hS) ?_
  refine r_if_eq (tgt := 16) dX10_pen_4 rfl (fun h => ?_) (fun h => ?_)
  · have k := k.1 h
    refine r_aload_n dX10_pen_16 rfl ?_
    refine r_iconst dX10_pen_17 ⟨by decide, by decide⟩ ?_
    refine s_callVv (z := mX10_refused) [vI 1] dX10_pen_18 mv_X10_refused lk_X10_112 rfl (by decide) (k_1 hS) (Nat.le_of_ble_eq_true rfl) (WPs.mono k (fun r18 s18 k => ?_))
    exact s_iret dX10_pen_21 rfl k
  · have k := k.2 h
    refine r_iload_n dX10_pen_7 rfl ?_
    refine r_if_lt (tgt := 16) dX10_pen_8 rfl (fun h => ?_) (fun h => ?_)
    · have k := k.1 h
      refine r_aload_n dX10_pen_16 rfl ?_
      refine r_iconst dX10_pen_17 ⟨by decide, by decide⟩ ?_
      refine s_callVv (z := mX10_refused) [vI 1] dX10_pen_18 mv_X10_refused lk_X10_112 rfl (by decide) (k_1 hS) (Nat.le_of_ble_eq_true rfl) (WPs.mono k (fun r18 s18 k => ?_))
      exact s_iret dX10_pen_21 rfl k
    · have k := k.2 h
      refine r_iload_n dX10_pen_11 rfl ?_
      refine r_iconst dX10_pen_12 ⟨by decide, by decide⟩ ?_
      refine r_icmp_le (tgt := 22) dX10_pen_13 rfl (fun h => ?_) (fun h => ?_)
      · have k := k.1 h
        refine r_iload_n dX10_pen_22 rfl ?_
        refine r_if_lt (tgt := 33) dX10_pen_23 rfl (fun h => ?_) (fun h => ?_)
        · have k := k.1 h
          refine r_aload_n dX10_pen_33 rfl ?_
          refine r_iconst dX10_pen_34 ⟨by decide, by decide⟩ ?_
          refine s_callVv (z := mX10_refused) [vI 2] dX10_pen_35 mv_X10_refused lk_X10_112 rfl (by decide) (k_1 hS) (Nat.le_of_ble_eq_true rfl) (WPs.mono k (fun r35 s35 k => ?_))
          exact s_iret dX10_pen_38 rfl k
        · have k := k.2 h
          refine r_iload_n dX10_pen_26 rfl ?_
          refine r_ldcw dX10_pen_27 ct_X10_293 ⟨by decide, by decide⟩ ?_
          refine r_icmp_le (tgt := 39) dX10_pen_30 rfl (fun h => ?_) (fun h => ?_)
          · have k := k.1 h
            refine r_aload_n dX10_pen_39 rfl ?_
            refine r_aload_n dX10_pen_40 rfl ?_
            refine r_getRv dX10_pen_41 fl_X10_64 rfl (k_1 hS) (f_1_6 hS) (by decide) ?_
            refine r_iload_n dX10_pen_44 rfl ?_
            refine r_iload_n dX10_pen_45 rfl ?_
            refine s_callVv (z := mX5_penAt) [vI v1, vI v2] dX10_pen_46 mv_X5_penAt lk_X10_294 rfl (by decide) (k_51 hS) (Nat.le_of_ble_eq_true rfl) (WPs.mono k (fun r46 s46 k => ?_))
            refine s_callVv (z := mX10_told) [vI r46] dX10_pen_49 mv_X10_told lk_X10_132 rfl (by decide) (k_1 hS) (Nat.le_of_ble_eq_true rfl) (WPs.mono k (fun r49 s49 k => ?_))
            exact s_iret dX10_pen_52 rfl k
          · have k := k.2 h
            refine r_aload_n dX10_pen_33 rfl ?_
            refine r_iconst dX10_pen_34 ⟨by decide, by decide⟩ ?_
            refine s_callVv (z := mX10_refused) [vI 2] dX10_pen_35 mv_X10_refused lk_X10_112 rfl (by decide) (k_1 hS) (Nat.le_of_ble_eq_true rfl) (WPs.mono k (fun r35 s35 k => ?_))
            exact s_iret dX10_pen_38 rfl k
      · have k := k.2 h
        refine r_aload_n dX10_pen_16 rfl ?_
        refine r_iconst dX10_pen_17 ⟨by decide, by decide⟩ ?_
        refine s_callVv (z := mX10_refused) [vI 1] dX10_pen_18 mv_X10_refused lk_X10_112 rfl (by decide) (k_1 hS) (Nat.le_of_ble_eq_true rfl) (WPs.mono k (fun r18 s18 k => ?_))
        exact s_iret dX10_pen_21 rfl k
theorem e_X10_longest {S : ShT} {σ : StT} {Q : Int → StT → Prop} (hS : SHP S) (k : (σ 1 12 = 0 → WPs mX10_refused [vR 1, vI 1] S σ (fun r23 s23 => Q r23 s23)) ∧ (¬ (σ 1 12 = 0) → WPs mX5_longestPlace [vR 51] S σ (fun r12 s12 => WPs mX10_told [vR 1, vI r12] S s12 (fun r15 s15 => Q r15 s15)))) : WPs mX10_longest [vR 1] S σ Q := by
  refine s_entry (by decide) (Nat.le_of_ble_eq_true rfl) rfl rfl ?_
  refine r_aload_n dX10_longest_0 rfl ?_
  refine r_getIv dX10_longest_1 fl_X10_93 rfl (k_1 hS) ?_
  refine r_if_eq (tgt := 21) dX10_longest_4 rfl (fun h => ?_) (fun h => ?_)
  · have k := k.1 h
    refine r_aload_n dX10_longest_21 rfl ?_
    refine r_iconst dX10_longest_22 ⟨by decide, by decide⟩ ?_
    refine s_callVv (z := mX10_refused) [vI 1] dX10_longest_23 mv_X10_refused lk_X10_112 rfl (by decide) (k_1 hS) (Nat.le_of_ble_eq_true rfl) (WPs.mono k (fun r23 s23 k => ?_))
    exact s_iret dX10_longest_26 rfl k
  · have k := k.2 h
    refine r_aload_n dX10_longest_7 rfl ?_
    refine r_aload_n dX10_longest_8 rfl ?_
    refine r_getRv dX10_longest_9 fl_X10_64 rfl (k_1 hS) (f_1_6 hS) (by decide) ?_
    refine s_callVv (z := mX5_longestPlace) [] dX10_longest_12 mv_X5_longestPlace lk_X10_297 rfl (by decide) (k_51 hS) (Nat.le_of_ble_eq_true rfl) (WPs.mono k (fun r12 s12 k => ?_))
    refine s_callVv (z := mX10_told) [vI r12] dX10_longest_15 mv_X10_told lk_X10_132 rfl (by decide) (k_1 hS) (Nat.le_of_ble_eq_true rfl) (WPs.mono k (fun r15 s15 k => ?_))
    refine r_goto (tgt := 26) dX10_longest_18 rfl ?_
    exact s_iret dX10_longest_26 rfl k
theorem e_X10_farthest {S : ShT} {σ : StT} {Q : Int → StT → Prop} (hS : SHP S) (k : (σ 1 12 = 0 → WPs mX10_refused [vR 1, vI 1] S σ (fun r23 s23 => Q r23 s23)) ∧ (¬ (σ 1 12 = 0) → WPs mX5_farthestLeg [vR 51] S σ (fun r12 s12 => WPs mX10_told [vR 1, vI r12] S s12 (fun r15 s15 => Q r15 s15)))) : WPs mX10_farthest [vR 1] S σ Q := by
  refine s_entry (by decide) (Nat.le_of_ble_eq_true rfl) rfl rfl ?_
  refine r_aload_n dX10_farthest_0 rfl ?_
  refine r_getIv dX10_farthest_1 fl_X10_93 rfl (k_1 hS) ?_
  refine r_if_eq (tgt := 21) dX10_farthest_4 rfl (fun h => ?_) (fun h => ?_)
  · have k := k.1 h
    refine r_aload_n dX10_farthest_21 rfl ?_
    refine r_iconst dX10_farthest_22 ⟨by decide, by decide⟩ ?_
    refine s_callVv (z := mX10_refused) [vI 1] dX10_farthest_23 mv_X10_refused lk_X10_112 rfl (by decide) (k_1 hS) (Nat.le_of_ble_eq_true rfl) (WPs.mono k (fun r23 s23 k => ?_))
    exact s_iret dX10_farthest_26 rfl k
  · have k := k.2 h
    refine r_aload_n dX10_farthest_7 rfl ?_
    refine r_aload_n dX10_farthest_8 rfl ?_
    refine r_getRv dX10_farthest_9 fl_X10_64 rfl (k_1 hS) (f_1_6 hS) (by decide) ?_
    refine s_callVv (z := mX5_farthestLeg) [] dX10_farthest_12 mv_X5_farthestLeg lk_X10_300 rfl (by decide) (k_51 hS) (Nat.le_of_ble_eq_true rfl) (WPs.mono k (fun r12 s12 k => ?_))
    refine s_callVv (z := mX10_told) [vI r12] dX10_farthest_15 mv_X10_told lk_X10_132 rfl (by decide) (k_1 hS) (Nat.le_of_ble_eq_true rfl) (WPs.mono k (fun r15 s15 k => ?_))
    refine r_goto (tgt := 26) dX10_farthest_18 rfl ?_
    exact s_iret dX10_farthest_26 rfl k
theorem e_X10_lifts {S : ShT} {σ : StT} {Q : Int → StT → Prop} (hS : SHP S) (k : (σ 1 12 = 0 → WPs mX10_refused [vR 1, vI 1] S σ (fun r23 s23 => Q r23 s23)) ∧ (¬ (σ 1 12 = 0) → WPs mX5_liftsBetween [vR 51] S σ (fun r12 s12 => WPs mX10_told [vR 1, vI r12] S s12 (fun r15 s15 => Q r15 s15)))) : WPs mX10_lifts [vR 1] S σ Q := by
  refine s_entry (by decide) (Nat.le_of_ble_eq_true rfl) rfl rfl ?_
  refine r_aload_n dX10_lifts_0 rfl ?_
  refine r_getIv dX10_lifts_1 fl_X10_93 rfl (k_1 hS) ?_
  refine r_if_eq (tgt := 21) dX10_lifts_4 rfl (fun h => ?_) (fun h => ?_)
  · have k := k.1 h
    refine r_aload_n dX10_lifts_21 rfl ?_
    refine r_iconst dX10_lifts_22 ⟨by decide, by decide⟩ ?_
    refine s_callVv (z := mX10_refused) [vI 1] dX10_lifts_23 mv_X10_refused lk_X10_112 rfl (by decide) (k_1 hS) (Nat.le_of_ble_eq_true rfl) (WPs.mono k (fun r23 s23 k => ?_))
    exact s_iret dX10_lifts_26 rfl k
  · have k := k.2 h
    refine r_aload_n dX10_lifts_7 rfl ?_
    refine r_aload_n dX10_lifts_8 rfl ?_
    refine r_getRv dX10_lifts_9 fl_X10_64 rfl (k_1 hS) (f_1_6 hS) (by decide) ?_
    refine s_callVv (z := mX5_liftsBetween) [] dX10_lifts_12 mv_X5_liftsBetween lk_X10_303 rfl (by decide) (k_51 hS) (Nat.le_of_ble_eq_true rfl) (WPs.mono k (fun r12 s12 k => ?_))
    refine s_callVv (z := mX10_told) [vI r12] dX10_lifts_15 mv_X10_told lk_X10_132 rfl (by decide) (k_1 hS) (Nat.le_of_ble_eq_true rfl) (WPs.mono k (fun r15 s15 k => ?_))
    refine r_goto (tgt := 26) dX10_lifts_18 rfl ?_
    exact s_iret dX10_lifts_26 rfl k
theorem e_X10_rides {v1 : Int} {S : ShT} {σ : StT} {Q : Int → StT → Prop} (hS : SHP S) (k : WPs mX10_hasStroke [vR 1, vI v1] S σ (fun r2 s2 => (r2 = 0 → WPs mX10_refused [vR 1, vI 1] S s2 (fun r33 s33 => Q r33 s33)) ∧ (¬ (r2 = 0) → (0 ≤ v1 ∧ v1 < 24) ∧ WPs mX5_placeOf [vR 51, vI (s2 46 v1.toNat)] S s2 (fun r22 s22 => WPs mX10_told [vR 1, vI r22] S s22 (fun r25 s25 => Q r25 s25))))) : WPs mX10_rides [vR 1, vI v1] S σ Q := by
  refine s_entry (by decide) (Nat.le_of_ble_eq_true rfl) rfl rfl ?_
  refine r_aload_n dX10_rides_0 rfl ?_
  refine r_iload_n dX10_rides_1 rfl ?_
  refine s_callVv (z := mX10_hasStroke) [vI v1] dX10_rides_2 mv_X10_hasStroke lk_X10_171 rfl (by decide) (k_1 hS) (Nat.le_of_ble_eq_true rfl) (WPs.mono k (fun r2 s2 k => ?_))
  refine r_if_eq (tgt := 31) dX10_rides_5 rfl (fun h => ?_) (fun h => ?_)
  · have k := k.1 h
    refine r_aload_n dX10_rides_31 rfl ?_
    refine r_iconst dX10_rides_32 ⟨by decide, by decide⟩ ?_
    refine s_callVv (z := mX10_refused) [vI 1] dX10_rides_33 mv_X10_refused lk_X10_112 rfl (by decide) (k_1 hS) (Nat.le_of_ble_eq_true rfl) (WPs.mono k (fun r33 s33 k => ?_))
    exact s_iret dX10_rides_36 rfl k
  · have k := k.2 h
    refine r_aload_n dX10_rides_8 rfl ?_
    refine r_aload_n dX10_rides_9 rfl ?_
    refine r_getRv dX10_rides_10 fl_X10_64 rfl (k_1 hS) (f_1_6 hS) (by decide) ?_
    refine r_aload_n dX10_rides_13 rfl ?_
    refine r_getRv dX10_rides_14 fl_X10_55 rfl (k_1 hS) (f_1_5 hS) (by decide) ?_
    refine r_getRv dX10_rides_17 fl_X10_306 rfl (k_40 hS) (f_40_8 hS) (by decide) ?_
    refine r_iload_n dX10_rides_20 rfl ?_
    obtain ⟨⟨h0, h1⟩, k⟩ := k
    refine r_iald dX10_rides_21 (Or.inl (k_46 hS)) h0 h1 ?_
    refine s_callVv (z := mX5_placeOf) [vI (s2 46 v1.toNat)] dX10_rides_22 mv_X5_placeOf lk_X10_309 rfl (by decide) (k_51 hS) (Nat.le_of_ble_eq_true rfl) (WPs.mono k (fun r22 s22 k => ?_))
    refine s_callVv (z := mX10_told) [vI r22] dX10_rides_25 mv_X10_told lk_X10_132 rfl (by decide) (k_1 hS) (Nat.le_of_ble_eq_true rfl) (WPs.mono k (fun r25 s25 k => ?_))
    refine r_goto (tgt := 36) dX10_rides_28 rfl ?_
    exact s_iret dX10_rides_36 rfl k
theorem e_X10_would {v1 v2 v3 v4 : Int} {S : ShT} {σ : StT} {Q : Int → StT → Prop} (hS : SHP S) (k : WPs mX10_whyNoStroke [vR 1, vI v1, vI v2, vI v3, vI v4] S σ (fun r6 s6 => (r6 = 0 → WPs mX0_copy [vR 106, vR 4] S s6 (fun r35 s35 => WPs mX0_putStroke [vR 106, vI v1, vI v2, vI v3, vI v4] S s35 (fun r47 s47 => WPs mX10_trailsOfOther [vR 1, vI (s47 4 4)] S s47 (fun r59 s59 => inR (r59 - (s59 40 9)) ∧ WPs mX10_told [vR 1, vI (r59 - (s59 40 9))] S s59 (fun r70 s70 => Q r70 s70))))) ∧ (¬ (r6 = 0) → WPs mX10_refused [vR 1, vI r6] S s6 (fun r19 s19 => Q (-2147483648) s19)))) : WPs mX10_would [vR 1, vI v1, vI v2, vI v3, vI v4] S σ Q := by
  refine s_entry (by decide) (Nat.le_of_ble_eq_true rfl) rfl rfl ?_
  refine r_aload_n dX10_would_0 rfl ?_
  refine r_iload_n dX10_would_1 rfl ?_
  refine r_iload_n dX10_would_2 rfl ?_
  refine r_iload_n dX10_would_3 rfl ?_
  refine r_iload dX10_would_4 rfl ?_
  refine s_callVv (z := mX10_whyNoStroke) [vI v1, vI v2, vI v3, vI v4] dX10_would_6 mv_X10_whyNoStroke lk_X10_312 rfl (by decide) (k_1 hS) (Nat.le_of_ble_eq_true rfl) (WPs.mono k (fun r6 s6 k => ?_))
  refine r_istore dX10_would_9 (by decide) rfl rfl ?_
  refine r_iload dX10_would_11 rfl ?_
  refine r_if_eq (tgt := 27) dX10_would_13 rfl (fun h => ?_) (fun h => ?_)
  · have k := k.1 h
    refine r_aload_n dX10_would_27 rfl ?_
    refine r_getRv dX10_would_28 fl_X10_75 rfl (k_1 hS) (f_1_8 hS) (by decide) ?_
    refine r_aload_n dX10_would_31 rfl ?_
    refine r_getRv dX10_would_32 fl_X10_19 rfl (k_1 hS) (f_1_1 hS) (by decide) ?_
    refine s_callVv (z := mX0_copy) [vR 4] dX10_would_35 mv_X0_copy lk_X10_120 rfl (by decide) (k_106 hS) (Nat.le_of_ble_eq_true rfl) (WPs.mono k (fun r35 s35 k => ?_))
    refine r_aload_n dX10_would_38 rfl ?_
    refine r_getRv dX10_would_39 fl_X10_75 rfl (k_1 hS) (f_1_8 hS) (by decide) ?_
    refine r_iload_n dX10_would_42 rfl ?_
    refine r_iload_n dX10_would_43 rfl ?_
    refine r_iload_n dX10_would_44 rfl ?_
    refine r_iload dX10_would_45 rfl ?_
    refine s_callVv (z := mX0_putStroke) [vI v1, vI v2, vI v3, vI v4] dX10_would_47 mv_X0_putStroke lk_X10_316 rfl (by decide) (k_106 hS) (Nat.le_of_ble_eq_true rfl) (WPs.mono k (fun r47 s47 k => ?_))
    refine r_aload_n dX10_would_50 rfl ?_
    refine r_aload_n dX10_would_51 rfl ?_
    refine r_aload_n dX10_would_52 rfl ?_
    refine r_getRv dX10_would_53 fl_X10_19 rfl (k_1 hS) (f_1_1 hS) (by decide) ?_
    refine r_getIv dX10_would_56 fl_X10_144 rfl (k_4 hS) ?_
    refine s_callVv (z := mX10_trailsOfOther) [vI (s47 4 4)] dX10_would_59 mv_X10_trailsOfOther lk_X10_320 rfl (by decide) (k_1 hS) (Nat.le_of_ble_eq_true rfl) (WPs.mono k (fun r59 s59 k => ?_))
    refine r_aload_n dX10_would_62 rfl ?_
    refine r_getRv dX10_would_63 fl_X10_55 rfl (k_1 hS) (f_1_5 hS) (by decide) ?_
    refine r_getIv dX10_would_66 fl_X10_169 rfl (k_40 hS) ?_
    obtain ⟨h, k⟩ := k
    refine r_isub dX10_would_69 h ?_
    refine s_callVv (z := mX10_told) [vI (r59 - (s59 40 9))] dX10_would_70 mv_X10_told lk_X10_132 rfl (by decide) (k_1 hS) (Nat.le_of_ble_eq_true rfl) (WPs.mono k (fun r70 s70 k => ?_))
    exact s_iret dX10_would_73 rfl k
  · have k := k.2 h
    refine r_aload_n dX10_would_16 rfl ?_
    refine r_iload dX10_would_17 rfl ?_
    refine s_callVv (z := mX10_refused) [vI r6] dX10_would_19 mv_X10_refused lk_X10_112 rfl (by decide) (k_1 hS) (Nat.le_of_ble_eq_true rfl) (WPs.mono k (fun r19 s19 k => ?_))
    refine r_pop dX10_would_22 rfl ?_
    refine r_ldcw dX10_would_23 ct_X10_283 ⟨by decide, by decide⟩ ?_
    exact s_iret dX10_would_26 rfl k
theorem e_X10_worst {S : ShT} {σ : StT} {Q : Int → StT → Prop} (hS : SHP S) (k : (¬ σ 1 12 = 0 → AWs mX10_worst 20 [(0, vR 1), (1, vI (-2)), (2, vI 0), (3, vI 0)] [] S σ Q) ∧ (σ 1 12 = 0 → WPs mX10_refused [vR 1, vI 1] S σ (fun r9 s9 => Q r9 s9))) : WPs mX10_worst [vR 1] S σ Q := by
  refine s_entry (by decide) (Nat.le_of_ble_eq_true rfl) rfl rfl ?_
  refine r_aload_n dX10_worst_0 rfl ?_
  refine r_getIv dX10_worst_1 fl_X10_93 rfl (k_1 hS) ?_
  refine r_if_ne (tgt := 13) dX10_worst_4 rfl (fun h => ?_) (fun h => ?_)
  · have k := k.1 h
    refine r_bipush dX10_worst_13 (by decide +kernel) ⟨by decide, by decide⟩ ?_
    refine r_istore_n dX10_worst_15 (by decide) rfl rfl ?_
    refine r_iconst dX10_worst_16 ⟨by decide, by decide⟩ ?_
    refine r_istore_n dX10_worst_17 (by decide) rfl rfl ?_
    refine r_iconst dX10_worst_18 ⟨by decide, by decide⟩ ?_
    refine r_istore_n dX10_worst_19 (by decide) rfl rfl ?_
    exact k
  · have k := k.2 h
    refine r_aload_n dX10_worst_7 rfl ?_
    refine r_iconst dX10_worst_8 ⟨by decide, by decide⟩ ?_
    refine s_callVv (z := mX10_refused) [vI 1] dX10_worst_9 mv_X10_refused lk_X10_112 rfl (by decide) (k_1 hS) (Nat.le_of_ble_eq_true rfl) (WPs.mono k (fun r9 s9 k => ?_))
    exact s_iret dX10_worst_12 rfl k
theorem t_X10_worst_20 {v1 v2 v3 : Int} {S : ShT} {σ : StT} {Q : Int → StT → Prop} (hS : SHP S) (k : (σ 4 2 ≤ v3 → WPs mX10_told [vR 1, vI v1] S σ (fun r88 s88 => Q r88 s88)) ∧ (¬ (σ 4 2 ≤ v3) → WPs mX0_copy [vR 106, vR 4] S σ (fun r39 s39 => WPs mX0_removeStroke [vR 106, vI v3] S s39 (fun r47 s47 => WPs mX10_trailsOfOther [vR 1, vI (s47 4 4)] S s47 (fun r58 s58 => (v1 = -2 → inR (v3 + 1) ∧ AWs mX10_worst 20 [(0, vR 1), (1, vI v3), (2, vI r58), (3, vI (v3 + 1))] [] S s58 Q) ∧ (¬ (v1 = -2) → (v2 ≤ r58 → inR (v3 + 1) ∧ AWs mX10_worst 20 [(0, vR 1), (1, vI v1), (2, vI v2), (3, vI (v3 + 1))] [] S s58 Q) ∧ (¬ (v2 ≤ r58) → inR (v3 + 1) ∧ AWs mX10_worst 20 [(0, vR 1), (1, vI v3), (2, vI r58), (3, vI (v3 + 1))] [] S s58 Q))))))) : AWs mX10_worst 20 [(0, vR 1), (1, vI v1), (2, vI v2), (3, vI v3)] [] S σ Q := by
  refine r_iload_n dX10_worst_20 rfl ?_
  refine r_aload_n dX10_worst_21 rfl ?_
  refine r_getRv dX10_worst_22 fl_X10_19 rfl (k_1 hS) (f_1_1 hS) (by decide) ?_
  refine r_getIv dX10_worst_25 fl_X10_129 rfl (k_4 hS) ?_
  refine r_icmp_ge (tgt := 86) dX10_worst_28 rfl (fun h => ?_) (fun h => ?_)
  · have k := k.1 h
    refine r_aload_n dX10_worst_86 rfl ?_
    refine r_iload_n dX10_worst_87 rfl ?_
    refine s_callVv (z := mX10_told) [vI v1] dX10_worst_88 mv_X10_told lk_X10_132 rfl (by decide) (k_1 hS) (Nat.le_of_ble_eq_true rfl) (WPs.mono k (fun r88 s88 k => ?_))
    exact s_iret dX10_worst_91 rfl k
  · have k := k.2 h
    refine r_aload_n dX10_worst_31 rfl ?_
    refine r_getRv dX10_worst_32 fl_X10_75 rfl (k_1 hS) (f_1_8 hS) (by decide) ?_
    refine r_aload_n dX10_worst_35 rfl ?_
    refine r_getRv dX10_worst_36 fl_X10_19 rfl (k_1 hS) (f_1_1 hS) (by decide) ?_
    refine s_callVv (z := mX0_copy) [vR 4] dX10_worst_39 mv_X0_copy lk_X10_120 rfl (by decide) (k_106 hS) (Nat.le_of_ble_eq_true rfl) (WPs.mono k (fun r39 s39 k => ?_))
    refine r_aload_n dX10_worst_42 rfl ?_
    refine r_getRv dX10_worst_43 fl_X10_75 rfl (k_1 hS) (f_1_8 hS) (by decide) ?_
    refine r_iload_n dX10_worst_46 rfl ?_
    refine s_callVv (z := mX0_removeStroke) [vI v3] dX10_worst_47 mv_X0_removeStroke lk_X10_323 rfl (by decide) (k_106 hS) (Nat.le_of_ble_eq_true rfl) (WPs.mono k (fun r47 s47 k => ?_))
    refine r_aload_n dX10_worst_50 rfl ?_
    refine r_aload_n dX10_worst_51 rfl ?_
    refine r_getRv dX10_worst_52 fl_X10_19 rfl (k_1 hS) (f_1_1 hS) (by decide) ?_
    refine r_getIv dX10_worst_55 fl_X10_144 rfl (k_4 hS) ?_
    refine s_callVv (z := mX10_trailsOfOther) [vI (s47 4 4)] dX10_worst_58 mv_X10_trailsOfOther lk_X10_320 rfl (by decide) (k_1 hS) (Nat.le_of_ble_eq_true rfl) (WPs.mono k (fun r58 s58 k => ?_))
    refine r_istore dX10_worst_61 (by decide) rfl rfl ?_
    refine r_iload_n dX10_worst_63 rfl ?_
    refine r_bipush dX10_worst_64 (by decide +kernel) ⟨by decide, by decide⟩ ?_
    refine r_icmp_eq (tgt := 75) dX10_worst_66 rfl (fun h => ?_) (fun h => ?_)
    · have k := k.1 h
      refine r_iload_n dX10_worst_75 rfl ?_
      refine r_istore_n dX10_worst_76 (by decide) rfl rfl ?_
      refine r_iload dX10_worst_77 rfl ?_
      refine r_istore_n dX10_worst_79 (by decide) rfl rfl ?_
      obtain ⟨h, k⟩ := k
      refine r_iinc dX10_worst_80 rfl (by decide) rfl rfl h ?_
      refine r_goto (tgt := 20) dX10_worst_83 rfl ?_
      refine r_loc [0, 1, 2, 3] rfl ?_
      exact k
    · have k := k.2 h
      refine r_iload dX10_worst_69 rfl ?_
      refine r_iload_n dX10_worst_71 rfl ?_
      refine r_icmp_ge (tgt := 80) dX10_worst_72 rfl (fun h => ?_) (fun h => ?_)
      · have k := k.1 h
        obtain ⟨h, k⟩ := k
        refine r_iinc dX10_worst_80 rfl (by decide) rfl rfl h ?_
        refine r_goto (tgt := 20) dX10_worst_83 rfl ?_
        refine r_loc [0, 1, 2, 3] rfl ?_
        exact k
      · have k := k.2 h
        refine r_iload_n dX10_worst_75 rfl ?_
        refine r_istore_n dX10_worst_76 (by decide) rfl rfl ?_
        refine r_iload dX10_worst_77 rfl ?_
        refine r_istore_n dX10_worst_79 (by decide) rfl rfl ?_
        obtain ⟨h, k⟩ := k
        refine r_iinc dX10_worst_80 rfl (by decide) rfl rfl h ?_
        refine r_goto (tgt := 20) dX10_worst_83 rfl ?_
        refine r_loc [0, 1, 2, 3] rfl ?_
        exact k
theorem e_X10_nearest {S : ShT} {σ : StT} {Q : Int → StT → Prop} (hS : SHP S) (k : (¬ σ 1 12 = 0 → WPs mX0_copy [vR 106, vR 4] S σ (fun r21 s21 => WPs mX10_trailsOfOther [vR 1, vI 50] S s21 (fun r29 s29 => WPs mX10_leastJoinFor [vR 1, vI r29] S s29 (fun r32 s32 => WPs mX10_told [vR 1, vI r32] S s32 (fun r35 s35 => Q r35 s35))))) ∧ (σ 1 12 = 0 → WPs mX10_refused [vR 1, vI 1] S σ (fun r9 s9 => Q r9 s9))) : WPs mX10_nearest [vR 1] S σ Q := by
  refine s_entry (by decide) (Nat.le_of_ble_eq_true rfl) rfl rfl ?_
  refine r_aload_n dX10_nearest_0 rfl ?_
  refine r_getIv dX10_nearest_1 fl_X10_93 rfl (k_1 hS) ?_
  refine r_if_ne (tgt := 13) dX10_nearest_4 rfl (fun h => ?_) (fun h => ?_)
  · have k := k.1 h
    refine r_aload_n dX10_nearest_13 rfl ?_
    refine r_getRv dX10_nearest_14 fl_X10_75 rfl (k_1 hS) (f_1_8 hS) (by decide) ?_
    refine r_aload_n dX10_nearest_17 rfl ?_
    refine r_getRv dX10_nearest_18 fl_X10_19 rfl (k_1 hS) (f_1_1 hS) (by decide) ?_
    refine s_callVv (z := mX0_copy) [vR 4] dX10_nearest_21 mv_X0_copy lk_X10_120 rfl (by decide) (k_106 hS) (Nat.le_of_ble_eq_true rfl) (WPs.mono k (fun r21 s21 k => ?_))
    refine r_aload_n dX10_nearest_24 rfl ?_
    refine r_aload_n dX10_nearest_25 rfl ?_
    refine r_aload_n dX10_nearest_26 rfl ?_
    refine r_bipush dX10_nearest_27 (by decide +kernel) ⟨by decide, by decide⟩ ?_
    refine s_callVv (z := mX10_trailsOfOther) [vI 50] dX10_nearest_29 mv_X10_trailsOfOther lk_X10_320 rfl (by decide) (k_1 hS) (Nat.le_of_ble_eq_true rfl) (WPs.mono k (fun r29 s29 k => ?_))
    refine s_callVv (z := mX10_leastJoinFor) [vI r29] dX10_nearest_32 mv_X10_leastJoinFor lk_X10_326 rfl (by decide) (k_1 hS) (Nat.le_of_ble_eq_true rfl) (WPs.mono k (fun r32 s32 k => ?_))
    refine s_callVv (z := mX10_told) [vI r32] dX10_nearest_35 mv_X10_told lk_X10_132 rfl (by decide) (k_1 hS) (Nat.le_of_ble_eq_true rfl) (WPs.mono k (fun r35 s35 k => ?_))
    exact s_iret dX10_nearest_38 rfl k
  · have k := k.2 h
    refine r_aload_n dX10_nearest_7 rfl ?_
    refine r_iconst dX10_nearest_8 ⟨by decide, by decide⟩ ?_
    refine s_callVv (z := mX10_refused) [vI 1] dX10_nearest_9 mv_X10_refused lk_X10_112 rfl (by decide) (k_1 hS) (Nat.le_of_ble_eq_true rfl) (WPs.mono k (fun r9 s9 k => ?_))
    exact s_iret dX10_nearest_12 rfl k
theorem e_X10_enough {v1 : Int} {S : ShT} {σ : StT} {Q : Int → StT → Prop} (hS : SHP S) (k : (¬ σ 1 12 = 0 → (v1 < 1 → WPs mX10_refused [vR 1, vI 2] S σ (fun r26 s26 => Q r26 s26)) ∧ (¬ (v1 < 1) → (v1 ≤ 24 → WPs mX0_copy [vR 106, vR 4] S σ (fun r38 s38 => WPs mX10_leastJoinFor [vR 1, vI v1] S s38 (fun r43 s43 => (r43 ≤ 50 → WPs mX10_told [vR 1, vI r43] S s43 (fun r60 s60 => Q r60 s60)) ∧ (¬ (r43 ≤ 50) → WPs mX10_told [vR 1, vI (-2)] S s43 (fun r60 s60 => Q r60 s60))))) ∧ (¬ (v1 ≤ 24) → WPs mX10_refused [vR 1, vI 2] S σ (fun r26 s26 => Q r26 s26)))) ∧ (σ 1 12 = 0 → WPs mX10_refused [vR 1, vI 1] S σ (fun r9 s9 => Q r9 s9))) : WPs mX10_enough [vR 1, vI v1] S σ Q := by
  refine s_entry (by decide) (Nat.le_of_ble_eq_true rfl) rfl rfl ?_
  refine r_aload_n dX10_enough_0 rfl ?_
  refine r_getIv dX10_enough_1 fl_X10_93 rfl (k_1 hS) ?_
  refine r_if_ne (tgt := 13) dX10_enough_4 rfl (fun h => ?_) (fun h => ?_)
  · have k := k.1 h
    refine r_iload_n dX10_enough_13 rfl ?_
    refine r_iconst dX10_enough_14 ⟨by decide, by decide⟩ ?_
    refine r_icmp_lt (tgt := 24) dX10_enough_15 rfl (fun h => ?_) (fun h => ?_)
    · have k := k.1 h
      refine r_aload_n dX10_enough_24 rfl ?_
      refine r_iconst dX10_enough_25 ⟨by decide, by decide⟩ ?_
      refine s_callVv (z := mX10_refused) [vI 2] dX10_enough_26 mv_X10_refused lk_X10_112 rfl (by decide) (k_1 hS) (Nat.le_of_ble_eq_true rfl) (WPs.mono k (fun r26 s26 k => ?_))
      exact s_iret dX10_enough_29 rfl k
    · have k := k.2 h
      refine r_iload_n dX10_enough_18 rfl ?_
      refine r_bipush dX10_enough_19 (by decide +kernel) ⟨by decide, by decide⟩ ?_
      refine r_icmp_le (tgt := 30) dX10_enough_21 rfl (fun h => ?_) (fun h => ?_)
      · have k := k.1 h
        refine r_aload_n dX10_enough_30 rfl ?_
        refine r_getRv dX10_enough_31 fl_X10_75 rfl (k_1 hS) (f_1_8 hS) (by decide) ?_
        refine r_aload_n dX10_enough_34 rfl ?_
        refine r_getRv dX10_enough_35 fl_X10_19 rfl (k_1 hS) (f_1_1 hS) (by decide) ?_
        refine s_callVv (z := mX0_copy) [vR 4] dX10_enough_38 mv_X0_copy lk_X10_120 rfl (by decide) (k_106 hS) (Nat.le_of_ble_eq_true rfl) (WPs.mono k (fun r38 s38 k => ?_))
        refine r_aload_n dX10_enough_41 rfl ?_
        refine r_iload_n dX10_enough_42 rfl ?_
        refine s_callVv (z := mX10_leastJoinFor) [vI v1] dX10_enough_43 mv_X10_leastJoinFor lk_X10_326 rfl (by decide) (k_1 hS) (Nat.le_of_ble_eq_true rfl) (WPs.mono k (fun r43 s43 k => ?_))
        refine r_istore_n dX10_enough_46 (by decide) rfl rfl ?_
        refine r_aload_n dX10_enough_47 rfl ?_
        refine r_iload_n dX10_enough_48 rfl ?_
        refine r_bipush dX10_enough_49 (by decide +kernel) ⟨by decide, by decide⟩ ?_
        refine r_icmp_le (tgt := 59) dX10_enough_51 rfl (fun h => ?_) (fun h => ?_)
        · have k := k.1 h
          refine r_iload_n dX10_enough_59 rfl ?_
          refine s_callVv (z := mX10_told) [vI r43] dX10_enough_60 mv_X10_told lk_X10_132 rfl (by decide) (k_1 hS) (Nat.le_of_ble_eq_true rfl) (WPs.mono k (fun r60 s60 k => ?_))
          exact s_iret dX10_enough_63 rfl k
        · have k := k.2 h
          refine r_bipush dX10_enough_54 (by decide +kernel) ⟨by decide, by decide⟩ ?_
          refine r_goto (tgt := 60) dX10_enough_56 rfl ?_
          refine s_callVv (z := mX10_told) [vI (-2)] dX10_enough_60 mv_X10_told lk_X10_132 rfl (by decide) (k_1 hS) (Nat.le_of_ble_eq_true rfl) (WPs.mono k (fun r60 s60 k => ?_))
          exact s_iret dX10_enough_63 rfl k
      · have k := k.2 h
        refine r_aload_n dX10_enough_24 rfl ?_
        refine r_iconst dX10_enough_25 ⟨by decide, by decide⟩ ?_
        refine s_callVv (z := mX10_refused) [vI 2] dX10_enough_26 mv_X10_refused lk_X10_112 rfl (by decide) (k_1 hS) (Nat.le_of_ble_eq_true rfl) (WPs.mono k (fun r26 s26 k => ?_))
        exact s_iret dX10_enough_29 rfl k
  · have k := k.2 h
    refine r_aload_n dX10_enough_7 rfl ?_
    refine r_iconst dX10_enough_8 ⟨by decide, by decide⟩ ?_
    refine s_callVv (z := mX10_refused) [vI 1] dX10_enough_9 mv_X10_refused lk_X10_112 rfl (by decide) (k_1 hS) (Nat.le_of_ble_eq_true rfl) (WPs.mono k (fun r9 s9 k => ?_))
    exact s_iret dX10_enough_12 rfl k
theorem e_X10_add {v1 v2 v3 v4 : Int} {S : ShT} {σ : StT} {Q : Int → StT → Prop} (hS : SHP S) (k : WPs mX10_whyNoStroke [vR 1, vI v1, vI v2, vI v3, vI v4] S σ (fun r6 s6 => (r6 = 0 → WPs mX2_keep [vR 53, vR 4, vR 51] S s6 (fun r35 s35 => WPs mX0_putStroke [vR 4, vI v1, vI v2, vI v3, vI v4] S s35 (fun r47 s47 => WPs mX10_startPlan [vR 1] S s47 (fun r51 s51 => WPs mX10_told [vR 1, vI (s51 4 2)] S s51 (fun r62 s62 => Q r62 s62))))) ∧ (¬ (r6 = 0) → WPs mX10_refused [vR 1, vI r6] S s6 (fun r19 s19 => Q r19 s19)))) : WPs mX10_add [vR 1, vI v1, vI v2, vI v3, vI v4] S σ Q := by
  refine s_entry (by decide) (Nat.le_of_ble_eq_true rfl) rfl rfl ?_
  refine r_aload_n dX10_add_0 rfl ?_
  refine r_iload_n dX10_add_1 rfl ?_
  refine r_iload_n dX10_add_2 rfl ?_
  refine r_iload_n dX10_add_3 rfl ?_
  refine r_iload dX10_add_4 rfl ?_
  refine s_callVv (z := mX10_whyNoStroke) [vI v1, vI v2, vI v3, vI v4] dX10_add_6 mv_X10_whyNoStroke lk_X10_312 rfl (by decide) (k_1 hS) (Nat.le_of_ble_eq_true rfl) (WPs.mono k (fun r6 s6 k => ?_))
  refine r_istore dX10_add_9 (by decide) rfl rfl ?_
  refine r_iload dX10_add_11 rfl ?_
  refine r_if_eq (tgt := 23) dX10_add_13 rfl (fun h => ?_) (fun h => ?_)
  · have k := k.1 h
    refine r_aload_n dX10_add_23 rfl ?_
    refine r_getRv dX10_add_24 fl_X10_71 rfl (k_1 hS) (f_1_7 hS) (by decide) ?_
    refine r_aload_n dX10_add_27 rfl ?_
    refine r_getRv dX10_add_28 fl_X10_19 rfl (k_1 hS) (f_1_1 hS) (by decide) ?_
    refine r_aload_n dX10_add_31 rfl ?_
    refine r_getRv dX10_add_32 fl_X10_64 rfl (k_1 hS) (f_1_6 hS) (by decide) ?_
    refine s_callVv (z := mX2_keep) [vR 4, vR 51] dX10_add_35 mv_X2_keep lk_X10_329 rfl (by decide) (k_53 hS) (Nat.le_of_ble_eq_true rfl) (WPs.mono k (fun r35 s35 k => ?_))
    refine r_aload_n dX10_add_38 rfl ?_
    refine r_getRv dX10_add_39 fl_X10_19 rfl (k_1 hS) (f_1_1 hS) (by decide) ?_
    refine r_iload_n dX10_add_42 rfl ?_
    refine r_iload_n dX10_add_43 rfl ?_
    refine r_iload_n dX10_add_44 rfl ?_
    refine r_iload dX10_add_45 rfl ?_
    refine s_callVv (z := mX0_putStroke) [vI v1, vI v2, vI v3, vI v4] dX10_add_47 mv_X0_putStroke lk_X10_316 rfl (by decide) (k_4 hS) (Nat.le_of_ble_eq_true rfl) (WPs.mono k (fun r47 s47 k => ?_))
    refine r_aload_n dX10_add_50 rfl ?_
    refine s_callVv (z := mX10_startPlan) [] dX10_add_51 mv_X10_startPlan lk_X10_126 rfl (by decide) (k_1 hS) (Nat.le_of_ble_eq_true rfl) (WPs.mono k (fun r51 s51 k => ?_))
    refine r_aload_n dX10_add_54 rfl ?_
    refine r_aload_n dX10_add_55 rfl ?_
    refine r_getRv dX10_add_56 fl_X10_19 rfl (k_1 hS) (f_1_1 hS) (by decide) ?_
    refine r_getIv dX10_add_59 fl_X10_129 rfl (k_4 hS) ?_
    refine s_callVv (z := mX10_told) [vI (s51 4 2)] dX10_add_62 mv_X10_told lk_X10_132 rfl (by decide) (k_1 hS) (Nat.le_of_ble_eq_true rfl) (WPs.mono k (fun r62 s62 k => ?_))
    exact s_iret dX10_add_65 rfl k
  · have k := k.2 h
    refine r_aload_n dX10_add_16 rfl ?_
    refine r_iload dX10_add_17 rfl ?_
    refine s_callVv (z := mX10_refused) [vI r6] dX10_add_19 mv_X10_refused lk_X10_112 rfl (by decide) (k_1 hS) (Nat.le_of_ble_eq_true rfl) (WPs.mono k (fun r19 s19 k => ?_))
    exact s_iret dX10_add_22 rfl k
theorem e_X10_drop {v1 : Int} {S : ShT} {σ : StT} {Q : Int → StT → Prop} (hS : SHP S) (k : WPs mX10_hasStroke [vR 1, vI v1] S σ (fun r2 s2 => (¬ r2 = 0 → WPs mX2_keep [vR 53, vR 4, vR 51] S s2 (fun r26 s26 => WPs mX0_removeStroke [vR 4, vI v1] S s26 (fun r34 s34 => WPs mX10_startPlan [vR 1] S s34 (fun r38 s38 => WPs mX10_told [vR 1, vI (s38 4 2)] S s38 (fun r49 s49 => Q r49 s49))))) ∧ (r2 = 0 → WPs mX10_refused [vR 1, vI 1] S s2 (fun r10 s10 => Q r10 s10)))) : WPs mX10_drop [vR 1, vI v1] S σ Q := by
  refine s_entry (by decide) (Nat.le_of_ble_eq_true rfl) rfl rfl ?_
  refine r_aload_n dX10_drop_0 rfl ?_
  refine r_iload_n dX10_drop_1 rfl ?_
  refine s_callVv (z := mX10_hasStroke) [vI v1] dX10_drop_2 mv_X10_hasStroke lk_X10_171 rfl (by decide) (k_1 hS) (Nat.le_of_ble_eq_true rfl) (WPs.mono k (fun r2 s2 k => ?_))
  refine r_if_ne (tgt := 14) dX10_drop_5 rfl (fun h => ?_) (fun h => ?_)
  · have k := k.1 h
    refine r_aload_n dX10_drop_14 rfl ?_
    refine r_getRv dX10_drop_15 fl_X10_71 rfl (k_1 hS) (f_1_7 hS) (by decide) ?_
    refine r_aload_n dX10_drop_18 rfl ?_
    refine r_getRv dX10_drop_19 fl_X10_19 rfl (k_1 hS) (f_1_1 hS) (by decide) ?_
    refine r_aload_n dX10_drop_22 rfl ?_
    refine r_getRv dX10_drop_23 fl_X10_64 rfl (k_1 hS) (f_1_6 hS) (by decide) ?_
    refine s_callVv (z := mX2_keep) [vR 4, vR 51] dX10_drop_26 mv_X2_keep lk_X10_329 rfl (by decide) (k_53 hS) (Nat.le_of_ble_eq_true rfl) (WPs.mono k (fun r26 s26 k => ?_))
    refine r_aload_n dX10_drop_29 rfl ?_
    refine r_getRv dX10_drop_30 fl_X10_19 rfl (k_1 hS) (f_1_1 hS) (by decide) ?_
    refine r_iload_n dX10_drop_33 rfl ?_
    refine s_callVv (z := mX0_removeStroke) [vI v1] dX10_drop_34 mv_X0_removeStroke lk_X10_323 rfl (by decide) (k_4 hS) (Nat.le_of_ble_eq_true rfl) (WPs.mono k (fun r34 s34 k => ?_))
    refine r_aload_n dX10_drop_37 rfl ?_
    refine s_callVv (z := mX10_startPlan) [] dX10_drop_38 mv_X10_startPlan lk_X10_126 rfl (by decide) (k_1 hS) (Nat.le_of_ble_eq_true rfl) (WPs.mono k (fun r38 s38 k => ?_))
    refine r_aload_n dX10_drop_41 rfl ?_
    refine r_aload_n dX10_drop_42 rfl ?_
    refine r_getRv dX10_drop_43 fl_X10_19 rfl (k_1 hS) (f_1_1 hS) (by decide) ?_
    refine r_getIv dX10_drop_46 fl_X10_129 rfl (k_4 hS) ?_
    refine s_callVv (z := mX10_told) [vI (s38 4 2)] dX10_drop_49 mv_X10_told lk_X10_132 rfl (by decide) (k_1 hS) (Nat.le_of_ble_eq_true rfl) (WPs.mono k (fun r49 s49 k => ?_))
    exact s_iret dX10_drop_52 rfl k
  · have k := k.2 h
    refine r_aload_n dX10_drop_8 rfl ?_
    refine r_iconst dX10_drop_9 ⟨by decide, by decide⟩ ?_
    refine s_callVv (z := mX10_refused) [vI 1] dX10_drop_10 mv_X10_refused lk_X10_112 rfl (by decide) (k_1 hS) (Nat.le_of_ble_eq_true rfl) (WPs.mono k (fun r10 s10 k => ?_))
    exact s_iret dX10_drop_13 rfl k
theorem e_X10_home {v1 v2 : Int} {S : ShT} {σ : StT} {Q : Int → StT → Prop} (hS : SHP S) (k : (¬ σ 1 12 = 0 → WPs mX0_hasPoint [vR 4, vI v1, vI v2] S σ (fun r19 s19 => (¬ r19 = 0 → WPs mX2_keep [vR 53, vR 4, vR 51] S s19 (fun r43 s43 => WPs mX5_wholeTravel [vR 51] S (up2 (up2 s43 4 5 v1) 4 6 v2) (fun r67 s67 => WPs mX10_told [vR 1, vI r67] S s67 (fun r70 s70 => Q r70 s70)))) ∧ (r19 = 0 → WPs mX10_refused [vR 1, vI 2] S s19 (fun r27 s27 => Q r27 s27)))) ∧ (σ 1 12 = 0 → WPs mX10_refused [vR 1, vI 1] S σ (fun r9 s9 => Q r9 s9))) : WPs mX10_home [vR 1, vI v1, vI v2] S σ Q := by
  refine s_entry (by decide) (Nat.le_of_ble_eq_true rfl) rfl rfl ?_
  refine r_aload_n dX10_home_0 rfl ?_
  refine r_getIv dX10_home_1 fl_X10_93 rfl (k_1 hS) ?_
  refine r_if_ne (tgt := 13) dX10_home_4 rfl (fun h => ?_) (fun h => ?_)
  · have k := k.1 h
    refine r_aload_n dX10_home_13 rfl ?_
    refine r_getRv dX10_home_14 fl_X10_19 rfl (k_1 hS) (f_1_1 hS) (by decide) ?_
    refine r_iload_n dX10_home_17 rfl ?_
    refine r_iload_n dX10_home_18 rfl ?_
    refine s_callVv (z := mX0_hasPoint) [vI v1, vI v2] dX10_home_19 mv_X0_hasPoint lk_X10_333 rfl (by decide) (k_4 hS) (Nat.le_of_ble_eq_true rfl) (WPs.mono k (fun r19 s19 k => ?_))
    refine r_if_ne (tgt := 31) dX10_home_22 rfl (fun h => ?_) (fun h => ?_)
    · have k := k.1 h
      refine r_aload_n dX10_home_31 rfl ?_
      refine r_getRv dX10_home_32 fl_X10_71 rfl (k_1 hS) (f_1_7 hS) (by decide) ?_
      refine r_aload_n dX10_home_35 rfl ?_
      refine r_getRv dX10_home_36 fl_X10_19 rfl (k_1 hS) (f_1_1 hS) (by decide) ?_
      refine r_aload_n dX10_home_39 rfl ?_
      refine r_getRv dX10_home_40 fl_X10_64 rfl (k_1 hS) (f_1_6 hS) (by decide) ?_
      refine s_callVv (z := mX2_keep) [vR 4, vR 51] dX10_home_43 mv_X2_keep lk_X10_329 rfl (by decide) (k_53 hS) (Nat.le_of_ble_eq_true rfl) (WPs.mono k (fun r43 s43 k => ?_))
      refine r_aload_n dX10_home_46 rfl ?_
      refine r_getRv dX10_home_47 fl_X10_19 rfl (k_1 hS) (f_1_1 hS) (by decide) ?_
      refine r_iload_n dX10_home_50 rfl ?_
      refine r_putIv dX10_home_51 fl_X10_147 (fun _ h => by cases h; rfl) (Or.inl rfl) (k_4 hS) ?_
      refine r_aload_n dX10_home_54 rfl ?_
      refine r_getRv dX10_home_55 fl_X10_19 rfl (k_1 hS) (f_1_1 hS) (by decide) ?_
      refine r_iload_n dX10_home_58 rfl ?_
      refine r_putIv dX10_home_59 fl_X10_150 (fun _ h => by cases h; rfl) (Or.inl rfl) (k_4 hS) ?_
      refine r_aload_n dX10_home_62 rfl ?_
      refine r_aload_n dX10_home_63 rfl ?_
      refine r_getRv dX10_home_64 fl_X10_64 rfl (k_1 hS) (f_1_6 hS) (by decide) ?_
      refine s_callVv (z := mX5_wholeTravel) [] dX10_home_67 mv_X5_wholeTravel lk_X10_269 rfl (by decide) (k_51 hS) (Nat.le_of_ble_eq_true rfl) (WPs.mono k (fun r67 s67 k => ?_))
      refine s_callVv (z := mX10_told) [vI r67] dX10_home_70 mv_X10_told lk_X10_132 rfl (by decide) (k_1 hS) (Nat.le_of_ble_eq_true rfl) (WPs.mono k (fun r70 s70 k => ?_))
      exact s_iret dX10_home_73 rfl k
    · have k := k.2 h
      refine r_aload_n dX10_home_25 rfl ?_
      refine r_iconst dX10_home_26 ⟨by decide, by decide⟩ ?_
      refine s_callVv (z := mX10_refused) [vI 2] dX10_home_27 mv_X10_refused lk_X10_112 rfl (by decide) (k_1 hS) (Nat.le_of_ble_eq_true rfl) (WPs.mono k (fun r27 s27 k => ?_))
      exact s_iret dX10_home_30 rfl k
  · have k := k.2 h
    refine r_aload_n dX10_home_7 rfl ?_
    refine r_iconst dX10_home_8 ⟨by decide, by decide⟩ ?_
    refine s_callVv (z := mX10_refused) [vI 1] dX10_home_9 mv_X10_refused lk_X10_112 rfl (by decide) (k_1 hS) (Nat.le_of_ble_eq_true rfl) (WPs.mono k (fun r9 s9 k => ?_))
    exact s_iret dX10_home_12 rfl k
theorem e_X10_join {v1 : Int} {S : ShT} {σ : StT} {Q : Int → StT → Prop} (hS : SHP S) (k : (¬ σ 1 12 = 0 → (v1 < 0 → WPs mX10_refused [vR 1, vI 2] S σ (fun r25 s25 => Q r25 s25)) ∧ (¬ (v1 < 0) → (v1 ≤ 50 → WPs mX2_keep [vR 53, vR 4, vR 51] S σ (fun r41 s41 => (v1 = s41 4 4 → WPs mX10_told [vR 1, vI (s41 40 9)] S s41 (fun r75 s75 => Q r75 s75)) ∧ (¬ (v1 = s41 4 4) → WPs mX10_startPlan [vR 1] S (up2 s41 4 4 v1) (fun r64 s64 => WPs mX10_told [vR 1, vI (s64 40 9)] S s64 (fun r75 s75 => Q r75 s75))))) ∧ (¬ (v1 ≤ 50) → WPs mX10_refused [vR 1, vI 2] S σ (fun r25 s25 => Q r25 s25)))) ∧ (σ 1 12 = 0 → WPs mX10_refused [vR 1, vI 1] S σ (fun r9 s9 => Q r9 s9))) : WPs mX10_join [vR 1, vI v1] S σ Q := by
  refine s_entry (by decide) (Nat.le_of_ble_eq_true rfl) rfl rfl ?_
  refine r_aload_n dX10_join_0 rfl ?_
  refine r_getIv dX10_join_1 fl_X10_93 rfl (k_1 hS) ?_
  refine r_if_ne (tgt := 13) dX10_join_4 rfl (fun h => ?_) (fun h => ?_)
  · have k := k.1 h
    refine r_iload_n dX10_join_13 rfl ?_
    refine r_if_lt (tgt := 23) dX10_join_14 rfl (fun h => ?_) (fun h => ?_)
    · have k := k.1 h
      refine r_aload_n dX10_join_23 rfl ?_
      refine r_iconst dX10_join_24 ⟨by decide, by decide⟩ ?_
      refine s_callVv (z := mX10_refused) [vI 2] dX10_join_25 mv_X10_refused lk_X10_112 rfl (by decide) (k_1 hS) (Nat.le_of_ble_eq_true rfl) (WPs.mono k (fun r25 s25 k => ?_))
      exact s_iret dX10_join_28 rfl k
    · have k := k.2 h
      refine r_iload_n dX10_join_17 rfl ?_
      refine r_bipush dX10_join_18 (by decide +kernel) ⟨by decide, by decide⟩ ?_
      refine r_icmp_le (tgt := 29) dX10_join_20 rfl (fun h => ?_) (fun h => ?_)
      · have k := k.1 h
        refine r_aload_n dX10_join_29 rfl ?_
        refine r_getRv dX10_join_30 fl_X10_71 rfl (k_1 hS) (f_1_7 hS) (by decide) ?_
        refine r_aload_n dX10_join_33 rfl ?_
        refine r_getRv dX10_join_34 fl_X10_19 rfl (k_1 hS) (f_1_1 hS) (by decide) ?_
        refine r_aload_n dX10_join_37 rfl ?_
        refine r_getRv dX10_join_38 fl_X10_64 rfl (k_1 hS) (f_1_6 hS) (by decide) ?_
        refine s_callVv (z := mX2_keep) [vR 4, vR 51] dX10_join_41 mv_X2_keep lk_X10_329 rfl (by decide) (k_53 hS) (Nat.le_of_ble_eq_true rfl) (WPs.mono k (fun r41 s41 k => ?_))
        refine r_iload_n dX10_join_44 rfl ?_
        refine r_aload_n dX10_join_45 rfl ?_
        refine r_getRv dX10_join_46 fl_X10_19 rfl (k_1 hS) (f_1_1 hS) (by decide) ?_
        refine r_getIv dX10_join_49 fl_X10_144 rfl (k_4 hS) ?_
        refine r_icmp_eq (tgt := 67) dX10_join_52 rfl (fun h => ?_) (fun h => ?_)
        · have k := k.1 h
          refine r_aload_n dX10_join_67 rfl ?_
          refine r_aload_n dX10_join_68 rfl ?_
          refine r_getRv dX10_join_69 fl_X10_55 rfl (k_1 hS) (f_1_5 hS) (by decide) ?_
          refine r_getIv dX10_join_72 fl_X10_169 rfl (k_40 hS) ?_
          refine s_callVv (z := mX10_told) [vI (s41 40 9)] dX10_join_75 mv_X10_told lk_X10_132 rfl (by decide) (k_1 hS) (Nat.le_of_ble_eq_true rfl) (WPs.mono k (fun r75 s75 k => ?_))
          exact s_iret dX10_join_78 rfl k
        · have k := k.2 h
          refine r_aload_n dX10_join_55 rfl ?_
          refine r_getRv dX10_join_56 fl_X10_19 rfl (k_1 hS) (f_1_1 hS) (by decide) ?_
          refine r_iload_n dX10_join_59 rfl ?_
          refine r_putIv dX10_join_60 fl_X10_144 (fun _ h => by cases h; rfl) (Or.inl rfl) (k_4 hS) ?_
          refine r_aload_n dX10_join_63 rfl ?_
          refine s_callVv (z := mX10_startPlan) [] dX10_join_64 mv_X10_startPlan lk_X10_126 rfl (by decide) (k_1 hS) (Nat.le_of_ble_eq_true rfl) (WPs.mono k (fun r64 s64 k => ?_))
          refine r_aload_n dX10_join_67 rfl ?_
          refine r_aload_n dX10_join_68 rfl ?_
          refine r_getRv dX10_join_69 fl_X10_55 rfl (k_1 hS) (f_1_5 hS) (by decide) ?_
          refine r_getIv dX10_join_72 fl_X10_169 rfl (k_40 hS) ?_
          refine s_callVv (z := mX10_told) [vI (s64 40 9)] dX10_join_75 mv_X10_told lk_X10_132 rfl (by decide) (k_1 hS) (Nat.le_of_ble_eq_true rfl) (WPs.mono k (fun r75 s75 k => ?_))
          exact s_iret dX10_join_78 rfl k
      · have k := k.2 h
        refine r_aload_n dX10_join_23 rfl ?_
        refine r_iconst dX10_join_24 ⟨by decide, by decide⟩ ?_
        refine s_callVv (z := mX10_refused) [vI 2] dX10_join_25 mv_X10_refused lk_X10_112 rfl (by decide) (k_1 hS) (Nat.le_of_ble_eq_true rfl) (WPs.mono k (fun r25 s25 k => ?_))
        exact s_iret dX10_join_28 rfl k
  · have k := k.2 h
    refine r_aload_n dX10_join_7 rfl ?_
    refine r_iconst dX10_join_8 ⟨by decide, by decide⟩ ?_
    refine s_callVv (z := mX10_refused) [vI 1] dX10_join_9 mv_X10_refused lk_X10_112 rfl (by decide) (k_1 hS) (Nat.le_of_ble_eq_true rfl) (WPs.mono k (fun r9 s9 k => ?_))
    exact s_iret dX10_join_12 rfl k
theorem e_X10_pace {v1 v2 : Int} {S : ShT} {σ : StT} {Q : Int → StT → Prop} (hS : SHP S) (k : (¬ σ 1 12 = 0 → WPs mX10_isPace [vR 1, vI v1] S σ (fun r15 s15 => (r15 = 0 → WPs mX10_refused [vR 1, vI 2] S s15 (fun r31 s31 => Q r31 s31)) ∧ (¬ (r15 = 0) → WPs mX10_isPace [vR 1, vI v2] S s15 (fun r23 s23 => (¬ r23 = 0 → WPs mX2_keep [vR 53, vR 4, vR 51] S s23 (fun r47 s47 => WPs mX5_wholeTime [vR 51] S (up2 (up2 s47 4 7 v1) 4 8 v2) (fun r71 s71 => WPs mX10_told [vR 1, vI r71] S s71 (fun r74 s74 => Q r74 s74)))) ∧ (r23 = 0 → WPs mX10_refused [vR 1, vI 2] S s23 (fun r31 s31 => Q r31 s31)))))) ∧ (σ 1 12 = 0 → WPs mX10_refused [vR 1, vI 1] S σ (fun r9 s9 => Q r9 s9))) : WPs mX10_pace [vR 1, vI v1, vI v2] S σ Q := by
  refine s_entry (by decide) (Nat.le_of_ble_eq_true rfl) rfl rfl ?_
  refine r_aload_n dX10_pace_0 rfl ?_
  refine r_getIv dX10_pace_1 fl_X10_93 rfl (k_1 hS) ?_
  refine r_if_ne (tgt := 13) dX10_pace_4 rfl (fun h => ?_) (fun h => ?_)
  · have k := k.1 h
    refine r_aload_n dX10_pace_13 rfl ?_
    refine r_iload_n dX10_pace_14 rfl ?_
    refine s_callVv (z := mX10_isPace) [vI v1] dX10_pace_15 mv_X10_isPace lk_X10_337 rfl (by decide) (k_1 hS) (Nat.le_of_ble_eq_true rfl) (WPs.mono k (fun r15 s15 k => ?_))
    refine r_if_eq (tgt := 29) dX10_pace_18 rfl (fun h => ?_) (fun h => ?_)
    · have k := k.1 h
      refine r_aload_n dX10_pace_29 rfl ?_
      refine r_iconst dX10_pace_30 ⟨by decide, by decide⟩ ?_
      refine s_callVv (z := mX10_refused) [vI 2] dX10_pace_31 mv_X10_refused lk_X10_112 rfl (by decide) (k_1 hS) (Nat.le_of_ble_eq_true rfl) (WPs.mono k (fun r31 s31 k => ?_))
      exact s_iret dX10_pace_34 rfl k
    · have k := k.2 h
      refine r_aload_n dX10_pace_21 rfl ?_
      refine r_iload_n dX10_pace_22 rfl ?_
      refine s_callVv (z := mX10_isPace) [vI v2] dX10_pace_23 mv_X10_isPace lk_X10_337 rfl (by decide) (k_1 hS) (Nat.le_of_ble_eq_true rfl) (WPs.mono k (fun r23 s23 k => ?_))
      refine r_if_ne (tgt := 35) dX10_pace_26 rfl (fun h => ?_) (fun h => ?_)
      · have k := k.1 h
        refine r_aload_n dX10_pace_35 rfl ?_
        refine r_getRv dX10_pace_36 fl_X10_71 rfl (k_1 hS) (f_1_7 hS) (by decide) ?_
        refine r_aload_n dX10_pace_39 rfl ?_
        refine r_getRv dX10_pace_40 fl_X10_19 rfl (k_1 hS) (f_1_1 hS) (by decide) ?_
        refine r_aload_n dX10_pace_43 rfl ?_
        refine r_getRv dX10_pace_44 fl_X10_64 rfl (k_1 hS) (f_1_6 hS) (by decide) ?_
        refine s_callVv (z := mX2_keep) [vR 4, vR 51] dX10_pace_47 mv_X2_keep lk_X10_329 rfl (by decide) (k_53 hS) (Nat.le_of_ble_eq_true rfl) (WPs.mono k (fun r47 s47 k => ?_))
        refine r_aload_n dX10_pace_50 rfl ?_
        refine r_getRv dX10_pace_51 fl_X10_19 rfl (k_1 hS) (f_1_1 hS) (by decide) ?_
        refine r_iload_n dX10_pace_54 rfl ?_
        refine r_putIv dX10_pace_55 fl_X10_153 (fun _ h => by cases h; rfl) (Or.inl rfl) (k_4 hS) ?_
        refine r_aload_n dX10_pace_58 rfl ?_
        refine r_getRv dX10_pace_59 fl_X10_19 rfl (k_1 hS) (f_1_1 hS) (by decide) ?_
        refine r_iload_n dX10_pace_62 rfl ?_
        refine r_putIv dX10_pace_63 fl_X10_156 (fun _ h => by cases h; rfl) (Or.inl rfl) (k_4 hS) ?_
        refine r_aload_n dX10_pace_66 rfl ?_
        refine r_aload_n dX10_pace_67 rfl ?_
        refine r_getRv dX10_pace_68 fl_X10_64 rfl (k_1 hS) (f_1_6 hS) (by decide) ?_
        refine s_callVv (z := mX5_wholeTime) [] dX10_pace_71 mv_X5_wholeTime lk_X10_290 rfl (by decide) (k_51 hS) (Nat.le_of_ble_eq_true rfl) (WPs.mono k (fun r71 s71 k => ?_))
        refine s_callVv (z := mX10_told) [vI r71] dX10_pace_74 mv_X10_told lk_X10_132 rfl (by decide) (k_1 hS) (Nat.le_of_ble_eq_true rfl) (WPs.mono k (fun r74 s74 k => ?_))
        exact s_iret dX10_pace_77 rfl k
      · have k := k.2 h
        refine r_aload_n dX10_pace_29 rfl ?_
        refine r_iconst dX10_pace_30 ⟨by decide, by decide⟩ ?_
        refine s_callVv (z := mX10_refused) [vI 2] dX10_pace_31 mv_X10_refused lk_X10_112 rfl (by decide) (k_1 hS) (Nat.le_of_ble_eq_true rfl) (WPs.mono k (fun r31 s31 k => ?_))
        exact s_iret dX10_pace_34 rfl k
  · have k := k.2 h
    refine r_aload_n dX10_pace_7 rfl ?_
    refine r_iconst dX10_pace_8 ⟨by decide, by decide⟩ ?_
    refine s_callVv (z := mX10_refused) [vI 1] dX10_pace_9 mv_X10_refused lk_X10_112 rfl (by decide) (k_1 hS) (Nat.le_of_ble_eq_true rfl) (WPs.mono k (fun r9 s9 k => ?_))
    exact s_iret dX10_pace_12 rfl k
theorem e_X10_exchange {v1 v2 : Int} {S : ShT} {σ : StT} {Q : Int → StT → Prop} (hS : SHP S) (k : WPs mX10_hasPlace [vR 1, vI v1] S σ (fun r2 s2 => (r2 = 0 → WPs mX10_refused [vR 1, vI 1] S s2 (fun r18 s18 => Q r18 s18)) ∧ (¬ (r2 = 0) → WPs mX10_hasPlace [vR 1, vI v2] S s2 (fun r10 s10 => (¬ r10 = 0 → (v1 ≤ v2 → WPs mX2_keep [vR 53, vR 4, vR 51] S s10 (fun r45 s45 => WPs mX5_turnRun [vR 51, vI v1, vI v2] S s45 (fun r54 s54 => WPs mX5_wholeTravel [vR 51] S s54 (fun r62 s62 => WPs mX10_told [vR 1, vI r62] S s62 (fun r65 s65 => Q r65 s65))))) ∧ (¬ (v1 ≤ v2) → WPs mX10_refused [vR 1, vI 2] S s10 (fun r29 s29 => Q r29 s29))) ∧ (r10 = 0 → WPs mX10_refused [vR 1, vI 1] S s10 (fun r18 s18 => Q r18 s18)))))) : WPs mX10_exchange [vR 1, vI v1, vI v2] S σ Q := by
  refine s_entry (by decide) (Nat.le_of_ble_eq_true rfl) rfl rfl ?_
  refine r_aload_n dX10_exchange_0 rfl ?_
  refine r_iload_n dX10_exchange_1 rfl ?_
  refine s_callVv (z := mX10_hasPlace) [vI v1] dX10_exchange_2 mv_X10_hasPlace lk_X10_244 rfl (by decide) (k_1 hS) (Nat.le_of_ble_eq_true rfl) (WPs.mono k (fun r2 s2 k => ?_))
  refine r_if_eq (tgt := 16) dX10_exchange_5 rfl (fun h => ?_) (fun h => ?_)
  · have k := k.1 h
    refine r_aload_n dX10_exchange_16 rfl ?_
    refine r_iconst dX10_exchange_17 ⟨by decide, by decide⟩ ?_
    refine s_callVv (z := mX10_refused) [vI 1] dX10_exchange_18 mv_X10_refused lk_X10_112 rfl (by decide) (k_1 hS) (Nat.le_of_ble_eq_true rfl) (WPs.mono k (fun r18 s18 k => ?_))
    exact s_iret dX10_exchange_21 rfl k
  · have k := k.2 h
    refine r_aload_n dX10_exchange_8 rfl ?_
    refine r_iload_n dX10_exchange_9 rfl ?_
    refine s_callVv (z := mX10_hasPlace) [vI v2] dX10_exchange_10 mv_X10_hasPlace lk_X10_244 rfl (by decide) (k_1 hS) (Nat.le_of_ble_eq_true rfl) (WPs.mono k (fun r10 s10 k => ?_))
    refine r_if_ne (tgt := 22) dX10_exchange_13 rfl (fun h => ?_) (fun h => ?_)
    · have k := k.1 h
      refine r_iload_n dX10_exchange_22 rfl ?_
      refine r_iload_n dX10_exchange_23 rfl ?_
      refine r_icmp_le (tgt := 33) dX10_exchange_24 rfl (fun h => ?_) (fun h => ?_)
      · have k := k.1 h
        refine r_aload_n dX10_exchange_33 rfl ?_
        refine r_getRv dX10_exchange_34 fl_X10_71 rfl (k_1 hS) (f_1_7 hS) (by decide) ?_
        refine r_aload_n dX10_exchange_37 rfl ?_
        refine r_getRv dX10_exchange_38 fl_X10_19 rfl (k_1 hS) (f_1_1 hS) (by decide) ?_
        refine r_aload_n dX10_exchange_41 rfl ?_
        refine r_getRv dX10_exchange_42 fl_X10_64 rfl (k_1 hS) (f_1_6 hS) (by decide) ?_
        refine s_callVv (z := mX2_keep) [vR 4, vR 51] dX10_exchange_45 mv_X2_keep lk_X10_329 rfl (by decide) (k_53 hS) (Nat.le_of_ble_eq_true rfl) (WPs.mono k (fun r45 s45 k => ?_))
        refine r_aload_n dX10_exchange_48 rfl ?_
        refine r_getRv dX10_exchange_49 fl_X10_64 rfl (k_1 hS) (f_1_6 hS) (by decide) ?_
        refine r_iload_n dX10_exchange_52 rfl ?_
        refine r_iload_n dX10_exchange_53 rfl ?_
        refine s_callVv (z := mX5_turnRun) [vI v1, vI v2] dX10_exchange_54 mv_X5_turnRun lk_X10_340 rfl (by decide) (k_51 hS) (Nat.le_of_ble_eq_true rfl) (WPs.mono k (fun r54 s54 k => ?_))
        refine r_aload_n dX10_exchange_57 rfl ?_
        refine r_aload_n dX10_exchange_58 rfl ?_
        refine r_getRv dX10_exchange_59 fl_X10_64 rfl (k_1 hS) (f_1_6 hS) (by decide) ?_
        refine s_callVv (z := mX5_wholeTravel) [] dX10_exchange_62 mv_X5_wholeTravel lk_X10_269 rfl (by decide) (k_51 hS) (Nat.le_of_ble_eq_true rfl) (WPs.mono k (fun r62 s62 k => ?_))
        refine s_callVv (z := mX10_told) [vI r62] dX10_exchange_65 mv_X10_told lk_X10_132 rfl (by decide) (k_1 hS) (Nat.le_of_ble_eq_true rfl) (WPs.mono k (fun r65 s65 k => ?_))
        exact s_iret dX10_exchange_68 rfl k
      · have k := k.2 h
        refine r_aload_n dX10_exchange_27 rfl ?_
        refine r_iconst dX10_exchange_28 ⟨by decide, by decide⟩ ?_
        refine s_callVv (z := mX10_refused) [vI 2] dX10_exchange_29 mv_X10_refused lk_X10_112 rfl (by decide) (k_1 hS) (Nat.le_of_ble_eq_true rfl) (WPs.mono k (fun r29 s29 k => ?_))
        exact s_iret dX10_exchange_32 rfl k
    · have k := k.2 h
      refine r_aload_n dX10_exchange_16 rfl ?_
      refine r_iconst dX10_exchange_17 ⟨by decide, by decide⟩ ?_
      refine s_callVv (z := mX10_refused) [vI 1] dX10_exchange_18 mv_X10_refused lk_X10_112 rfl (by decide) (k_1 hS) (Nat.le_of_ble_eq_true rfl) (WPs.mono k (fun r18 s18 k => ?_))
      exact s_iret dX10_exchange_21 rfl k
theorem e_X10_improve {S : ShT} {σ : StT} {Q : Int → StT → Prop} (hS : SHP S) (k : (¬ σ 1 12 = 0 → WPs mX5_copy [vR 122, vR 51] S σ (fun r21 s21 => WPs mX5_makeBetter [vR 122] S s21 (fun r28 s28 => (¬ r28 = 0 → WPs mX2_keep [vR 53, vR 4, vR 51] S s28 (fun r52 s52 => WPs mX5_copy [vR 51, vR 122] S s52 (fun r63 s63 => WPs mX5_wholeTravel [vR 51] S s63 (fun r71 s71 => WPs mX10_told [vR 1, vI r71] S s71 (fun r74 s74 => Q r74 s74))))) ∧ (r28 = 0 → WPs mX10_refused [vR 1, vI 5] S s28 (fun r36 s36 => Q r36 s36))))) ∧ (σ 1 12 = 0 → WPs mX10_refused [vR 1, vI 1] S σ (fun r9 s9 => Q r9 s9))) : WPs mX10_improve [vR 1] S σ Q := by
  refine s_entry (by decide) (Nat.le_of_ble_eq_true rfl) rfl rfl ?_
  refine r_aload_n dX10_improve_0 rfl ?_
  refine r_getIv dX10_improve_1 fl_X10_93 rfl (k_1 hS) ?_
  refine r_if_ne (tgt := 13) dX10_improve_4 rfl (fun h => ?_) (fun h => ?_)
  · have k := k.1 h
    refine r_aload_n dX10_improve_13 rfl ?_
    refine r_getRv dX10_improve_14 fl_X10_81 rfl (k_1 hS) (f_1_10 hS) (by decide) ?_
    refine r_aload_n dX10_improve_17 rfl ?_
    refine r_getRv dX10_improve_18 fl_X10_64 rfl (k_1 hS) (f_1_6 hS) (by decide) ?_
    refine s_callVv (z := mX5_copy) [vR 51] dX10_improve_21 mv_X5_copy lk_X10_275 rfl (by decide) (k_122 hS) (Nat.le_of_ble_eq_true rfl) (WPs.mono k (fun r21 s21 k => ?_))
    refine r_aload_n dX10_improve_24 rfl ?_
    refine r_getRv dX10_improve_25 fl_X10_81 rfl (k_1 hS) (f_1_10 hS) (by decide) ?_
    refine s_callVv (z := mX5_makeBetter) [] dX10_improve_28 mv_X5_makeBetter lk_X10_278 rfl (by decide) (k_122 hS) (Nat.le_of_ble_eq_true rfl) (WPs.mono k (fun r28 s28 k => ?_))
    refine r_if_ne (tgt := 40) dX10_improve_31 rfl (fun h => ?_) (fun h => ?_)
    · have k := k.1 h
      refine r_aload_n dX10_improve_40 rfl ?_
      refine r_getRv dX10_improve_41 fl_X10_71 rfl (k_1 hS) (f_1_7 hS) (by decide) ?_
      refine r_aload_n dX10_improve_44 rfl ?_
      refine r_getRv dX10_improve_45 fl_X10_19 rfl (k_1 hS) (f_1_1 hS) (by decide) ?_
      refine r_aload_n dX10_improve_48 rfl ?_
      refine r_getRv dX10_improve_49 fl_X10_64 rfl (k_1 hS) (f_1_6 hS) (by decide) ?_
      refine s_callVv (z := mX2_keep) [vR 4, vR 51] dX10_improve_52 mv_X2_keep lk_X10_329 rfl (by decide) (k_53 hS) (Nat.le_of_ble_eq_true rfl) (WPs.mono k (fun r52 s52 k => ?_))
      refine r_aload_n dX10_improve_55 rfl ?_
      refine r_getRv dX10_improve_56 fl_X10_64 rfl (k_1 hS) (f_1_6 hS) (by decide) ?_
      refine r_aload_n dX10_improve_59 rfl ?_
      refine r_getRv dX10_improve_60 fl_X10_81 rfl (k_1 hS) (f_1_10 hS) (by decide) ?_
      refine s_callVv (z := mX5_copy) [vR 122] dX10_improve_63 mv_X5_copy lk_X10_275 rfl (by decide) (k_51 hS) (Nat.le_of_ble_eq_true rfl) (WPs.mono k (fun r63 s63 k => ?_))
      refine r_aload_n dX10_improve_66 rfl ?_
      refine r_aload_n dX10_improve_67 rfl ?_
      refine r_getRv dX10_improve_68 fl_X10_64 rfl (k_1 hS) (f_1_6 hS) (by decide) ?_
      refine s_callVv (z := mX5_wholeTravel) [] dX10_improve_71 mv_X5_wholeTravel lk_X10_269 rfl (by decide) (k_51 hS) (Nat.le_of_ble_eq_true rfl) (WPs.mono k (fun r71 s71 k => ?_))
      refine s_callVv (z := mX10_told) [vI r71] dX10_improve_74 mv_X10_told lk_X10_132 rfl (by decide) (k_1 hS) (Nat.le_of_ble_eq_true rfl) (WPs.mono k (fun r74 s74 k => ?_))
      exact s_iret dX10_improve_77 rfl k
    · have k := k.2 h
      refine r_aload_n dX10_improve_34 rfl ?_
      refine r_iconst dX10_improve_35 ⟨by decide, by decide⟩ ?_
      refine s_callVv (z := mX10_refused) [vI 5] dX10_improve_36 mv_X10_refused lk_X10_112 rfl (by decide) (k_1 hS) (Nat.le_of_ble_eq_true rfl) (WPs.mono k (fun r36 s36 k => ?_))
      exact s_iret dX10_improve_39 rfl k
  · have k := k.2 h
    refine r_aload_n dX10_improve_7 rfl ?_
    refine r_iconst dX10_improve_8 ⟨by decide, by decide⟩ ?_
    refine s_callVv (z := mX10_refused) [vI 1] dX10_improve_9 mv_X10_refused lk_X10_112 rfl (by decide) (k_1 hS) (Nat.le_of_ble_eq_true rfl) (WPs.mono k (fun r9 s9 k => ?_))
    exact s_iret dX10_improve_12 rfl k
theorem e_X10_undo {S : ShT} {σ : StT} {Q : Int → StT → Prop} (hS : SHP S) (k : (¬ σ 53 3 = 0 → WPs mX2_takeBack [vR 53, vR 4, vR 122] S σ (fun r30 s30 => WPs mX10_startPlan [vR 1] S s30 (fun r34 s34 => WPs mX5_copy [vR 51, vR 122] S s34 (fun r45 s45 => WPs mX10_told [vR 1, vI 0] S s45 (fun r50 s50 => Q 1 s50))))) ∧ (σ 53 3 = 0 → WPs mX10_refused [vR 1, vI 1] S σ (fun r12 s12 => Q 0 s12))) : WPs mX10_undo [vR 1] S σ Q := by
  refine s_entry (by decide) (Nat.le_of_ble_eq_true rfl) rfl rfl ?_
  refine r_aload_n dX10_undo_0 rfl ?_
  refine r_getRv dX10_undo_1 fl_X10_71 rfl (k_1 hS) (f_1_7 hS) (by decide) ?_
  refine r_getIv dX10_undo_4 fl_X10_344 rfl (k_53 hS) ?_
  refine r_if_ne (tgt := 18) dX10_undo_7 rfl (fun h => ?_) (fun h => ?_)
  · have k := k.1 h
    refine r_aload_n dX10_undo_18 rfl ?_
    refine r_getRv dX10_undo_19 fl_X10_71 rfl (k_1 hS) (f_1_7 hS) (by decide) ?_
    refine r_aload_n dX10_undo_22 rfl ?_
    refine r_getRv dX10_undo_23 fl_X10_19 rfl (k_1 hS) (f_1_1 hS) (by decide) ?_
    refine r_aload_n dX10_undo_26 rfl ?_
    refine r_getRv dX10_undo_27 fl_X10_81 rfl (k_1 hS) (f_1_10 hS) (by decide) ?_
    refine s_callVv (z := mX2_takeBack) [vR 4, vR 122] dX10_undo_30 mv_X2_takeBack lk_X10_347 rfl (by decide) (k_53 hS) (Nat.le_of_ble_eq_true rfl) (WPs.mono k (fun r30 s30 k => ?_))
    refine r_aload_n dX10_undo_33 rfl ?_
    refine s_callVv (z := mX10_startPlan) [] dX10_undo_34 mv_X10_startPlan lk_X10_126 rfl (by decide) (k_1 hS) (Nat.le_of_ble_eq_true rfl) (WPs.mono k (fun r34 s34 k => ?_))
    refine r_aload_n dX10_undo_37 rfl ?_
    refine r_getRv dX10_undo_38 fl_X10_64 rfl (k_1 hS) (f_1_6 hS) (by decide) ?_
    refine r_aload_n dX10_undo_41 rfl ?_
    refine r_getRv dX10_undo_42 fl_X10_81 rfl (k_1 hS) (f_1_10 hS) (by decide) ?_
    refine s_callVv (z := mX5_copy) [vR 122] dX10_undo_45 mv_X5_copy lk_X10_275 rfl (by decide) (k_51 hS) (Nat.le_of_ble_eq_true rfl) (WPs.mono k (fun r45 s45 k => ?_))
    refine r_aload_n dX10_undo_48 rfl ?_
    refine r_iconst dX10_undo_49 ⟨by decide, by decide⟩ ?_
    refine s_callVv (z := mX10_told) [vI 0] dX10_undo_50 mv_X10_told lk_X10_132 rfl (by decide) (k_1 hS) (Nat.le_of_ble_eq_true rfl) (WPs.mono k (fun r50 s50 k => ?_))
    refine r_pop dX10_undo_53 rfl ?_
    refine r_iconst dX10_undo_54 ⟨by decide, by decide⟩ ?_
    exact s_zret dX10_undo_55 rfl (by decide) k
  · have k := k.2 h
    refine r_aload_n dX10_undo_10 rfl ?_
    refine r_iconst dX10_undo_11 ⟨by decide, by decide⟩ ?_
    refine s_callVv (z := mX10_refused) [vI 1] dX10_undo_12 mv_X10_refused lk_X10_112 rfl (by decide) (k_1 hS) (Nat.le_of_ble_eq_true rfl) (WPs.mono k (fun r12 s12 k => ?_))
    refine r_pop dX10_undo_15 rfl ?_
    refine r_iconst dX10_undo_16 ⟨by decide, by decide⟩ ?_
    exact s_zret dX10_undo_17 rfl (by decide) k
theorem e_X10_size {v1 : Int} {S : ShT} {σ : StT} {Q : Int → StT → Prop} (hS : SHP S) (k : (v1 < 0 ∨ 2 < v1 → Q (-1) σ) ∧ (v1 = 0 → Q (σ 2 1) σ) ∧ (v1 = 1 → Q (σ 53 3) σ) ∧ (v1 = 2 → (σ 1 12 = 0 → Q 0 σ) ∧ (¬ (σ 1 12 = 0) → Q (σ 20 6) σ))) : WPs mX10_size [vR 1, vI v1] S σ Q := by
  refine s_entry (by decide) (Nat.le_of_ble_eq_true rfl) rfl rfl ?_
  refine r_iload_n dX10_size_0 rfl ?_
  refine r_tsw (dt := 63) [28, 36, 44] dX10_size_1 rfl (by decide +kernel) rfl (fun h => ?_) ⟨fun h => ?_, fun h => ?_, fun h => ?_, trivial⟩
  · have k := k.1 h
    refine r_iconst dX10_size_63 ⟨by decide, by decide⟩ ?_
    exact s_iret dX10_size_64 rfl k
  · have k := k.2.1 h
    refine r_aload_n dX10_size_28 rfl ?_
    refine r_getRv dX10_size_29 fl_X10_12 rfl (k_1 hS) (f_1_0 hS) (by decide) ?_
    refine r_getIv dX10_size_32 fl_X10_109 rfl (k_2 hS) ?_
    exact s_iret dX10_size_35 rfl k
  · have k := k.2.2.1 h
    refine r_aload_n dX10_size_36 rfl ?_
    refine r_getRv dX10_size_37 fl_X10_71 rfl (k_1 hS) (f_1_7 hS) (by decide) ?_
    refine r_getIv dX10_size_40 fl_X10_344 rfl (k_53 hS) ?_
    exact s_iret dX10_size_43 rfl k
  · have k := k.2.2.2 h
    refine r_aload_n dX10_size_44 rfl ?_
    refine r_getIv dX10_size_45 fl_X10_93 rfl (k_1 hS) ?_
    refine r_if_eq (tgt := 61) dX10_size_48 rfl (fun h => ?_) (fun h => ?_)
    · have k := k.1 h
      refine r_iconst dX10_size_61 ⟨by decide, by decide⟩ ?_
      exact s_iret dX10_size_62 rfl k
    · have k := k.2 h
      refine r_aload_n dX10_size_51 rfl ?_
      refine r_getRv dX10_size_52 fl_X10_37 rfl (k_1 hS) (f_1_3 hS) (by decide) ?_
      refine r_getIv dX10_size_55 fl_X10_223 rfl (k_20 hS) ?_
      refine r_goto (tgt := 62) dX10_size_58 rfl ?_
      exact s_iret dX10_size_62 rfl k
theorem e_X10_trouble {S : ShT} {σ : StT} {Q : Int → StT → Prop} (hS : SHP S) (k : Q (σ 1 13) σ) : WPs mX10_trouble [vR 1] S σ Q := by
  refine s_entry (by decide) (Nat.le_of_ble_eq_true rfl) rfl rfl ?_
  refine r_aload_n dX10_trouble_0 rfl ?_
  refine r_getIv dX10_trouble_1 fl_X10_97 rfl (k_1 hS) ?_
  exact s_iret dX10_trouble_4 rfl k
theorem e_X10_told {v1 : Int} {S : ShT} {σ : StT} {Q : Int → StT → Prop} (hS : SHP S) (k : Q v1 (up2 σ 1 13 0)) : WPs mX10_told [vR 1, vI v1] S σ Q := by
  refine s_entry (by decide) (Nat.le_of_ble_eq_true rfl) rfl rfl ?_
  refine r_aload_n dX10_told_0 rfl ?_
  refine r_iconst dX10_told_1 ⟨by decide, by decide⟩ ?_
  refine r_putIv dX10_told_2 fl_X10_97 (fun _ h => by cases h; rfl) (Or.inl rfl) (k_1 hS) ?_
  refine r_iload_n dX10_told_5 rfl ?_
  exact s_iret dX10_told_6 rfl k
theorem e_X10_refused {v1 : Int} {S : ShT} {σ : StT} {Q : Int → StT → Prop} (hS : SHP S) (k : Q (-1) (up2 σ 1 13 v1)) : WPs mX10_refused [vR 1, vI v1] S σ Q := by
  refine s_entry (by decide) (Nat.le_of_ble_eq_true rfl) rfl rfl ?_
  refine r_aload_n dX10_refused_0 rfl ?_
  refine r_iload_n dX10_refused_1 rfl ?_
  refine r_putIv dX10_refused_2 fl_X10_97 (fun _ h => by cases h; rfl) (Or.inl rfl) (k_1 hS) ?_
  refine r_iconst dX10_refused_5 ⟨by decide, by decide⟩ ?_
  exact s_iret dX10_refused_6 rfl k
theorem e_X10_hasStroke {v1 : Int} {S : ShT} {σ : StT} {Q : Int → StT → Prop} (hS : SHP S) (k : (σ 1 12 = 0 → Q 0 σ) ∧ (¬ (σ 1 12 = 0) → (v1 < 0 → Q 0 σ) ∧ (¬ (v1 < 0) → (σ 4 2 ≤ v1 → Q 0 σ) ∧ (¬ (σ 4 2 ≤ v1) → Q 1 σ)))) : WPs mX10_hasStroke [vR 1, vI v1] S σ Q := by
  refine s_entry (by decide) (Nat.le_of_ble_eq_true rfl) rfl rfl ?_
  refine r_aload_n dX10_hasStroke_0 rfl ?_
  refine r_getIv dX10_hasStroke_1 fl_X10_93 rfl (k_1 hS) ?_
  refine r_if_eq (tgt := 26) dX10_hasStroke_4 rfl (fun h => ?_) (fun h => ?_)
  · have k := k.1 h
    refine r_iconst dX10_hasStroke_26 ⟨by decide, by decide⟩ ?_
    exact s_zret dX10_hasStroke_27 rfl (by decide) k
  · have k := k.2 h
    refine r_iload_n dX10_hasStroke_7 rfl ?_
    refine r_if_lt (tgt := 26) dX10_hasStroke_8 rfl (fun h => ?_) (fun h => ?_)
    · have k := k.1 h
      refine r_iconst dX10_hasStroke_26 ⟨by decide, by decide⟩ ?_
      exact s_zret dX10_hasStroke_27 rfl (by decide) k
    · have k := k.2 h
      refine r_iload_n dX10_hasStroke_11 rfl ?_
      refine r_aload_n dX10_hasStroke_12 rfl ?_
      refine r_getRv dX10_hasStroke_13 fl_X10_19 rfl (k_1 hS) (f_1_1 hS) (by decide) ?_
      refine r_getIv dX10_hasStroke_16 fl_X10_129 rfl (k_4 hS) ?_
      refine r_icmp_ge (tgt := 26) dX10_hasStroke_19 rfl (fun h => ?_) (fun h => ?_)
      · have k := k.1 h
        refine r_iconst dX10_hasStroke_26 ⟨by decide, by decide⟩ ?_
        exact s_zret dX10_hasStroke_27 rfl (by decide) k
      · have k := k.2 h
        refine r_iconst dX10_hasStroke_22 ⟨by decide, by decide⟩ ?_
        refine r_goto (tgt := 27) dX10_hasStroke_23 rfl ?_
        exact s_zret dX10_hasStroke_27 rfl (by decide) k
theorem e_X10_hasPart {v1 : Int} {S : ShT} {σ : StT} {Q : Int → StT → Prop} (hS : SHP S) (k : (σ 1 12 = 0 → Q 0 σ) ∧ (¬ (σ 1 12 = 0) → (v1 < 0 → Q 0 σ) ∧ (¬ (v1 < 0) → WPs mX3_parts [vR 7] S σ (fun r16 s16 => (r16 ≤ v1 → Q 0 s16) ∧ (¬ (r16 ≤ v1) → Q 1 s16))))) : WPs mX10_hasPart [vR 1, vI v1] S σ Q := by
  refine s_entry (by decide) (Nat.le_of_ble_eq_true rfl) rfl rfl ?_
  refine r_aload_n dX10_hasPart_0 rfl ?_
  refine r_getIv dX10_hasPart_1 fl_X10_93 rfl (k_1 hS) ?_
  refine r_if_eq (tgt := 26) dX10_hasPart_4 rfl (fun h => ?_) (fun h => ?_)
  · have k := k.1 h
    refine r_iconst dX10_hasPart_26 ⟨by decide, by decide⟩ ?_
    exact s_zret dX10_hasPart_27 rfl (by decide) k
  · have k := k.2 h
    refine r_iload_n dX10_hasPart_7 rfl ?_
    refine r_if_lt (tgt := 26) dX10_hasPart_8 rfl (fun h => ?_) (fun h => ?_)
    · have k := k.1 h
      refine r_iconst dX10_hasPart_26 ⟨by decide, by decide⟩ ?_
      exact s_zret dX10_hasPart_27 rfl (by decide) k
    · have k := k.2 h
      refine r_iload_n dX10_hasPart_11 rfl ?_
      refine r_aload_n dX10_hasPart_12 rfl ?_
      refine r_getRv dX10_hasPart_13 fl_X10_28 rfl (k_1 hS) (f_1_2 hS) (by decide) ?_
      refine s_callVv (z := mX3_parts) [] dX10_hasPart_16 mv_X3_parts lk_X10_163 rfl (by decide) (k_7 hS) (Nat.le_of_ble_eq_true rfl) (WPs.mono k (fun r16 s16 k => ?_))
      refine r_icmp_ge (tgt := 26) dX10_hasPart_19 rfl (fun h => ?_) (fun h => ?_)
      · have k := k.1 h
        refine r_iconst dX10_hasPart_26 ⟨by decide, by decide⟩ ?_
        exact s_zret dX10_hasPart_27 rfl (by decide) k
      · have k := k.2 h
        refine r_iconst dX10_hasPart_22 ⟨by decide, by decide⟩ ?_
        refine r_goto (tgt := 27) dX10_hasPart_23 rfl ?_
        exact s_zret dX10_hasPart_27 rfl (by decide) k
theorem e_X10_hasPlace {v1 : Int} {S : ShT} {σ : StT} {Q : Int → StT → Prop} (hS : SHP S) (k : (σ 1 12 = 0 → Q 0 σ) ∧ (¬ (σ 1 12 = 0) → (v1 < 0 → Q 0 σ) ∧ (¬ (v1 < 0) → (σ 51 4 ≤ v1 → Q 0 σ) ∧ (¬ (σ 51 4 ≤ v1) → Q 1 σ)))) : WPs mX10_hasPlace [vR 1, vI v1] S σ Q := by
  refine s_entry (by decide) (Nat.le_of_ble_eq_true rfl) rfl rfl ?_
  refine r_aload_n dX10_hasPlace_0 rfl ?_
  refine r_getIv dX10_hasPlace_1 fl_X10_93 rfl (k_1 hS) ?_
  refine r_if_eq (tgt := 26) dX10_hasPlace_4 rfl (fun h => ?_) (fun h => ?_)
  · have k := k.1 h
    refine r_iconst dX10_hasPlace_26 ⟨by decide, by decide⟩ ?_
    exact s_zret dX10_hasPlace_27 rfl (by decide) k
  · have k := k.2 h
    refine r_iload_n dX10_hasPlace_7 rfl ?_
    refine r_if_lt (tgt := 26) dX10_hasPlace_8 rfl (fun h => ?_) (fun h => ?_)
    · have k := k.1 h
      refine r_iconst dX10_hasPlace_26 ⟨by decide, by decide⟩ ?_
      exact s_zret dX10_hasPlace_27 rfl (by decide) k
    · have k := k.2 h
      refine r_iload_n dX10_hasPlace_11 rfl ?_
      refine r_aload_n dX10_hasPlace_12 rfl ?_
      refine r_getRv dX10_hasPlace_13 fl_X10_64 rfl (k_1 hS) (f_1_6 hS) (by decide) ?_
      refine r_getIv dX10_hasPlace_16 fl_X10_360 rfl (k_51 hS) ?_
      refine r_icmp_ge (tgt := 26) dX10_hasPlace_19 rfl (fun h => ?_) (fun h => ?_)
      · have k := k.1 h
        refine r_iconst dX10_hasPlace_26 ⟨by decide, by decide⟩ ?_
        exact s_zret dX10_hasPlace_27 rfl (by decide) k
      · have k := k.2 h
        refine r_iconst dX10_hasPlace_22 ⟨by decide, by decide⟩ ?_
        refine r_goto (tgt := 27) dX10_hasPlace_23 rfl ?_
        exact s_zret dX10_hasPlace_27 rfl (by decide) k
theorem e_X10_isPace {v1 : Int} {S : ShT} {σ : StT} {Q : Int → StT → Prop} (hS : SHP S) (k : (v1 < 1 → Q 0 σ) ∧ (¬ (v1 < 1) → (9 < v1 → Q 0 σ) ∧ (¬ (9 < v1) → Q 1 σ))) : WPs mX10_isPace [vR 1, vI v1] S σ Q := by
  refine s_entry (by decide) (Nat.le_of_ble_eq_true rfl) rfl rfl ?_
  refine r_iload_n dX10_isPace_0 rfl ?_
  refine r_iconst dX10_isPace_1 ⟨by decide, by decide⟩ ?_
  refine r_icmp_lt (tgt := 15) dX10_isPace_2 rfl (fun h => ?_) (fun h => ?_)
  · have k := k.1 h
    refine r_iconst dX10_isPace_15 ⟨by decide, by decide⟩ ?_
    exact s_zret dX10_isPace_16 rfl (by decide) k
  · have k := k.2 h
    refine r_iload_n dX10_isPace_5 rfl ?_
    refine r_bipush dX10_isPace_6 (by decide +kernel) ⟨by decide, by decide⟩ ?_
    refine r_icmp_gt (tgt := 15) dX10_isPace_8 rfl (fun h => ?_) (fun h => ?_)
    · have k := k.1 h
      refine r_iconst dX10_isPace_15 ⟨by decide, by decide⟩ ?_
      exact s_zret dX10_isPace_16 rfl (by decide) k
    · have k := k.2 h
      refine r_iconst dX10_isPace_11 ⟨by decide, by decide⟩ ?_
      refine r_goto (tgt := 16) dX10_isPace_12 rfl ?_
      exact s_zret dX10_isPace_16 rfl (by decide) k
theorem e_X10_whyNoStroke {v1 v2 v3 v4 : Int} {S : ShT} {σ : StT} {Q : Int → StT → Prop} (hS : SHP S) (k : (¬ σ 1 12 = 0 → WPs mX0_hasPoint [vR 4, vI v1, vI v2] S σ (fun r15 s15 => (r15 = 0 → Q 2 s15) ∧ (¬ (r15 = 0) → WPs mX0_hasPoint [vR 4, vI v3, vI v4] S s15 (fun r28 s28 => (r28 = 0 → Q 2 s28) ∧ (¬ (r28 = 0) → (¬ v1 = v3 → AWs mX10_whyNoStroke 47 [(0, vR 1)] [] S s28 Q) ∧ (v1 = v3 → (¬ v2 = v4 → AWs mX10_whyNoStroke 47 [(0, vR 1)] [] S s28 Q) ∧ (v2 = v4 → Q 2 s28))))))) ∧ (σ 1 12 = 0 → Q 1 σ)) : WPs mX10_whyNoStroke [vR 1, vI v1, vI v2, vI v3, vI v4] S σ Q := by
  refine s_entry (by decide) (Nat.le_of_ble_eq_true rfl) rfl rfl ?_
  refine r_aload_n dX10_whyNoStroke_0 rfl ?_
  refine r_getIv dX10_whyNoStroke_1 fl_X10_93 rfl (k_1 hS) ?_
  refine r_if_ne (tgt := 9) dX10_whyNoStroke_4 rfl (fun h => ?_) (fun h => ?_)
  · have k := k.1 h
    refine r_aload_n dX10_whyNoStroke_9 rfl ?_
    refine r_getRv dX10_whyNoStroke_10 fl_X10_19 rfl (k_1 hS) (f_1_1 hS) (by decide) ?_
    refine r_iload_n dX10_whyNoStroke_13 rfl ?_
    refine r_iload_n dX10_whyNoStroke_14 rfl ?_
    refine s_callVv (z := mX0_hasPoint) [vI v1, vI v2] dX10_whyNoStroke_15 mv_X0_hasPoint lk_X10_333 rfl (by decide) (k_4 hS) (Nat.le_of_ble_eq_true rfl) (WPs.mono k (fun r15 s15 k => ?_))
    refine r_if_eq (tgt := 45) dX10_whyNoStroke_18 rfl (fun h => ?_) (fun h => ?_)
    · have k := k.1 h
      refine r_iconst dX10_whyNoStroke_45 ⟨by decide, by decide⟩ ?_
      exact s_iret dX10_whyNoStroke_46 rfl k
    · have k := k.2 h
      refine r_aload_n dX10_whyNoStroke_21 rfl ?_
      refine r_getRv dX10_whyNoStroke_22 fl_X10_19 rfl (k_1 hS) (f_1_1 hS) (by decide) ?_
      refine r_iload_n dX10_whyNoStroke_25 rfl ?_
      refine r_iload dX10_whyNoStroke_26 rfl ?_
      refine s_callVv (z := mX0_hasPoint) [vI v3, vI v4] dX10_whyNoStroke_28 mv_X0_hasPoint lk_X10_333 rfl (by decide) (k_4 hS) (Nat.le_of_ble_eq_true rfl) (WPs.mono k (fun r28 s28 k => ?_))
      refine r_if_eq (tgt := 45) dX10_whyNoStroke_31 rfl (fun h => ?_) (fun h => ?_)
      · have k := k.1 h
        refine r_iconst dX10_whyNoStroke_45 ⟨by decide, by decide⟩ ?_
        exact s_iret dX10_whyNoStroke_46 rfl k
      · have k := k.2 h
        refine r_iload_n dX10_whyNoStroke_34 rfl ?_
        refine r_iload_n dX10_whyNoStroke_35 rfl ?_
        refine r_icmp_ne (tgt := 47) dX10_whyNoStroke_36 rfl (fun h => ?_) (fun h => ?_)
        · have k := k.1 h
          refine r_loc [0] rfl ?_
          exact k
        · have k := k.2 h
          refine r_iload_n dX10_whyNoStroke_39 rfl ?_
          refine r_iload dX10_whyNoStroke_40 rfl ?_
          refine r_icmp_ne (tgt := 47) dX10_whyNoStroke_42 rfl (fun h => ?_) (fun h => ?_)
          · have k := k.1 h
            refine r_loc [0] rfl ?_
            exact k
          · have k := k.2 h
            refine r_iconst dX10_whyNoStroke_45 ⟨by decide, by decide⟩ ?_
            exact s_iret dX10_whyNoStroke_46 rfl k
  · have k := k.2 h
    refine r_iconst dX10_whyNoStroke_7 ⟨by decide, by decide⟩ ?_
    exact s_iret dX10_whyNoStroke_8 rfl k
theorem t_X10_whyNoStroke_47 {S : ShT} {σ : StT} {Q : Int → StT → Prop} (hS : SHP S) (k : (24 ≤ σ 4 2 → Q 3 σ) ∧ (¬ (24 ≤ σ 4 2) → Q 0 σ)) : AWs mX10_whyNoStroke 47 [(0, vR 1)] [] S σ Q := by
  refine r_aload_n dX10_whyNoStroke_47 rfl ?_
  refine r_getRv dX10_whyNoStroke_48 fl_X10_19 rfl (k_1 hS) (f_1_1 hS) (by decide) ?_
  refine r_getIv dX10_whyNoStroke_51 fl_X10_129 rfl (k_4 hS) ?_
  refine r_bipush dX10_whyNoStroke_54 (by decide +kernel) ⟨by decide, by decide⟩ ?_
  refine r_icmp_ge (tgt := 63) dX10_whyNoStroke_56 rfl (fun h => ?_) (fun h => ?_)
  · have k := k.1 h
    refine r_iconst dX10_whyNoStroke_63 ⟨by decide, by decide⟩ ?_
    exact s_iret dX10_whyNoStroke_64 rfl k
  · have k := k.2 h
    refine r_iconst dX10_whyNoStroke_59 ⟨by decide, by decide⟩ ?_
    refine r_goto (tgt := 64) dX10_whyNoStroke_60 rfl ?_
    exact s_iret dX10_whyNoStroke_64 rfl k
theorem e_X10_trailsOfOther {v1 : Int} {S : ShT} {σ : StT} {Q : Int → StT → Prop} (hS : SHP S) (k : WPs mX3_gather [vR 109, vI v1] S σ (fun r5 s5 => WPs mX3_trailsInAll [vR 109] S s5 (fun r12 s12 => Q r12 s12))) : WPs mX10_trailsOfOther [vR 1, vI v1] S σ Q := by
  refine s_entry (by decide) (Nat.le_of_ble_eq_true rfl) rfl rfl ?_
  refine r_aload_n dX10_trailsOfOther_0 rfl ?_
  refine r_getRv dX10_trailsOfOther_1 fl_X10_78 rfl (k_1 hS) (f_1_9 hS) (by decide) ?_
  refine r_iload_n dX10_trailsOfOther_4 rfl ?_
  refine s_callVv (z := mX3_gather) [vI v1] dX10_trailsOfOther_5 mv_X3_gather lk_X10_361 rfl (by decide) (k_109 hS) (Nat.le_of_ble_eq_true rfl) (WPs.mono k (fun r5 s5 k => ?_))
  refine r_aload_n dX10_trailsOfOther_8 rfl ?_
  refine r_getRv dX10_trailsOfOther_9 fl_X10_78 rfl (k_1 hS) (f_1_9 hS) (by decide) ?_
  refine s_callVv (z := mX3_trailsInAll) [] dX10_trailsOfOther_12 mv_X3_trailsInAll lk_X10_364 rfl (by decide) (k_109 hS) (Nat.le_of_ble_eq_true rfl) (WPs.mono k (fun r12 s12 k => ?_))
  exact s_iret dX10_trailsOfOther_15 rfl k
theorem e_X10_leastJoinFor {v1 : Int} {S : ShT} {σ : StT} {Q : Int → StT → Prop} (hS : SHP S) (k : AWs mX10_leastJoinFor 5 [(0, vR 1), (1, vI v1), (2, vI (-1)), (3, vI 32)] [] S σ Q) : WPs mX10_leastJoinFor [vR 1, vI v1] S σ Q := by
  refine s_entry (by decide) (Nat.le_of_ble_eq_true rfl) rfl rfl ?_
  refine r_iconst dX10_leastJoinFor_0 ⟨by decide, by decide⟩ ?_
  refine r_istore_n dX10_leastJoinFor_1 (by decide) rfl rfl ?_
  refine r_bipush dX10_leastJoinFor_2 (by decide +kernel) ⟨by decide, by decide⟩ ?_
  refine r_istore_n dX10_leastJoinFor_4 (by decide) rfl rfl ?_
  exact k
theorem t_X10_leastJoinFor_5 {v1 v2 v3 : Int} {S : ShT} {σ : StT} {Q : Int → StT → Prop} (hS : SHP S) (k : (v3 ≤ 0 → inR (v2 + 1) ∧ Q (v2 + 1) σ) ∧ (¬ (v3 ≤ 0) → inR (v2 + v3) ∧ ((50 < v2 + v3 → 0 ≤ v3 ∧ AWs mX10_leastJoinFor 5 [(0, vR 1), (1, vI v1), (2, vI v2), (3, vI (v3 / 2))] [] S σ Q) ∧ (¬ (50 < v2 + v3) → WPs mX10_trailsOfOther [vR 1, vI (v2 + v3)] S σ (fun r24 s24 => (r24 ≤ v1 → 0 ≤ v3 ∧ AWs mX10_leastJoinFor 5 [(0, vR 1), (1, vI v1), (2, vI v2), (3, vI (v3 / 2))] [] S s24 Q) ∧ (¬ (r24 ≤ v1) → 0 ≤ v3 ∧ AWs mX10_leastJoinFor 5 [(0, vR 1), (1, vI v1), (2, vI (v2 + v3)), (3, vI (v3 / 2))] [] S s24 Q)))))) : AWs mX10_leastJoinFor 5 [(0, vR 1), (1, vI v1), (2, vI v2), (3, vI v3)] [] S σ Q := by
  refine r_iload_n dX10_leastJoinFor_5 rfl ?_
  refine r_if_le (tgt := 41) dX10_leastJoinFor_6 rfl (fun h => ?_) (fun h => ?_)
  · have k := k.1 h
    refine r_iload_n dX10_leastJoinFor_41 rfl ?_
    refine r_iconst dX10_leastJoinFor_42 ⟨by decide, by decide⟩ ?_
    obtain ⟨h, k⟩ := k
    refine r_iadd dX10_leastJoinFor_43 h ?_
    exact s_iret dX10_leastJoinFor_44 rfl k
  · have k := k.2 h
    refine r_iload_n dX10_leastJoinFor_9 rfl ?_
    refine r_iload_n dX10_leastJoinFor_10 rfl ?_
    obtain ⟨h, k⟩ := k
    refine r_iadd dX10_leastJoinFor_11 h ?_
    refine r_istore dX10_leastJoinFor_12 (by decide) rfl rfl ?_
    refine r_iload dX10_leastJoinFor_14 rfl ?_
    refine r_bipush dX10_leastJoinFor_16 (by decide +kernel) ⟨by decide, by decide⟩ ?_
    refine r_icmp_gt (tgt := 34) dX10_leastJoinFor_18 rfl (fun h => ?_) (fun h => ?_)
    · have k := k.1 h
      refine r_iload_n dX10_leastJoinFor_34 rfl ?_
      refine r_iconst dX10_leastJoinFor_35 ⟨by decide, by decide⟩ ?_
      obtain ⟨h, k⟩ := k
      refine r_idiv dX10_leastJoinFor_36 h (by decide) ?_
      refine r_istore_n dX10_leastJoinFor_37 (by decide) rfl rfl ?_
      refine r_goto (tgt := 5) dX10_leastJoinFor_38 rfl ?_
      refine r_loc [0, 1, 2, 3] rfl ?_
      exact k
    · have k := k.2 h
      refine r_aload_n dX10_leastJoinFor_21 rfl ?_
      refine r_iload dX10_leastJoinFor_22 rfl ?_
      refine s_callVv (z := mX10_trailsOfOther) [vI (v2 + v3)] dX10_leastJoinFor_24 mv_X10_trailsOfOther lk_X10_320 rfl (by decide) (k_1 hS) (Nat.le_of_ble_eq_true rfl) (WPs.mono k (fun r24 s24 k => ?_))
      refine r_iload_n dX10_leastJoinFor_27 rfl ?_
      refine r_icmp_le (tgt := 34) dX10_leastJoinFor_28 rfl (fun h => ?_) (fun h => ?_)
      · have k := k.1 h
        refine r_iload_n dX10_leastJoinFor_34 rfl ?_
        refine r_iconst dX10_leastJoinFor_35 ⟨by decide, by decide⟩ ?_
        obtain ⟨h, k⟩ := k
        refine r_idiv dX10_leastJoinFor_36 h (by decide) ?_
        refine r_istore_n dX10_leastJoinFor_37 (by decide) rfl rfl ?_
        refine r_goto (tgt := 5) dX10_leastJoinFor_38 rfl ?_
        refine r_loc [0, 1, 2, 3] rfl ?_
        exact k
      · have k := k.2 h
        refine r_iload dX10_leastJoinFor_31 rfl ?_
        refine r_istore_n dX10_leastJoinFor_33 (by decide) rfl rfl ?_
        refine r_iload_n dX10_leastJoinFor_34 rfl ?_
        refine r_iconst dX10_leastJoinFor_35 ⟨by decide, by decide⟩ ?_
        obtain ⟨h, k⟩ := k
        refine r_idiv dX10_leastJoinFor_36 h (by decide) ?_
        refine r_istore_n dX10_leastJoinFor_37 (by decide) rfl rfl ?_
        refine r_goto (tgt := 5) dX10_leastJoinFor_38 rfl ?_
        refine r_loc [0, 1, 2, 3] rfl ?_
        exact k
theorem e_X10_startPlan {S : ShT} {σ : StT} {Q : Int → StT → Prop} (hS : SHP S) (k : WPs mX3_gather [vR 7, vI (σ 4 4)] S σ (fun r11 s11 => WPs mX4_gather [vR 20] S s11 (fun r18 s18 => WPs mX9_gather [vR 31] S s18 (fun r25 s25 => WPs mX8_gather [vR 40] S s25 (fun r32 s32 => WPs mX5_start [vR 51] S s32 (fun r39 s39 => Q 0 s39)))))) : WPs mX10_startPlan [vR 1] S σ Q := by
  refine s_entry (by decide) (Nat.le_of_ble_eq_true rfl) rfl rfl ?_
  refine r_aload_n dX10_startPlan_0 rfl ?_
  refine r_getRv dX10_startPlan_1 fl_X10_28 rfl (k_1 hS) (f_1_2 hS) (by decide) ?_
  refine r_aload_n dX10_startPlan_4 rfl ?_
  refine r_getRv dX10_startPlan_5 fl_X10_19 rfl (k_1 hS) (f_1_1 hS) (by decide) ?_
  refine r_getIv dX10_startPlan_8 fl_X10_144 rfl (k_4 hS) ?_
  refine s_callVv (z := mX3_gather) [vI (σ 4 4)] dX10_startPlan_11 mv_X3_gather lk_X10_361 rfl (by decide) (k_7 hS) (Nat.le_of_ble_eq_true rfl) (WPs.mono k (fun r11 s11 k => ?_))
  refine r_aload_n dX10_startPlan_14 rfl ?_
  refine r_getRv dX10_startPlan_15 fl_X10_37 rfl (k_1 hS) (f_1_3 hS) (by decide) ?_
  refine s_callVv (z := mX4_gather) [] dX10_startPlan_18 mv_X4_gather lk_X10_367 rfl (by decide) (k_20 hS) (Nat.le_of_ble_eq_true rfl) (WPs.mono k (fun r18 s18 k => ?_))
  refine r_aload_n dX10_startPlan_21 rfl ?_
  refine r_getRv dX10_startPlan_22 fl_X10_46 rfl (k_1 hS) (f_1_4 hS) (by decide) ?_
  refine s_callVv (z := mX9_gather) [] dX10_startPlan_25 mv_X9_gather lk_X10_369 rfl (by decide) (k_31 hS) (Nat.le_of_ble_eq_true rfl) (WPs.mono k (fun r25 s25 k => ?_))
  refine r_aload_n dX10_startPlan_28 rfl ?_
  refine r_getRv dX10_startPlan_29 fl_X10_55 rfl (k_1 hS) (f_1_5 hS) (by decide) ?_
  refine s_callVv (z := mX8_gather) [] dX10_startPlan_32 mv_X8_gather lk_X10_370 rfl (by decide) (k_40 hS) (Nat.le_of_ble_eq_true rfl) (WPs.mono k (fun r32 s32 k => ?_))
  refine r_aload_n dX10_startPlan_35 rfl ?_
  refine r_getRv dX10_startPlan_36 fl_X10_64 rfl (k_1 hS) (f_1_6 hS) (by decide) ?_
  refine s_callVv (z := mX5_start) [] dX10_startPlan_39 mv_X5_start lk_X10_272 rfl (by decide) (k_51 hS) (Nat.le_of_ble_eq_true rfl) (WPs.mono k (fun r39 s39 k => ?_))
  exact s_vret dX10_startPlan_42 rfl k
