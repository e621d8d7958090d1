theorem e_X7_hasRoom {S : ShT} {σ : StT} {Q : Int → StT → Prop} (hS : SHP S) (k : (680 < σ 2 1 → Q 0 σ) ∧ (¬ (680 < σ 2 1) → Q 1 σ)) : WPs mX7_hasRoom [vR 2] S σ Q := by
  refine s_entry (by decide) (Nat.le_of_ble_eq_true rfl) rfl rfl ?_
  refine r_aload_n dX7_hasRoom_0 rfl ?_
  refine r_getIv dX7_hasRoom_1 fl_X7_13 rfl (k_2 hS) ?_
  refine r_sipush dX7_hasRoom_4 (by decide +kernel) ⟨by decide, by decide⟩ ?_
  refine r_icmp_gt (tgt := 14) dX7_hasRoom_7 rfl (fun h => ?_) (fun h => ?_)
  · have k := k.1 h
    refine r_iconst dX7_hasRoom_14 ⟨by decide, by decide⟩ ?_
    exact s_zret dX7_hasRoom_15 rfl (by decide) k
  · have k := k.2 h
    refine r_iconst dX7_hasRoom_10 ⟨by decide, by decide⟩ ?_
    refine r_goto (tgt := 15) dX7_hasRoom_11 rfl ?_
    exact s_zret dX7_hasRoom_15 rfl (by decide) k
theorem e_X7_put {v1 : Int} {S : ShT} {σ : StT} {Q : Int → StT → Prop} (hS : SHP S) (k : AWs mX7_put 3 [(0, vR 2), (1, vI v1), (2, vI 24)] [] S σ Q) : WPs mX7_put [vR 2, vI v1] S σ Q := by
  refine s_entry (by decide) (Nat.le_of_ble_eq_true rfl) rfl rfl ?_
  refine r_bipush dX7_put_0 (by decide +kernel) ⟨by decide, by decide⟩ ?_
  refine r_istore_n dX7_put_2 (by decide) rfl rfl ?_
  exact k
theorem t_X7_put_3 {v1 v2 : Int} {S : ShT} {σ : StT} {Q : Int → StT → Prop} (hS : SHP S) (k : (v2 < 0 → Q 0 σ) ∧ (¬ (v2 < 0) → (700 ≤ σ 2 1 → Q 0 σ) ∧ (¬ (700 ≤ σ 2 1) → (0 ≤ σ 2 1 ∧ σ 2 1 < 700) ∧ inR ((σ 2 1) + 1) ∧ inR (v2 + -8) ∧ AWs mX7_put 3 [(0, vR 2), (1, vI v1), (2, vI (v2 + -8))] [] S (up2 (up2 σ 3 (σ 2 1).toNat (iAnd (iShr v1 v2) 255)) 2 1 ((σ 2 1) + 1)) Q))) : AWs mX7_put 3 [(0, vR 2), (1, vI v1), (2, vI v2)] [] S σ Q := by
  refine r_iload_n dX7_put_3 rfl ?_
  refine r_if_lt (tgt := 49) dX7_put_4 rfl (fun h => ?_) (fun h => ?_)
  · have k := k.1 h
    exact s_vret dX7_put_49 rfl k
  · have k := k.2 h
    refine r_aload_n dX7_put_7 rfl ?_
    refine r_getIv dX7_put_8 fl_X7_13 rfl (k_2 hS) ?_
    refine r_sipush dX7_put_11 (by decide +kernel) ⟨by decide, by decide⟩ ?_
    refine r_icmp_ge (tgt := 49) dX7_put_14 rfl (fun h => ?_) (fun h => ?_)
    · have k := k.1 h
      exact s_vret dX7_put_49 rfl k
    · have k := k.2 h
      refine r_aload_n dX7_put_17 rfl ?_
      refine r_getRv dX7_put_18 fl_X7_9 rfl (k_2 hS) (f_2_0 hS) (by decide) ?_
      refine r_aload_n dX7_put_21 rfl ?_
      refine r_getIv dX7_put_22 fl_X7_13 rfl (k_2 hS) ?_
      refine r_iload_n dX7_put_25 rfl ?_
      refine r_iload_n dX7_put_26 rfl ?_
      refine r_ishr dX7_put_27 ?_
      refine r_sipush dX7_put_28 (by decide +kernel) ⟨by decide, by decide⟩ ?_
      refine r_iand dX7_put_31 ?_
      obtain ⟨⟨h0, h1⟩, k⟩ := k
      refine r_iast dX7_put_32 (k_3 hS) h0 h1 ?_
      refine r_aload_n dX7_put_33 rfl ?_
      refine r_dup dX7_put_34 rfl ?_
      refine r_getIv dX7_put_35 fl_X7_13 rfl (k_2 hS) ?_
      refine r_top (up2_a (by decide)) ?_
      refine r_iconst dX7_put_38 ⟨by decide, by decide⟩ ?_
      obtain ⟨h, k⟩ := k
      refine r_iadd dX7_put_39 h ?_
      refine r_putIv dX7_put_40 fl_X7_13 (fun _ h => by cases h; rfl) (Or.inl rfl) (k_2 hS) ?_
      obtain ⟨h, k⟩ := k
      refine r_iinc dX7_put_43 rfl (by decide) rfl rfl h ?_
      refine r_goto (tgt := 3) dX7_put_46 rfl ?_
      exact k
theorem e_X7_rewind {v1 : Int} {S : ShT} {σ : StT} {Q : Int → StT → Prop} (hS : SHP S) (k : Q 0 (up2 (up2 σ 2 2 (min v1 (σ 2 1))) 2 3 0)) : WPs mX7_rewind [vR 2, vI v1] S σ Q := by
  refine s_entry (by decide) (Nat.le_of_ble_eq_true rfl) rfl rfl ?_
  refine r_aload_n dX7_rewind_0 rfl ?_
  refine r_iload_n dX7_rewind_1 rfl ?_
  refine r_aload_n dX7_rewind_2 rfl ?_
  refine r_getIv dX7_rewind_3 fl_X7_13 rfl (k_2 hS) ?_
  refine r_mmin dX7_rewind_6 lk_X7_32 (by decide) (Nat.le_of_ble_eq_true rfl) ?_
  refine r_putIv dX7_rewind_9 fl_X7_17 (fun _ h => by cases h; rfl) (Or.inl rfl) (k_2 hS) ?_
  refine r_aload_n dX7_rewind_12 rfl ?_
  refine r_iconst dX7_rewind_13 ⟨by decide, by decide⟩ ?_
  refine r_putIv dX7_rewind_14 fl_X7_20 (fun _ h => by cases h; rfl) (Or.inl rfl) (k_2 hS) ?_
  exact s_vret dX7_rewind_17 rfl k
theorem e_X7_step {S : ShT} {σ : StT} {Q : Int → StT → Prop} (hS : SHP S) (k : AWs mX7_step 0 [(0, vR 2)] [] S σ Q) : WPs mX7_step [vR 2] S σ Q := by
  refine s_entry (by decide) (Nat.le_of_ble_eq_true rfl) rfl rfl ?_
  exact k
theorem t_X7_step_0 {S : ShT} {σ : StT} {Q : Int → StT → Prop} (hS : SHP S) (k : (σ 2 2 ≤ σ 2 3 → AWs mX7_step 38 [(0, vR 2)] [] S σ Q) ∧ (¬ (σ 2 2 ≤ σ 2 3) → (0 ≤ σ 2 3 ∧ σ 2 3 < 700) ∧ ((¬ σ 3 (σ 2 3).toNat = 32 → AWs mX7_step 38 [(0, vR 2)] [] S σ Q) ∧ (σ 3 (σ 2 3).toNat = 32 → inR ((σ 2 3) + 1) ∧ AWs mX7_step 0 [(0, vR 2)] [] S (up2 σ 2 3 ((σ 2 3) + 1)) Q)))) : AWs mX7_step 0 [(0, vR 2)] [] S σ Q := by
  refine r_aload_n dX7_step_0 rfl ?_
  refine r_getIv dX7_step_1 fl_X7_20 rfl (k_2 hS) ?_
  refine r_aload_n dX7_step_4 rfl ?_
  refine r_getIv dX7_step_5 fl_X7_17 rfl (k_2 hS) ?_
  refine r_icmp_ge (tgt := 38) dX7_step_8 rfl (fun h => ?_) (fun h => ?_)
  · have k := k.1 h
    exact k
  · have k := k.2 h
    refine r_aload_n dX7_step_11 rfl ?_
    refine r_getRv dX7_step_12 fl_X7_9 rfl (k_2 hS) (f_2_0 hS) (by decide) ?_
    refine r_aload_n dX7_step_15 rfl ?_
    refine r_getIv dX7_step_16 fl_X7_20 rfl (k_2 hS) ?_
    obtain ⟨⟨h0, h1⟩, k⟩ := k
    refine r_iald dX7_step_19 (Or.inl (k_3 hS)) h0 h1 ?_
    refine r_bipush dX7_step_20 (by decide +kernel) ⟨by decide, by decide⟩ ?_
    refine r_icmp_ne (tgt := 38) dX7_step_22 rfl (fun h => ?_) (fun h => ?_)
    · have k := k.1 h
      exact k
    · have k := k.2 h
      refine r_aload_n dX7_step_25 rfl ?_
      refine r_dup dX7_step_26 rfl ?_
      refine r_getIv dX7_step_27 fl_X7_20 rfl (k_2 hS) ?_
      refine r_iconst dX7_step_30 ⟨by decide, by decide⟩ ?_
      obtain ⟨h, k⟩ := k
      refine r_iadd dX7_step_31 h ?_
      refine r_putIv dX7_step_32 fl_X7_20 (fun _ h => by cases h; rfl) (Or.inl rfl) (k_2 hS) ?_
      refine r_goto (tgt := 0) dX7_step_35 rfl ?_
      exact k
theorem t_X7_step_38 {S : ShT} {σ : StT} {Q : Int → StT → Prop} (hS : SHP S) (k : (σ 2 2 ≤ σ 2 3 → AWs mX7_step 100 [(0, vR 2)] [] S (up2 (up2 (up2 σ 2 5 (σ 2 3)) 2 6 0) 2 4 0) Q) ∧ (¬ (σ 2 2 ≤ σ 2 3) → (0 ≤ σ 2 3 ∧ σ 2 3 < 700) ∧ WPs mX7_kindOf [vI (σ 3 (σ 2 3).toNat)] S (up2 (up2 σ 2 5 (σ 2 3)) 2 6 0) (fun r72 s72 => (¬ r72 = 3 → AWs mX7_step 100 [(0, vR 2)] [] S (up2 s72 2 4 r72) Q) ∧ (r72 = 3 → inR ((s72 2 3) + 1) ∧ AWs mX7_step 100 [(0, vR 2)] [] S (up2 (up2 s72 2 4 r72) 2 3 ((s72 2 3) + 1)) Q)))) : AWs mX7_step 38 [(0, vR 2)] [] S σ Q := by
  refine r_aload_n dX7_step_38 rfl ?_
  refine r_aload_n dX7_step_39 rfl ?_
  refine r_getIv dX7_step_40 fl_X7_20 rfl (k_2 hS) ?_
  refine r_putIv dX7_step_43 fl_X7_26 (fun _ h => by cases h; rfl) (Or.inl rfl) (k_2 hS) ?_
  refine r_aload_n dX7_step_46 rfl ?_
  refine r_iconst dX7_step_47 ⟨by decide, by decide⟩ ?_
  refine r_putIv dX7_step_48 fl_X7_29 (fun _ h => by cases h; rfl) (Or.inl rfl) (k_2 hS) ?_
  refine r_aload_n dX7_step_51 rfl ?_
  refine r_aload_n dX7_step_52 rfl ?_
  refine r_getIv dX7_step_53 fl_X7_20 rfl (k_2 hS) ?_
  refine r_top ((up2_i (by decide)).trans (up2_i (by decide))) ?_
  refine r_aload_n dX7_step_56 rfl ?_
  refine r_getIv dX7_step_57 fl_X7_17 rfl (k_2 hS) ?_
  refine r_top ((up2_i (by decide)).trans (up2_i (by decide))) ?_
  refine r_icmp_ge (tgt := 78) dX7_step_60 rfl (fun h => ?_) (fun h => ?_)
  · have k := k.1 h
    refine r_iconst dX7_step_78 ⟨by decide, by decide⟩ ?_
    refine r_putIv dX7_step_79 fl_X7_23 (fun _ h => by cases h; rfl) (Or.inl rfl) (k_2 hS) ?_
    refine r_aload_n dX7_step_82 rfl ?_
    refine r_getIv dX7_step_83 fl_X7_23 rfl (k_2 hS) ?_
    refine r_top (up2_s _ _ _ _) ?_
    refine r_iconst dX7_step_86 ⟨by decide, by decide⟩ ?_
    refine r_icmp_ne (tgt := 100) dX7_step_87 rfl (fun h => ?_) (fun h => ?_)
    · skip
      exact k
    · exact absurd h (by decide)
  · have k := k.2 h
    refine r_aload_n dX7_step_63 rfl ?_
    refine r_getRv dX7_step_64 fl_X7_9 rfl (k_2 hS) (f_2_0 hS) (by decide) ?_
    refine r_aload_n dX7_step_67 rfl ?_
    refine r_getIv dX7_step_68 fl_X7_20 rfl (k_2 hS) ?_
    refine r_top ((up2_i (by decide)).trans (up2_i (by decide))) ?_
    obtain ⟨⟨h0, h1⟩, k⟩ := k
    refine r_iald dX7_step_71 (Or.inl (k_3 hS)) h0 h1 ?_
    refine r_top ((up2_a (by decide)).trans (up2_a (by decide))) ?_
    refine s_callS (z := mX7_kindOf) [vI (σ 3 (σ 2 3).toNat)] dX7_step_72 ms_X7_kindOf lk_X7_38 rfl (by decide) (Nat.le_of_ble_eq_true rfl) (WPs.mono k (fun r72 s72 k => ?_))
    refine r_goto (tgt := 79) dX7_step_75 rfl ?_
    refine r_putIv dX7_step_79 fl_X7_23 (fun _ h => by cases h; rfl) (Or.inl rfl) (k_2 hS) ?_
    refine r_aload_n dX7_step_82 rfl ?_
    refine r_getIv dX7_step_83 fl_X7_23 rfl (k_2 hS) ?_
    refine r_top (up2_s _ _ _ _) ?_
    refine r_iconst dX7_step_86 ⟨by decide, by decide⟩ ?_
    refine r_icmp_ne (tgt := 100) dX7_step_87 rfl (fun h => ?_) (fun h => ?_)
    · have k := k.1 h
      exact k
    · have k := k.2 h
      refine r_aload_n dX7_step_90 rfl ?_
      refine r_dup dX7_step_91 rfl ?_
      refine r_getIv dX7_step_92 fl_X7_20 rfl (k_2 hS) ?_
      refine r_top (up2_i (by decide)) ?_
      refine r_iconst dX7_step_95 ⟨by decide, by decide⟩ ?_
      obtain ⟨h, k⟩ := k
      refine r_iadd dX7_step_96 h ?_
      refine r_putIv dX7_step_97 fl_X7_20 (fun _ h => by cases h; rfl) (Or.inl rfl) (k_2 hS) ?_
      exact k
theorem t_X7_step_100 {S : ShT} {σ : StT} {Q : Int → StT → Prop} (hS : SHP S) (k : (σ 2 2 ≤ σ 2 3 → AWs mX7_step 183 [(0, vR 2)] [] S σ Q) ∧ (¬ (σ 2 2 ≤ σ 2 3) → (σ 2 4 = 1 → AWs mX7_step 127 [(0, vR 2)] [] S σ Q) ∧ (¬ (σ 2 4 = 1) → (¬ σ 2 4 = 2 → AWs mX7_step 183 [(0, vR 2)] [] S σ Q) ∧ (σ 2 4 = 2 → AWs mX7_step 127 [(0, vR 2)] [] S σ Q)))) : AWs mX7_step 100 [(0, vR 2)] [] S σ Q := by
  refine r_aload_n dX7_step_100 rfl ?_
  refine r_getIv dX7_step_101 fl_X7_20 rfl (k_2 hS) ?_
  refine r_aload_n dX7_step_104 rfl ?_
  refine r_getIv dX7_step_105 fl_X7_17 rfl (k_2 hS) ?_
  refine r_icmp_ge (tgt := 183) dX7_step_108 rfl (fun h => ?_) (fun h => ?_)
  · have k := k.1 h
    exact k
  · have k := k.2 h
    refine r_aload_n dX7_step_111 rfl ?_
    refine r_getIv dX7_step_112 fl_X7_23 rfl (k_2 hS) ?_
    refine r_iconst dX7_step_115 ⟨by decide, by decide⟩ ?_
    refine r_icmp_eq (tgt := 127) dX7_step_116 rfl (fun h => ?_) (fun h => ?_)
    · have k := k.1 h
      exact k
    · have k := k.2 h
      refine r_aload_n dX7_step_119 rfl ?_
      refine r_getIv dX7_step_120 fl_X7_23 rfl (k_2 hS) ?_
      refine r_iconst dX7_step_123 ⟨by decide, by decide⟩ ?_
      refine r_icmp_ne (tgt := 183) dX7_step_124 rfl (fun h => ?_) (fun h => ?_)
      · have k := k.1 h
        exact k
      · have k := k.2 h
        exact k
theorem t_X7_step_127 {S : ShT} {σ : StT} {Q : Int → StT → Prop} (hS : SHP S) (k : (0 ≤ σ 2 3 ∧ σ 2 3 < 700) ∧ WPs mX7_kindOf [vI (σ 3 (σ 2 3).toNat)] S σ (fun r136 s136 => (¬ r136 = s136 2 4 → AWs mX7_step 183 [(0, vR 2)] [] S s136 Q) ∧ (r136 = s136 2 4 → (0 ≤ s136 2 3 ∧ s136 2 3 < 700) ∧ inR ((s136 2 3) + 1) ∧ AWs mX7_step 100 [(0, vR 2)] [] S (up2 (up2 s136 2 6 (wr ((wr ((wr ((s136 2 6) * 10)) + (s136 3 (s136 2 3).toNat))) - 48))) 2 3 ((s136 2 3) + 1)) Q))) : AWs mX7_step 127 [(0, vR 2)] [] S σ Q := by
  refine r_aload_n dX7_step_127 rfl ?_
  refine r_getRv dX7_step_128 fl_X7_9 rfl (k_2 hS) (f_2_0 hS) (by decide) ?_
  refine r_aload_n dX7_step_131 rfl ?_
  refine r_getIv dX7_step_132 fl_X7_20 rfl (k_2 hS) ?_
  obtain ⟨⟨h0, h1⟩, k⟩ := k
  refine r_iald dX7_step_135 (Or.inl (k_3 hS)) h0 h1 ?_
  refine s_callS (z := mX7_kindOf) [vI (σ 3 (σ 2 3).toNat)] dX7_step_136 ms_X7_kindOf lk_X7_38 rfl (by decide) (Nat.le_of_ble_eq_true rfl) (WPs.mono k (fun r136 s136 k => ?_))
  refine r_aload_n dX7_step_139 rfl ?_
  refine r_getIv dX7_step_140 fl_X7_23 rfl (k_2 hS) ?_
  refine r_icmp_ne (tgt := 183) dX7_step_143 rfl (fun h => ?_) (fun h => ?_)
  · have k := k.1 h
    exact k
  · have k := k.2 h
    refine r_aload_n dX7_step_146 rfl ?_
    refine r_aload_n dX7_step_147 rfl ?_
    refine r_getIv dX7_step_148 fl_X7_29 rfl (k_2 hS) ?_
    refine r_bipush dX7_step_151 (by decide +kernel) ⟨by decide, by decide⟩ ?_
    refine r_imulW dX7_step_153 ?_
    refine r_aload_n dX7_step_154 rfl ?_
    refine r_getRv dX7_step_155 fl_X7_9 rfl (k_2 hS) (f_2_0 hS) (by decide) ?_
    refine r_aload_n dX7_step_158 rfl ?_
    refine r_getIv dX7_step_159 fl_X7_20 rfl (k_2 hS) ?_
    obtain ⟨⟨h0, h1⟩, k⟩ := k
    refine r_iald dX7_step_162 (Or.inl (k_3 hS)) h0 h1 ?_
    refine r_iaddW dX7_step_163 ?_
    refine r_bipush dX7_step_164 (by decide +kernel) ⟨by decide, by decide⟩ ?_
    refine r_isubW dX7_step_166 ?_
    refine r_putIv dX7_step_167 fl_X7_29 (fun _ h => by cases h; rfl) (Or.inl rfl) (k_2 hS) ?_
    refine r_aload_n dX7_step_170 rfl ?_
    refine r_dup dX7_step_171 rfl ?_
    refine r_getIv dX7_step_172 fl_X7_20 rfl (k_2 hS) ?_
    refine r_top (up2_i (by decide)) ?_
    refine r_iconst dX7_step_175 ⟨by decide, by decide⟩ ?_
    obtain ⟨h, k⟩ := k
    refine r_iadd dX7_step_176 h ?_
    refine r_putIv dX7_step_177 fl_X7_20 (fun _ h => by cases h; rfl) (Or.inl rfl) (k_2 hS) ?_
    refine r_goto (tgt := 100) dX7_step_180 rfl ?_
    exact k
theorem t_X7_step_183 {S : ShT} {σ : StT} {Q : Int → StT → Prop} (hS : SHP S) (k : (¬ σ 2 4 = 1 → AWs mX7_step 205 [(0, vR 2)] [] S σ Q) ∧ (σ 2 4 = 1 → inR ((σ 2 3) - (σ 2 5)) ∧ ((6 < (σ 2 3) - (σ 2 5) → Q 0 (up2 σ 2 4 4)) ∧ (¬ (6 < (σ 2 3) - (σ 2 5)) → AWs mX7_step 205 [(0, vR 2)] [] S σ Q)))) : AWs mX7_step 183 [(0, vR 2)] [] S σ Q := by
  refine r_aload_n dX7_step_183 rfl ?_
  refine r_getIv dX7_step_184 fl_X7_23 rfl (k_2 hS) ?_
  refine r_iconst dX7_step_187 ⟨by decide, by decide⟩ ?_
  refine r_icmp_ne (tgt := 205) dX7_step_188 rfl (fun h => ?_) (fun h => ?_)
  · have k := k.1 h
    exact k
  · have k := k.2 h
    refine r_aload_n dX7_step_191 rfl ?_
    refine r_getIv dX7_step_192 fl_X7_20 rfl (k_2 hS) ?_
    refine r_aload_n dX7_step_195 rfl ?_
    refine r_getIv dX7_step_196 fl_X7_26 rfl (k_2 hS) ?_
    obtain ⟨h, k⟩ := k
    refine r_isub dX7_step_199 h ?_
    refine r_bipush dX7_step_200 (by decide +kernel) ⟨by decide, by decide⟩ ?_
    refine r_icmp_gt (tgt := 226) dX7_step_202 rfl (fun h => ?_) (fun h => ?_)
    · have k := k.1 h
      refine r_aload_n dX7_step_226 rfl ?_
      refine r_iconst dX7_step_227 ⟨by decide, by decide⟩ ?_
      refine r_putIv dX7_step_228 fl_X7_23 (fun _ h => by cases h; rfl) (Or.inl rfl) (k_2 hS) ?_
      exact s_vret dX7_step_231 rfl k
    · have k := k.2 h
      exact k
theorem t_X7_step_205 {S : ShT} {σ : StT} {Q : Int → StT → Prop} (hS : SHP S) (k : (¬ σ 2 4 = 2 → Q 0 σ) ∧ (σ 2 4 = 2 → inR ((σ 2 3) - (σ 2 5)) ∧ (((σ 2 3) - (σ 2 5) ≤ 3 → Q 0 σ) ∧ (¬ ((σ 2 3) - (σ 2 5) ≤ 3) → Q 0 (up2 σ 2 4 4))))) : AWs mX7_step 205 [(0, vR 2)] [] S σ Q := by
  refine r_aload_n dX7_step_205 rfl ?_
  refine r_getIv dX7_step_206 fl_X7_23 rfl (k_2 hS) ?_
  refine r_iconst dX7_step_209 ⟨by decide, by decide⟩ ?_
  refine r_icmp_ne (tgt := 231) dX7_step_210 rfl (fun h => ?_) (fun h => ?_)
  · have k := k.1 h
    exact s_vret dX7_step_231 rfl k
  · have k := k.2 h
    refine r_aload_n dX7_step_213 rfl ?_
    refine r_getIv dX7_step_214 fl_X7_20 rfl (k_2 hS) ?_
    refine r_aload_n dX7_step_217 rfl ?_
    refine r_getIv dX7_step_218 fl_X7_26 rfl (k_2 hS) ?_
    obtain ⟨h, k⟩ := k
    refine r_isub dX7_step_221 h ?_
    refine r_iconst dX7_step_222 ⟨by decide, by decide⟩ ?_
    refine r_icmp_le (tgt := 231) dX7_step_223 rfl (fun h => ?_) (fun h => ?_)
    · have k := k.1 h
      exact s_vret dX7_step_231 rfl k
    · have k := k.2 h
      refine r_aload_n dX7_step_226 rfl ?_
      refine r_iconst dX7_step_227 ⟨by decide, by decide⟩ ?_
      refine r_putIv dX7_step_228 fl_X7_23 (fun _ h => by cases h; rfl) (Or.inl rfl) (k_2 hS) ?_
      exact s_vret dX7_step_231 rfl k
theorem e_X7_kindOf {v0 : Int} {S : ShT} {σ : StT} {Q : Int → StT → Prop} (hS : SHP S) (k : (v0 < 97 → AWs mX7_kindOf 14 [(0, vI v0)] [] S σ Q) ∧ (¬ (v0 < 97) → (122 < v0 → AWs mX7_kindOf 14 [(0, vI v0)] [] S σ Q) ∧ (¬ (122 < v0) → Q 1 σ))) : WPs mX7_kindOf [vI v0] S σ Q := by
  refine s_entry (by decide) (Nat.le_of_ble_eq_true rfl) rfl rfl ?_
  refine r_iload_n dX7_kindOf_0 rfl ?_
  refine r_bipush dX7_kindOf_1 (by decide +kernel) ⟨by decide, by decide⟩ ?_
  refine r_icmp_lt (tgt := 14) dX7_kindOf_3 rfl (fun h => ?_) (fun h => ?_)
  · have k := k.1 h
    exact k
  · have k := k.2 h
    refine r_iload_n dX7_kindOf_6 rfl ?_
    refine r_bipush dX7_kindOf_7 (by decide +kernel) ⟨by decide, by decide⟩ ?_
    refine r_icmp_gt (tgt := 14) dX7_kindOf_9 rfl (fun h => ?_) (fun h => ?_)
    · have k := k.1 h
      exact k
    · have k := k.2 h
      refine r_iconst dX7_kindOf_12 ⟨by decide, by decide⟩ ?_
      exact s_iret dX7_kindOf_13 rfl k
theorem t_X7_kindOf_14 {v0 : Int} {S : ShT} {σ : StT} {Q : Int → StT → Prop} (hS : SHP S) (k : (v0 < 48 → AWs mX7_kindOf 28 [(0, vI v0)] [] S σ Q) ∧ (¬ (v0 < 48) → (57 < v0 → AWs mX7_kindOf 28 [(0, vI v0)] [] S σ Q) ∧ (¬ (57 < v0) → Q 2 σ))) : AWs mX7_kindOf 14 [(0, vI v0)] [] S σ Q := by
  refine r_iload_n dX7_kindOf_14 rfl ?_
  refine r_bipush dX7_kindOf_15 (by decide +kernel) ⟨by decide, by decide⟩ ?_
  refine r_icmp_lt (tgt := 28) dX7_kindOf_17 rfl (fun h => ?_) (fun h => ?_)
  · have k := k.1 h
    exact k
  · have k := k.2 h
    refine r_iload_n dX7_kindOf_20 rfl ?_
    refine r_bipush dX7_kindOf_21 (by decide +kernel) ⟨by decide, by decide⟩ ?_
    refine r_icmp_gt (tgt := 28) dX7_kindOf_23 rfl (fun h => ?_) (fun h => ?_)
    · have k := k.1 h
      exact k
    · have k := k.2 h
      refine r_iconst dX7_kindOf_26 ⟨by decide, by decide⟩ ?_
      exact s_iret dX7_kindOf_27 rfl k
theorem t_X7_kindOf_28 {v0 : Int} {S : ShT} {σ : StT} {Q : Int → StT → Prop} (hS : SHP S) (k : (¬ v0 = 59 → Q 4 σ) ∧ (v0 = 59 → Q 3 σ)) : AWs mX7_kindOf 28 [(0, vI v0)] [] S σ Q := by
  refine r_iload_n dX7_kindOf_28 rfl ?_
  refine r_bipush dX7_kindOf_29 (by decide +kernel) ⟨by decide, by decide⟩ ?_
  refine r_icmp_ne (tgt := 38) dX7_kindOf_31 rfl (fun h => ?_) (fun h => ?_)
  · have k := k.1 h
    refine r_iconst dX7_kindOf_38 ⟨by decide, by decide⟩ ?_
    exact s_iret dX7_kindOf_39 rfl k
  · have k := k.2 h
    refine r_iconst dX7_kindOf_34 ⟨by decide, by decide⟩ ?_
    refine r_goto (tgt := 39) dX7_kindOf_35 rfl ?_
    exact s_iret dX7_kindOf_39 rfl k
theorem e_X7_isWord {w : Nat} {S : ShT} {σ : StT} {Q : Int → StT → Prop} (hS : SHP S) (hw : w < 12) (k : (¬ σ 2 4 = 1 → Q 0 σ) ∧ (σ 2 4 = 1 → inR ((σ 2 3) - (σ 2 5)) ∧ WPs mJ0_length_8abf5 [vR (BIG + 1 + w)] S σ (fun r18 s18 => ((σ 2 3) - (σ 2 5) = r18 → AWs mX7_isWord 28 [(0, vR 2), (1, vR (BIG + 1 + w)), (2, vI 0)] [] S s18 Q) ∧ (¬ ((σ 2 3) - (σ 2 5) = r18) → Q 0 s18)))) : WPs mX7_isWord [vR 2, vR (BIG + 1 + w)] S σ Q := by
  refine s_entry (by decide) (Nat.le_of_ble_eq_true rfl) rfl rfl ?_
  refine r_aload_n dX7_isWord_0 rfl ?_
  refine r_getIv dX7_isWord_1 fl_X7_23 rfl (k_2 hS) ?_
  refine r_iconst dX7_isWord_4 ⟨by decide, by decide⟩ ?_
  refine r_icmp_ne (tgt := 24) dX7_isWord_5 rfl (fun h => ?_) (fun h => ?_)
  · have k := k.1 h
    refine r_iconst dX7_isWord_24 ⟨by decide, by decide⟩ ?_
    exact s_zret dX7_isWord_25 rfl (by decide) k
  · have k := k.2 h
    refine r_aload_n dX7_isWord_8 rfl ?_
    refine r_getIv dX7_isWord_9 fl_X7_20 rfl (k_2 hS) ?_
    refine r_aload_n dX7_isWord_12 rfl ?_
    refine r_getIv dX7_isWord_13 fl_X7_26 rfl (k_2 hS) ?_
    obtain ⟨h, k⟩ := k
    refine r_isub dX7_isWord_16 h ?_
    refine r_aload_n dX7_isWord_17 rfl ?_
    refine s_callStr (z := mJ0_length_8abf5) [] dX7_isWord_18 mo_J0_length_8abf5 lk_X7_42 wj_len rfl (by decide) hw (Nat.le_of_ble_eq_true rfl) (WPs.mono k (fun r18 s18 k => ?_))
    refine r_icmp_eq (tgt := 26) dX7_isWord_21 rfl (fun h => ?_) (fun h => ?_)
    · have k := k.1 h
      refine r_iconst dX7_isWord_26 ⟨by decide, by decide⟩ ?_
      refine r_istore_n dX7_isWord_27 (by decide) rfl rfl ?_
      exact k
    · have k := k.2 h
      refine r_iconst dX7_isWord_24 ⟨by decide, by decide⟩ ?_
      exact s_zret dX7_isWord_25 rfl (by decide) k
theorem t_X7_isWord_28 {w : Nat} {v2 : Int} {S : ShT} {σ : StT} {Q : Int → StT → Prop} (hS : SHP S) (hw : w < 12) (k : WPs mJ0_length_8abf5 [vR (BIG + 1 + w)] S σ (fun r30 s30 => (r30 ≤ v2 → Q 1 s30) ∧ (¬ (r30 ≤ v2) → inR ((s30 2 5) + v2) ∧ ((0 ≤ (s30 2 5) + v2 ∧ (s30 2 5) + v2 < 700) ∧ WPs mJ0_charAt_5068e [vR (BIG + 1 + w), vI v2] S s30 (fun r49 s49 => (s30 3 ((s30 2 5) + v2).toNat = r49 → inR (v2 + 1) ∧ AWs mX7_isWord 28 [(0, vR 2), (1, vR (BIG + 1 + w)), (2, vI (v2 + 1))] [] S s49 Q) ∧ (¬ (s30 3 ((s30 2 5) + v2).toNat = r49) → Q 0 s49)))))) : AWs mX7_isWord 28 [(0, vR 2), (1, vR (BIG + 1 + w)), (2, vI v2)] [] S σ Q := by
  refine r_iload_n dX7_isWord_28 rfl ?_
  refine r_aload_n dX7_isWord_29 rfl ?_
  refine s_callStr (z := mJ0_length_8abf5) [] dX7_isWord_30 mo_J0_length_8abf5 lk_X7_42 wj_len rfl (by decide) hw (Nat.le_of_ble_eq_true rfl) (WPs.mono k (fun r30 s30 k => ?_))
  refine r_icmp_ge (tgt := 63) dX7_isWord_33 rfl (fun h => ?_) (fun h => ?_)
  · have k := k.1 h
    refine r_iconst dX7_isWord_63 ⟨by decide, by decide⟩ ?_
    exact s_zret dX7_isWord_64 rfl (by decide) k
  · have k := k.2 h
    refine r_aload_n dX7_isWord_36 rfl ?_
    refine r_getRv dX7_isWord_37 fl_X7_9 rfl (k_2 hS) (f_2_0 hS) (by decide) ?_
    refine r_aload_n dX7_isWord_40 rfl ?_
    refine r_getIv dX7_isWord_41 fl_X7_26 rfl (k_2 hS) ?_
    refine r_iload_n dX7_isWord_44 rfl ?_
    obtain ⟨h, k⟩ := k
    refine r_iadd dX7_isWord_45 h ?_
    obtain ⟨⟨h0, h1⟩, k⟩ := k
    refine r_iald dX7_isWord_46 (Or.inl (k_3 hS)) h0 h1 ?_
    refine r_aload_n dX7_isWord_47 rfl ?_
    refine r_iload_n dX7_isWord_48 rfl ?_
    refine s_callStr (z := mJ0_charAt_5068e) [vI v2] dX7_isWord_49 mo_J0_charAt_5068e lk_X7_47 wj_cha rfl (by decide) hw (Nat.le_of_ble_eq_true rfl) (WPs.mono k (fun r49 s49 k => ?_))
    refine r_icmp_eq (tgt := 57) dX7_isWord_52 rfl (fun h => ?_) (fun h => ?_)
    · have k := k.1 h
      obtain ⟨h, k⟩ := k
      refine r_iinc dX7_isWord_57 rfl (by decide) rfl rfl h ?_
      refine r_goto (tgt := 28) dX7_isWord_60 rfl ?_
      exact k
    · have k := k.2 h
      refine r_iconst dX7_isWord_55 ⟨by decide, by decide⟩ ?_
      exact s_zret dX7_isWord_56 rfl (by decide) k
