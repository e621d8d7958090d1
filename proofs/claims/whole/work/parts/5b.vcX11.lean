theorem e_X11_thrown {S : ShT} {σ : StT} {Q : Int → StT → Prop} (hS : SHP S) (k : Q (σ 125 0) σ) : WPs mX11_thrown [vR 125] S σ Q := by
  refine s_entry (by decide) (Nat.le_of_ble_eq_true rfl) rfl rfl ?_
  refine r_aload_n dX11_thrown_0 rfl ?_
  refine r_getIv dX11_thrown_1 fl_X11_99 rfl (k_125 hS) ?_
  exact s_iret dX11_thrown_4 rfl k
theorem e_X11_in {v0 v1 v2 : Int} {S : ShT} {σ : StT} {Q : Int → StT → Prop} (hS : SHP S) (k : (v0 < v1 → Q 0 σ) ∧ (¬ (v0 < v1) → (v2 < v0 → Q 0 σ) ∧ (¬ (v2 < v0) → Q 1 σ))) : WPs mX11_in [vI v0, vI v1, vI v2] S σ Q := by
  refine s_entry (by decide) (Nat.le_of_ble_eq_true rfl) rfl rfl ?_
  refine r_iload_n dX11_in_0 rfl ?_
  refine r_iload_n dX11_in_1 rfl ?_
  refine r_icmp_lt (tgt := 14) dX11_in_2 rfl (fun h => ?_) (fun h => ?_)
  · have k := k.1 h
    refine r_iconst dX11_in_14 ⟨by decide, by decide⟩ ?_
    exact s_zret dX11_in_15 rfl (by decide) k
  · have k := k.2 h
    refine r_iload_n dX11_in_5 rfl ?_
    refine r_iload_n dX11_in_6 rfl ?_
    refine r_icmp_gt (tgt := 14) dX11_in_7 rfl (fun h => ?_) (fun h => ?_)
    · have k := k.1 h
      refine r_iconst dX11_in_14 ⟨by decide, by decide⟩ ?_
      exact s_zret dX11_in_15 rfl (by decide) k
    · have k := k.2 h
      refine r_iconst dX11_in_10 ⟨by decide, by decide⟩ ?_
      refine r_goto (tgt := 15) dX11_in_11 rfl ?_
      exact s_zret dX11_in_15 rfl (by decide) k
theorem e_X11_abs {v0 : Int} {S : ShT} {σ : StT} {Q : Int → StT → Prop} (hS : SHP S) (k : (0 ≤ v0 → Q v0 σ) ∧ (¬ (0 ≤ v0) → inR (-v0) ∧ Q (-v0) σ)) : WPs mX11_abs [vI v0] S σ Q := by
  refine s_entry (by decide) (Nat.le_of_ble_eq_true rfl) rfl rfl ?_
  refine r_iload_n dX11_abs_0 rfl ?_
  refine r_if_ge (tgt := 9) dX11_abs_1 rfl (fun h => ?_) (fun h => ?_)
  · have k := k.1 h
    refine r_iload_n dX11_abs_9 rfl ?_
    exact s_iret dX11_abs_10 rfl k
  · have k := k.2 h
    refine r_iload_n dX11_abs_4 rfl ?_
    obtain ⟨h, k⟩ := k
    refine r_ineg dX11_abs_5 h ?_
    refine r_goto (tgt := 10) dX11_abs_6 rfl ?_
    exact s_iret dX11_abs_10 rfl k
theorem e_X11_no {v1 : Int} {S : ShT} {σ : StT} {Q : Int → StT → Prop} (hS : SHP S) (k : Q (-1) (up2 σ 125 1 v1)) : WPs mX11_no [vR 125, vI v1] S σ Q := by
  refine s_entry (by decide) (Nat.le_of_ble_eq_true rfl) rfl rfl ?_
  refine r_aload_n dX11_no_0 rfl ?_
  refine r_iload_n dX11_no_1 rfl ?_
  refine r_putIv dX11_no_2 fl_X11_102 (fun _ h => by cases h; rfl) (Or.inl rfl) (k_125 hS) ?_
  refine r_iconst dX11_no_5 ⟨by decide, by decide⟩ ?_
  exact s_iret dX11_no_6 rfl k
theorem e_X11_isRefused {v1 : Int} {S : ShT} {σ : StT} {Q : Int → StT → Prop} (hS : SHP S) (k : (v1 = 0 → Q 0 (up2 (up2 (up2 σ 125 0 0) 125 3 (-1)) 125 1 v1)) ∧ (¬ (v1 = 0) → Q 1 (up2 (up2 (up2 σ 125 0 0) 125 3 (-1)) 125 1 v1))) : WPs mX11_isRefused [vR 125, vI v1] S σ Q := by
  refine s_entry (by decide) (Nat.le_of_ble_eq_true rfl) rfl rfl ?_
  refine r_aload_n dX11_isRefused_0 rfl ?_
  refine r_iconst dX11_isRefused_1 ⟨by decide, by decide⟩ ?_
  refine r_putIv dX11_isRefused_2 fl_X11_99 (fun _ h => by cases h; rfl) (Or.inl rfl) (k_125 hS) ?_
  refine r_aload_n dX11_isRefused_5 rfl ?_
  refine r_iconst dX11_isRefused_6 ⟨by decide, by decide⟩ ?_
  refine r_putIv dX11_isRefused_7 fl_X11_9 (fun _ h => by cases h; rfl) (Or.inl rfl) (k_125 hS) ?_
  refine r_aload_n dX11_isRefused_10 rfl ?_
  refine r_iload_n dX11_isRefused_11 rfl ?_
  refine r_putIv dX11_isRefused_12 fl_X11_102 (fun _ h => by cases h; rfl) (Or.inl rfl) (k_125 hS) ?_
  refine r_iload_n dX11_isRefused_15 rfl ?_
  refine r_if_eq (tgt := 23) dX11_isRefused_16 rfl (fun h => ?_) (fun h => ?_)
  · have k := k.1 h
    refine r_iconst dX11_isRefused_23 ⟨by decide, by decide⟩ ?_
    exact s_zret dX11_isRefused_24 rfl (by decide) k
  · have k := k.2 h
    refine r_iconst dX11_isRefused_19 ⟨by decide, by decide⟩ ?_
    refine r_goto (tgt := 24) dX11_isRefused_20 rfl ?_
    exact s_zret dX11_isRefused_24 rfl (by decide) k
theorem e_X11_unless {v0 : Int} {S : ShT} {σ : StT} {Q : Int → StT → Prop} (hS : SHP S) (k : (v0 = 0 → Q 1 σ) ∧ (¬ (v0 = 0) → Q 0 σ)) : WPs mX11_unless [vI v0] S σ Q := by
  refine s_entry (by decide) (Nat.le_of_ble_eq_true rfl) rfl rfl ?_
  refine r_iload_n dX11_unless_0 rfl ?_
  refine r_if_eq (tgt := 8) dX11_unless_1 rfl (fun h => ?_) (fun h => ?_)
  · have k := k.1 h
    refine r_iconst dX11_unless_8 ⟨by decide, by decide⟩ ?_
    exact s_iret dX11_unless_9 rfl k
  · have k := k.2 h
    refine r_iconst dX11_unless_4 ⟨by decide, by decide⟩ ?_
    refine r_goto (tgt := 9) dX11_unless_5 rfl ?_
    exact s_iret dX11_unless_9 rfl k
theorem e_X11_unless_ {v0 v1 : Int} {S : ShT} {σ : StT} {Q : Int → StT → Prop} (hS : SHP S) (k : (¬ v0 = 0 → (v1 = 0 → Q 2 σ) ∧ (¬ (v1 = 0) → Q 0 σ)) ∧ (v0 = 0 → Q 1 σ)) : WPs mX11_unless_ [vI v0, vI v1] S σ Q := by
  refine s_entry (by decide) (Nat.le_of_ble_eq_true rfl) rfl rfl ?_
  refine r_iload_n dX11_unless__0 rfl ?_
  refine r_if_ne (tgt := 8) dX11_unless__1 rfl (fun h => ?_) (fun h => ?_)
  · have k := k.1 h
    refine r_iload_n dX11_unless__8 rfl ?_
    refine r_if_eq (tgt := 16) dX11_unless__9 rfl (fun h => ?_) (fun h => ?_)
    · have k := k.1 h
      refine r_iconst dX11_unless__16 ⟨by decide, by decide⟩ ?_
      exact s_iret dX11_unless__17 rfl k
    · have k := k.2 h
      refine r_iconst dX11_unless__12 ⟨by decide, by decide⟩ ?_
      refine r_goto (tgt := 17) dX11_unless__13 rfl ?_
      exact s_iret dX11_unless__17 rfl k
  · have k := k.2 h
    refine r_iconst dX11_unless__4 ⟨by decide, by decide⟩ ?_
    refine r_goto (tgt := 17) dX11_unless__5 rfl ?_
    exact s_iret dX11_unless__17 rfl k
theorem e_X11_feed {v1 v2 v3 v4 v5 : Int} {S : ShT} {σ : StT} {Q : Int → StT → Prop} (hS : SHP S) (k : (σ 125 5 ≤ 680 → WPs mX11_laysWord [vR 125, vI v1] S (up2 σ 125 0 0) (fun r19 s19 => WPs mX11_laysWord [vR 125, vI v2] S s19 (fun r24 s24 => WPs mX11_laysWord [vR 125, vI v3] S s24 (fun r29 s29 => WPs mX11_laysWord [vR 125, vI v4] S s29 (fun r35 s35 => WPs mX11_laysWord [vR 125, vI v5] S s35 (fun r41 s41 => Q (s41 125 5) s41)))))) ∧ (¬ (σ 125 5 ≤ 680) → Q (-1) (up2 σ 125 0 0))) : WPs mX11_feed [vR 125, vI v1, vI v2, vI v3, vI v4, vI v5] S σ Q := by
  refine s_entry (by decide) (Nat.le_of_ble_eq_true rfl) rfl rfl ?_
  refine r_aload_n dX11_feed_0 rfl ?_
  refine r_iconst dX11_feed_1 ⟨by decide, by decide⟩ ?_
  refine r_putIv dX11_feed_2 fl_X11_99 (fun _ h => by cases h; rfl) (Or.inl rfl) (k_125 hS) ?_
  refine r_aload_n dX11_feed_5 rfl ?_
  refine r_getIv dX11_feed_6 fl_X11_105 rfl (k_125 hS) ?_
  refine r_top (up2_i (by decide)) ?_
  refine r_sipush dX11_feed_9 (by decide +kernel) ⟨by decide, by decide⟩ ?_
  refine r_icmp_le (tgt := 17) dX11_feed_12 rfl (fun h => ?_) (fun h => ?_)
  · have k := k.1 h
    refine r_aload_n dX11_feed_17 rfl ?_
    refine r_iload_n dX11_feed_18 rfl ?_
    refine s_callVv (z := mX11_laysWord) [vI v1] dX11_feed_19 mv_X11_laysWord lk_X11_108 rfl (by decide) (k_125 hS) (Nat.le_of_ble_eq_true rfl) (WPs.mono k (fun r19 s19 k => ?_))
    refine r_aload_n dX11_feed_22 rfl ?_
    refine r_iload_n dX11_feed_23 rfl ?_
    refine s_callVv (z := mX11_laysWord) [vI v2] dX11_feed_24 mv_X11_laysWord lk_X11_108 rfl (by decide) (k_125 hS) (Nat.le_of_ble_eq_true rfl) (WPs.mono k (fun r24 s24 k => ?_))
    refine r_aload_n dX11_feed_27 rfl ?_
    refine r_iload_n dX11_feed_28 rfl ?_
    refine s_callVv (z := mX11_laysWord) [vI v3] dX11_feed_29 mv_X11_laysWord lk_X11_108 rfl (by decide) (k_125 hS) (Nat.le_of_ble_eq_true rfl) (WPs.mono k (fun r29 s29 k => ?_))
    refine r_aload_n dX11_feed_32 rfl ?_
    refine r_iload dX11_feed_33 rfl ?_
    refine s_callVv (z := mX11_laysWord) [vI v4] dX11_feed_35 mv_X11_laysWord lk_X11_108 rfl (by decide) (k_125 hS) (Nat.le_of_ble_eq_true rfl) (WPs.mono k (fun r35 s35 k => ?_))
    refine r_aload_n dX11_feed_38 rfl ?_
    refine r_iload dX11_feed_39 rfl ?_
    refine s_callVv (z := mX11_laysWord) [vI v5] dX11_feed_41 mv_X11_laysWord lk_X11_108 rfl (by decide) (k_125 hS) (Nat.le_of_ble_eq_true rfl) (WPs.mono k (fun r41 s41 k => ?_))
    refine r_aload_n dX11_feed_44 rfl ?_
    refine r_getIv dX11_feed_45 fl_X11_105 rfl (k_125 hS) ?_
    exact s_iret dX11_feed_48 rfl k
  · have k := k.2 h
    refine r_iconst dX11_feed_15 ⟨by decide, by decide⟩ ?_
    exact s_iret dX11_feed_16 rfl k
theorem e_X11_laysWord {v1 : Int} {S : ShT} {σ : StT} {Q : Int → StT → Prop} (hS : SHP S) (k : AWs mX11_laysWord 2 [(0, vR 125), (1, vI v1), (2, vI 0)] [] S σ Q) : WPs mX11_laysWord [vR 125, vI v1] S σ Q := by
  refine s_entry (by decide) (Nat.le_of_ble_eq_true rfl) rfl rfl ?_
  refine r_iconst dX11_laysWord_0 ⟨by decide, by decide⟩ ?_
  refine r_istore_n dX11_laysWord_1 (by decide) rfl rfl ?_
  exact k
theorem t_X11_laysWord_2 {v1 v2 : Int} {S : ShT} {σ : StT} {Q : Int → StT → Prop} (hS : SHP S) (k : (4 ≤ v2 → inR ((σ 125 5) + 4) ∧ Q 0 (up2 σ 125 5 ((σ 125 5) + 4))) ∧ (¬ (4 ≤ v2) → inR ((σ 125 5) + v2) ∧ inR (8 * v2) ∧ inR (24 - (8 * v2)) ∧ (0 ≤ (σ 125 5) + v2 ∧ (σ 125 5) + v2 < 700) ∧ inR (v2 + 1) ∧ AWs mX11_laysWord 2 [(0, vR 125), (1, vI v1), (2, vI (v2 + 1))] [] S (up2 σ 126 ((σ 125 5) + v2).toNat (iAnd (iShr v1 (24 - (8 * v2))) 255)) Q)) : AWs mX11_laysWord 2 [(0, vR 125), (1, vI v1), (2, vI v2)] [] S σ Q := by
  refine r_iload_n dX11_laysWord_2 rfl ?_
  refine r_iconst dX11_laysWord_3 ⟨by decide, by decide⟩ ?_
  refine r_icmp_ge (tgt := 37) dX11_laysWord_4 rfl (fun h => ?_) (fun h => ?_)
  · have k := k.1 h
    refine r_aload_n dX11_laysWord_37 rfl ?_
    refine r_dup dX11_laysWord_38 rfl ?_
    refine r_getIv dX11_laysWord_39 fl_X11_105 rfl (k_125 hS) ?_
    refine r_iconst dX11_laysWord_42 ⟨by decide, by decide⟩ ?_
    obtain ⟨h, k⟩ := k
    refine r_iadd dX11_laysWord_43 h ?_
    refine r_putIv dX11_laysWord_44 fl_X11_105 (fun _ h => by cases h; rfl) (Or.inl rfl) (k_125 hS) ?_
    exact s_vret dX11_laysWord_47 rfl k
  · have k := k.2 h
    refine r_aload_n dX11_laysWord_7 rfl ?_
    refine r_getRv dX11_laysWord_8 fl_X11_13 rfl (k_125 hS) (f_125_4 hS) (by decide) ?_
    refine r_aload_n dX11_laysWord_11 rfl ?_
    refine r_getIv dX11_laysWord_12 fl_X11_105 rfl (k_125 hS) ?_
    refine r_iload_n dX11_laysWord_15 rfl ?_
    obtain ⟨h, k⟩ := k
    refine r_iadd dX11_laysWord_16 h ?_
    refine r_iload_n dX11_laysWord_17 rfl ?_
    refine r_bipush dX11_laysWord_18 (by decide +kernel) ⟨by decide, by decide⟩ ?_
    refine r_bipush dX11_laysWord_20 (by decide +kernel) ⟨by decide, by decide⟩ ?_
    refine r_iload_n dX11_laysWord_22 rfl ?_
    obtain ⟨h, k⟩ := k
    refine r_imul dX11_laysWord_23 h ?_
    obtain ⟨h, k⟩ := k
    refine r_isub dX11_laysWord_24 h ?_
    refine r_ishr dX11_laysWord_25 ?_
    refine r_sipush dX11_laysWord_26 (by decide +kernel) ⟨by decide, by decide⟩ ?_
    refine r_iand dX11_laysWord_29 ?_
    obtain ⟨⟨h0, h1⟩, k⟩ := k
    refine r_iast dX11_laysWord_30 (k_126 hS) h0 h1 ?_
    obtain ⟨h, k⟩ := k
    refine r_iinc dX11_laysWord_31 rfl (by decide) rfl rfl h ?_
    refine r_goto (tgt := 2) dX11_laysWord_34 rfl ?_
    exact k
theorem e_X11_copies {a na : Nat} {b nb : Nat} {v1 v3 : Int} {S : ShT} {σ : StT} {Q : Int → StT → Prop} (hS : SHP S) (ha : S.2.1 a = (1, na)) (hb : S.2.1 b = (1, nb)) (k : AWs mX11_copies 3 [(0, vR a), (1, vI v1), (2, vR b), (3, vI v3), (4, vI 0)] [] S σ Q) : WPs mX11_copies [vR a, vI v1, vR b, vI v3] S σ Q := by
  refine s_entry (by decide) (Nat.le_of_ble_eq_true rfl) rfl rfl ?_
  refine r_iconst dX11_copies_0 ⟨by decide, by decide⟩ ?_
  refine r_istore dX11_copies_1 (by decide) rfl rfl ?_
  exact k
theorem t_X11_copies_3 {a na : Nat} {b nb : Nat} {v1 v3 v4 : Int} {S : ShT} {σ : StT} {Q : Int → StT → Prop} (hS : SHP S) (ha : S.2.1 a = (1, na)) (hb : S.2.1 b = (1, nb)) (k : (152 ≤ v4 → Q 0 σ) ∧ (¬ (152 ≤ v4) → inR (v3 + v4) ∧ inR (v1 + v4) ∧ (0 ≤ v1 + v4 ∧ v1 + v4 < (na : Int)) ∧ (0 ≤ v3 + v4 ∧ v3 + v4 < (nb : Int)) ∧ inR (v4 + 1) ∧ AWs mX11_copies 3 [(0, vR a), (1, vI v1), (2, vR b), (3, vI v3), (4, vI (v4 + 1))] [] S (up2 σ b (v3 + v4).toNat (σ a (v1 + v4).toNat)) Q)) : AWs mX11_copies 3 [(0, vR a), (1, vI v1), (2, vR b), (3, vI v3), (4, vI v4)] [] S σ Q := by
  refine r_iload dX11_copies_3 rfl ?_
  refine r_sipush dX11_copies_5 (by decide +kernel) ⟨by decide, by decide⟩ ?_
  refine r_icmp_ge (tgt := 29) dX11_copies_8 rfl (fun h => ?_) (fun h => ?_)
  · have k := k.1 h
    exact s_vret dX11_copies_29 rfl k
  · have k := k.2 h
    refine r_aload_n dX11_copies_11 rfl ?_
    refine r_iload_n dX11_copies_12 rfl ?_
    refine r_iload dX11_copies_13 rfl ?_
    obtain ⟨h, k⟩ := k
    refine r_iadd dX11_copies_15 h ?_
    refine r_aload_n dX11_copies_16 rfl ?_
    refine r_iload_n dX11_copies_17 rfl ?_
    refine r_iload dX11_copies_18 rfl ?_
    obtain ⟨h, k⟩ := k
    refine r_iadd dX11_copies_20 h ?_
    obtain ⟨⟨h0, h1⟩, k⟩ := k
    refine r_iald dX11_copies_21 (Or.inl ha) h0 h1 ?_
    obtain ⟨⟨h0, h1⟩, k⟩ := k
    refine r_iast dX11_copies_22 hb h0 h1 ?_
    obtain ⟨h, k⟩ := k
    refine r_iinc dX11_copies_23 rfl (by decide) rfl rfl h ?_
    refine r_goto (tgt := 3) dX11_copies_26 rfl ?_
    exact k
theorem e_X11_see {v1 : Int} {S : ShT} {σ : StT} {Q : Int → StT → Prop} (hS : SHP S) (k : (σ 125 12 ≤ v1 → Q (-1) σ) ∧ (¬ (σ 125 12 ≤ v1) → (0 ≤ v1 ∧ v1 < 700) ∧ Q (σ 126 v1.toNat) σ)) : WPs mX11_see [vR 125, vI v1] S σ Q := by
  refine s_entry (by decide) (Nat.le_of_ble_eq_true rfl) rfl rfl ?_
  refine r_iload_n dX11_see_0 rfl ?_
  refine r_aload_n dX11_see_1 rfl ?_
  refine r_getIv dX11_see_2 fl_X11_112 rfl (k_125 hS) ?_
  refine r_icmp_ge (tgt := 17) dX11_see_5 rfl (fun h => ?_) (fun h => ?_)
  · have k := k.1 h
    refine r_iconst dX11_see_17 ⟨by decide, by decide⟩ ?_
    exact s_iret dX11_see_18 rfl k
  · have k := k.2 h
    refine r_aload_n dX11_see_8 rfl ?_
    refine r_getRv dX11_see_9 fl_X11_13 rfl (k_125 hS) (f_125_4 hS) (by decide) ?_
    refine r_iload_n dX11_see_12 rfl ?_
    obtain ⟨⟨h0, h1⟩, k⟩ := k
    refine r_iald dX11_see_13 (Or.inl (k_126 hS)) h0 h1 ?_
    refine r_goto (tgt := 18) dX11_see_14 rfl ?_
    exact s_iret dX11_see_18 rfl k
theorem e_X11_goesOn {S : ShT} {σ : StT} {Q : Int → StT → Prop} (hS : SHP S) (k : AWs mX11_goesOn 0 [(0, vR 125)] [] S σ Q) : WPs mX11_goesOn [vR 125] S σ Q := by
  refine s_entry (by decide) (Nat.le_of_ble_eq_true rfl) rfl rfl ?_
  exact k
theorem t_X11_goesOn_0 {S : ShT} {σ : StT} {Q : Int → StT → Prop} (hS : SHP S) (k : WPs mX11_see [vR 125, vI (σ 125 14)] S σ (fun r5 s5 => (¬ r5 = 32 → WPs mX11_see [vR 125, vI (s5 125 14)] S (up2 s5 125 13 (s5 125 14)) (fun r39 s39 => (¬ r39 = -1 → WPs mX11_in [vI r39, vI 97, vI 122] S s39 (fun r59 s59 => (r59 = 0 → WPs mX11_in [vI r39, vI 48, vI 57] S s59 (fun r125 s125 => (r125 = 0 → inR ((s125 125 14) + 1) ∧ ((¬ r39 = 59 → Q 0 (up2 (up2 s125 125 14 ((s125 125 14) + 1)) 125 15 1)) ∧ (r39 = 59 → Q 0 (up2 (up2 s125 125 14 ((s125 125 14) + 1)) 125 15 r39)))) ∧ (¬ (r125 = 0) → AWs mX11_goesOn 136 [(0, vR 125)] [] S (up2 s125 125 16 0) Q))) ∧ (¬ (r59 = 0) → AWs mX11_goesOn 65 [(0, vR 125)] [] S s59 Q))) ∧ (r39 = -1 → Q 0 (up2 s39 125 15 0)))) ∧ (r5 = 32 → inR ((s5 125 14) + 1) ∧ AWs mX11_goesOn 0 [(0, vR 125)] [] S (up2 s5 125 14 ((s5 125 14) + 1)) Q))) : AWs mX11_goesOn 0 [(0, vR 125)] [] S σ Q := by
  refine r_aload_n dX11_goesOn_0 rfl ?_
  refine r_aload_n dX11_goesOn_1 rfl ?_
  refine r_getIv dX11_goesOn_2 fl_X11_115 rfl (k_125 hS) ?_
  refine s_callVv (z := mX11_see) [vI (σ 125 14)] dX11_goesOn_5 mv_X11_see lk_X11_118 rfl (by decide) (k_125 hS) (Nat.le_of_ble_eq_true rfl) (WPs.mono k (fun r5 s5 k => ?_))
  refine r_bipush dX11_goesOn_8 (by decide +kernel) ⟨by decide, by decide⟩ ?_
  refine r_icmp_ne (tgt := 26) dX11_goesOn_10 rfl (fun h => ?_) (fun h => ?_)
  · have k := k.1 h
    refine r_aload_n dX11_goesOn_26 rfl ?_
    refine r_aload_n dX11_goesOn_27 rfl ?_
    refine r_getIv dX11_goesOn_28 fl_X11_115 rfl (k_125 hS) ?_
    refine r_putIv dX11_goesOn_31 fl_X11_122 (fun _ h => by cases h; rfl) (Or.inl rfl) (k_125 hS) ?_
    refine r_aload_n dX11_goesOn_34 rfl ?_
    refine r_aload_n dX11_goesOn_35 rfl ?_
    refine r_getIv dX11_goesOn_36 fl_X11_115 rfl (k_125 hS) ?_
    refine r_top (up2_i (by decide)) ?_
    refine s_callVv (z := mX11_see) [vI (s5 125 14)] dX11_goesOn_39 mv_X11_see lk_X11_118 rfl (by decide) (k_125 hS) (Nat.le_of_ble_eq_true rfl) (WPs.mono k (fun r39 s39 k => ?_))
    refine r_istore_n dX11_goesOn_42 (by decide) rfl rfl ?_
    refine r_iload_n dX11_goesOn_43 rfl ?_
    refine r_iconst dX11_goesOn_44 ⟨by decide, by decide⟩ ?_
    refine r_icmp_ne (tgt := 54) dX11_goesOn_45 rfl (fun h => ?_) (fun h => ?_)
    · have k := k.1 h
      refine r_iload_n dX11_goesOn_54 rfl ?_
      refine r_bipush dX11_goesOn_55 (by decide +kernel) ⟨by decide, by decide⟩ ?_
      refine r_bipush dX11_goesOn_57 (by decide +kernel) ⟨by decide, by decide⟩ ?_
      refine s_callS (z := mX11_in) [vI r39, vI 97, vI 122] dX11_goesOn_59 ms_X11_in lk_X11_128 rfl (by decide) (Nat.le_of_ble_eq_true rfl) (WPs.mono k (fun r59 s59 k => ?_))
      refine r_if_eq (tgt := 120) dX11_goesOn_62 rfl (fun h => ?_) (fun h => ?_)
      · have k := k.1 h
        refine r_iload_n dX11_goesOn_120 rfl ?_
        refine r_bipush dX11_goesOn_121 (by decide +kernel) ⟨by decide, by decide⟩ ?_
        refine r_bipush dX11_goesOn_123 (by decide +kernel) ⟨by decide, by decide⟩ ?_
        refine s_callS (z := mX11_in) [vI r39, vI 48, vI 57] dX11_goesOn_125 ms_X11_in lk_X11_128 rfl (by decide) (Nat.le_of_ble_eq_true rfl) (WPs.mono k (fun r125 s125 k => ?_))
        refine r_if_eq (tgt := 233) dX11_goesOn_128 rfl (fun h => ?_) (fun h => ?_)
        · have k := k.1 h
          refine r_aload_n dX11_goesOn_233 rfl ?_
          refine r_dup dX11_goesOn_234 rfl ?_
          refine r_getIv dX11_goesOn_235 fl_X11_115 rfl (k_125 hS) ?_
          refine r_iconst dX11_goesOn_238 ⟨by decide, by decide⟩ ?_
          obtain ⟨h, k⟩ := k
          refine r_iadd dX11_goesOn_239 h ?_
          refine r_putIv dX11_goesOn_240 fl_X11_115 (fun _ h => by cases h; rfl) (Or.inl rfl) (k_125 hS) ?_
          refine r_aload_n dX11_goesOn_243 rfl ?_
          refine r_iload_n dX11_goesOn_244 rfl ?_
          refine r_bipush dX11_goesOn_245 (by decide +kernel) ⟨by decide, by decide⟩ ?_
          refine r_icmp_ne (tgt := 254) dX11_goesOn_247 rfl (fun h => ?_) (fun h => ?_)
          · have k := k.1 h
            refine r_iconst dX11_goesOn_254 ⟨by decide, by decide⟩ ?_
            refine r_putIv dX11_goesOn_255 fl_X11_125 (fun _ h => by cases h; rfl) (Or.inl rfl) (k_125 hS) ?_
            exact s_vret dX11_goesOn_258 rfl k
          · have k := k.2 h
            refine r_iload_n dX11_goesOn_250 rfl ?_
            refine r_goto (tgt := 255) dX11_goesOn_251 rfl ?_
            refine r_putIv dX11_goesOn_255 fl_X11_125 (fun _ h => by cases h; rfl) (Or.inl rfl) (k_125 hS) ?_
            exact s_vret dX11_goesOn_258 rfl k
        · have k := k.2 h
          refine r_aload_n dX11_goesOn_131 rfl ?_
          refine r_iconst dX11_goesOn_132 ⟨by decide, by decide⟩ ?_
          refine r_putIv dX11_goesOn_133 fl_X11_132 (fun _ h => by cases h; rfl) (Or.inl rfl) (k_125 hS) ?_
          refine r_loc [0] rfl ?_
          exact k
      · have k := k.2 h
        refine r_loc [0] rfl ?_
        exact k
    · have k := k.2 h
      refine r_aload_n dX11_goesOn_48 rfl ?_
      refine r_iconst dX11_goesOn_49 ⟨by decide, by decide⟩ ?_
      refine r_putIv dX11_goesOn_50 fl_X11_125 (fun _ h => by cases h; rfl) (Or.inl rfl) (k_125 hS) ?_
      exact s_vret dX11_goesOn_53 rfl k
  · have k := k.2 h
    refine r_aload_n dX11_goesOn_13 rfl ?_
    refine r_dup dX11_goesOn_14 rfl ?_
    refine r_getIv dX11_goesOn_15 fl_X11_115 rfl (k_125 hS) ?_
    refine r_iconst dX11_goesOn_18 ⟨by decide, by decide⟩ ?_
    obtain ⟨h, k⟩ := k
    refine r_iadd dX11_goesOn_19 h ?_
    refine r_putIv dX11_goesOn_20 fl_X11_115 (fun _ h => by cases h; rfl) (Or.inl rfl) (k_125 hS) ?_
    refine r_goto (tgt := 0) dX11_goesOn_23 rfl ?_
    exact k
theorem t_X11_goesOn_65 {S : ShT} {σ : StT} {Q : Int → StT → Prop} (hS : SHP S) (k : WPs mX11_see [vR 125, vI (σ 125 14)] S σ (fun r70 s70 => WPs mX11_in [vI r70, vI 97, vI 122] S s70 (fun r77 s77 => (r77 = 0 → inR ((s77 125 14) - (s77 125 13)) ∧ (((s77 125 14) - (s77 125 13) ≤ 6 → Q 0 (up2 s77 125 15 2)) ∧ (¬ ((s77 125 14) - (s77 125 13) ≤ 6) → Q 0 (up2 s77 125 15 1)))) ∧ (¬ (r77 = 0) → inR ((s77 125 14) + 1) ∧ AWs mX11_goesOn 65 [(0, vR 125)] [] S (up2 s77 125 14 ((s77 125 14) + 1)) Q)))) : AWs mX11_goesOn 65 [(0, vR 125)] [] S σ Q := by
  refine r_aload_n dX11_goesOn_65 rfl ?_
  refine r_aload_n dX11_goesOn_66 rfl ?_
  refine r_getIv dX11_goesOn_67 fl_X11_115 rfl (k_125 hS) ?_
  refine s_callVv (z := mX11_see) [vI (σ 125 14)] dX11_goesOn_70 mv_X11_see lk_X11_118 rfl (by decide) (k_125 hS) (Nat.le_of_ble_eq_true rfl) (WPs.mono k (fun r70 s70 k => ?_))
  refine r_bipush dX11_goesOn_73 (by decide +kernel) ⟨by decide, by decide⟩ ?_
  refine r_bipush dX11_goesOn_75 (by decide +kernel) ⟨by decide, by decide⟩ ?_
  refine s_callS (z := mX11_in) [vI r70, vI 97, vI 122] dX11_goesOn_77 ms_X11_in lk_X11_128 rfl (by decide) (Nat.le_of_ble_eq_true rfl) (WPs.mono k (fun r77 s77 k => ?_))
  refine r_if_eq (tgt := 96) dX11_goesOn_80 rfl (fun h => ?_) (fun h => ?_)
  · have k := k.1 h
    refine r_aload_n dX11_goesOn_96 rfl ?_
    refine r_aload_n dX11_goesOn_97 rfl ?_
    refine r_getIv dX11_goesOn_98 fl_X11_115 rfl (k_125 hS) ?_
    refine r_aload_n dX11_goesOn_101 rfl ?_
    refine r_getIv dX11_goesOn_102 fl_X11_122 rfl (k_125 hS) ?_
    obtain ⟨h, k⟩ := k
    refine r_isub dX11_goesOn_105 h ?_
    refine r_bipush dX11_goesOn_106 (by decide +kernel) ⟨by decide, by decide⟩ ?_
    refine r_icmp_le (tgt := 115) dX11_goesOn_108 rfl (fun h => ?_) (fun h => ?_)
    · have k := k.1 h
      refine r_iconst dX11_goesOn_115 ⟨by decide, by decide⟩ ?_
      refine r_putIv dX11_goesOn_116 fl_X11_125 (fun _ h => by cases h; rfl) (Or.inl rfl) (k_125 hS) ?_
      exact s_vret dX11_goesOn_119 rfl k
    · have k := k.2 h
      refine r_iconst dX11_goesOn_111 ⟨by decide, by decide⟩ ?_
      refine r_goto (tgt := 116) dX11_goesOn_112 rfl ?_
      refine r_putIv dX11_goesOn_116 fl_X11_125 (fun _ h => by cases h; rfl) (Or.inl rfl) (k_125 hS) ?_
      exact s_vret dX11_goesOn_119 rfl k
  · have k := k.2 h
    refine r_aload_n dX11_goesOn_83 rfl ?_
    refine r_dup dX11_goesOn_84 rfl ?_
    refine r_getIv dX11_goesOn_85 fl_X11_115 rfl (k_125 hS) ?_
    refine r_iconst dX11_goesOn_88 ⟨by decide, by decide⟩ ?_
    obtain ⟨h, k⟩ := k
    refine r_iadd dX11_goesOn_89 h ?_
    refine r_putIv dX11_goesOn_90 fl_X11_115 (fun _ h => by cases h; rfl) (Or.inl rfl) (k_125 hS) ?_
    refine r_goto (tgt := 65) dX11_goesOn_93 rfl ?_
    exact k
theorem t_X11_goesOn_136 {S : ShT} {σ : StT} {Q : Int → StT → Prop} (hS : SHP S) (k : WPs mX11_see [vR 125, vI (σ 125 14)] S σ (fun r141 s141 => WPs mX11_in [vI r141, vI 48, vI 57] S s141 (fun r148 s148 => (r148 = 0 → inR ((s148 125 14) - (s148 125 13)) ∧ (((s148 125 14) - (s148 125 13) ≤ 3 → Q 0 (up2 s148 125 15 3)) ∧ (¬ ((s148 125 14) - (s148 125 13) ≤ 3) → Q 0 (up2 s148 125 15 1)))) ∧ (¬ (r148 = 0) → inR ((s148 125 14) - (s148 125 13)) ∧ ((3 ≤ (s148 125 14) - (s148 125 13) → inR ((s148 125 14) + 1) ∧ AWs mX11_goesOn 136 [(0, vR 125)] [] S (up2 (up2 s148 125 16 (s148 125 16)) 125 14 ((s148 125 14) + 1)) Q) ∧ (¬ (3 ≤ (s148 125 14) - (s148 125 13)) → inR (10 * (s148 125 16)) ∧ WPs mX11_see [vR 125, vI (s148 125 14)] S s148 (fun r180 s180 => inR ((10 * (s148 125 16)) + r180) ∧ inR (((10 * (s148 125 16)) + r180) - 48) ∧ inR ((s180 125 14) + 1) ∧ AWs mX11_goesOn 136 [(0, vR 125)] [] S (up2 (up2 s180 125 16 (((10 * (s148 125 16)) + r180) - 48)) 125 14 ((s180 125 14) + 1)) Q))))))) : AWs mX11_goesOn 136 [(0, vR 125)] [] S σ Q := by
  refine r_aload_n dX11_goesOn_136 rfl ?_
  refine r_aload_n dX11_goesOn_137 rfl ?_
  refine r_getIv dX11_goesOn_138 fl_X11_115 rfl (k_125 hS) ?_
  refine s_callVv (z := mX11_see) [vI (σ 125 14)] dX11_goesOn_141 mv_X11_see lk_X11_118 rfl (by decide) (k_125 hS) (Nat.le_of_ble_eq_true rfl) (WPs.mono k (fun r141 s141 k => ?_))
  refine r_bipush dX11_goesOn_144 (by decide +kernel) ⟨by decide, by decide⟩ ?_
  refine r_bipush dX11_goesOn_146 (by decide +kernel) ⟨by decide, by decide⟩ ?_
  refine s_callS (z := mX11_in) [vI r141, vI 48, vI 57] dX11_goesOn_148 ms_X11_in lk_X11_128 rfl (by decide) (Nat.le_of_ble_eq_true rfl) (WPs.mono k (fun r148 s148 k => ?_))
  refine r_if_eq (tgt := 210) dX11_goesOn_151 rfl (fun h => ?_) (fun h => ?_)
  · have k := k.1 h
    refine r_aload_n dX11_goesOn_210 rfl ?_
    refine r_aload_n dX11_goesOn_211 rfl ?_
    refine r_getIv dX11_goesOn_212 fl_X11_115 rfl (k_125 hS) ?_
    refine r_aload_n dX11_goesOn_215 rfl ?_
    refine r_getIv dX11_goesOn_216 fl_X11_122 rfl (k_125 hS) ?_
    obtain ⟨h, k⟩ := k
    refine r_isub dX11_goesOn_219 h ?_
    refine r_iconst dX11_goesOn_220 ⟨by decide, by decide⟩ ?_
    refine r_icmp_le (tgt := 228) dX11_goesOn_221 rfl (fun h => ?_) (fun h => ?_)
    · have k := k.1 h
      refine r_iconst dX11_goesOn_228 ⟨by decide, by decide⟩ ?_
      refine r_putIv dX11_goesOn_229 fl_X11_125 (fun _ h => by cases h; rfl) (Or.inl rfl) (k_125 hS) ?_
      exact s_vret dX11_goesOn_232 rfl k
    · have k := k.2 h
      refine r_iconst dX11_goesOn_224 ⟨by decide, by decide⟩ ?_
      refine r_goto (tgt := 229) dX11_goesOn_225 rfl ?_
      refine r_putIv dX11_goesOn_229 fl_X11_125 (fun _ h => by cases h; rfl) (Or.inl rfl) (k_125 hS) ?_
      exact s_vret dX11_goesOn_232 rfl k
  · have k := k.2 h
    refine r_aload_n dX11_goesOn_154 rfl ?_
    refine r_aload_n dX11_goesOn_155 rfl ?_
    refine r_getIv dX11_goesOn_156 fl_X11_115 rfl (k_125 hS) ?_
    refine r_aload_n dX11_goesOn_159 rfl ?_
    refine r_getIv dX11_goesOn_160 fl_X11_122 rfl (k_125 hS) ?_
    obtain ⟨h, k⟩ := k
    refine r_isub dX11_goesOn_163 h ?_
    refine r_iconst dX11_goesOn_164 ⟨by decide, by decide⟩ ?_
    refine r_icmp_ge (tgt := 190) dX11_goesOn_165 rfl (fun h => ?_) (fun h => ?_)
    · have k := k.1 h
      refine r_aload_n dX11_goesOn_190 rfl ?_
      refine r_getIv dX11_goesOn_191 fl_X11_132 rfl (k_125 hS) ?_
      refine r_putIv dX11_goesOn_194 fl_X11_132 (fun _ h => by cases h; rfl) (Or.inl rfl) (k_125 hS) ?_
      refine r_aload_n dX11_goesOn_197 rfl ?_
      refine r_dup dX11_goesOn_198 rfl ?_
      refine r_getIv dX11_goesOn_199 fl_X11_115 rfl (k_125 hS) ?_
      refine r_top (up2_i (by decide)) ?_
      refine r_iconst dX11_goesOn_202 ⟨by decide, by decide⟩ ?_
      obtain ⟨h, k⟩ := k
      refine r_iadd dX11_goesOn_203 h ?_
      refine r_putIv dX11_goesOn_204 fl_X11_115 (fun _ h => by cases h; rfl) (Or.inl rfl) (k_125 hS) ?_
      refine r_goto (tgt := 136) dX11_goesOn_207 rfl ?_
      exact k
    · have k := k.2 h
      refine r_bipush dX11_goesOn_168 (by decide +kernel) ⟨by decide, by decide⟩ ?_
      refine r_aload_n dX11_goesOn_170 rfl ?_
      refine r_getIv dX11_goesOn_171 fl_X11_132 rfl (k_125 hS) ?_
      obtain ⟨h, k⟩ := k
      refine r_imul dX11_goesOn_174 h ?_
      refine r_aload_n dX11_goesOn_175 rfl ?_
      refine r_aload_n dX11_goesOn_176 rfl ?_
      refine r_getIv dX11_goesOn_177 fl_X11_115 rfl (k_125 hS) ?_
      refine s_callVv (z := mX11_see) [vI (s148 125 14)] dX11_goesOn_180 mv_X11_see lk_X11_118 rfl (by decide) (k_125 hS) (Nat.le_of_ble_eq_true rfl) (WPs.mono k (fun r180 s180 k => ?_))
      obtain ⟨h, k⟩ := k
      refine r_iadd dX11_goesOn_183 h ?_
      refine r_bipush dX11_goesOn_184 (by decide +kernel) ⟨by decide, by decide⟩ ?_
      obtain ⟨h, k⟩ := k
      refine r_isub dX11_goesOn_186 h ?_
      refine r_goto (tgt := 194) dX11_goesOn_187 rfl ?_
      refine r_putIv dX11_goesOn_194 fl_X11_132 (fun _ h => by cases h; rfl) (Or.inl rfl) (k_125 hS) ?_
      refine r_aload_n dX11_goesOn_197 rfl ?_
      refine r_dup dX11_goesOn_198 rfl ?_
      refine r_getIv dX11_goesOn_199 fl_X11_115 rfl (k_125 hS) ?_
      refine r_top (up2_i (by decide)) ?_
      refine r_iconst dX11_goesOn_202 ⟨by decide, by decide⟩ ?_
      obtain ⟨h, k⟩ := k
      refine r_iadd dX11_goesOn_203 h ?_
      refine r_putIv dX11_goesOn_204 fl_X11_115 (fun _ h => by cases h; rfl) (Or.inl rfl) (k_125 hS) ?_
      refine r_goto (tgt := 136) dX11_goesOn_207 rfl ?_
      exact k
theorem e_X11_isWord {w : Nat} {S : ShT} {σ : StT} {Q : Int → StT → Prop} (hS : SHP S) (hw : w < 12) (k : (¬ σ 125 15 = 2 → Q 0 σ) ∧ (σ 125 15 = 2 → inR ((σ 125 14) - (σ 125 13)) ∧ WPs mJ0_length_8abf5 [vR (BIG + 1 + w)] S σ (fun r18 s18 => ((σ 125 14) - (σ 125 13) = r18 → AWs mX11_isWord 28 [(0, vR 125), (1, vR (BIG + 1 + w)), (2, vI 0)] [] S s18 Q) ∧ (¬ ((σ 125 14) - (σ 125 13) = r18) → Q 0 s18)))) : WPs mX11_isWord [vR 125, vR (BIG + 1 + w)] S σ Q := by
  refine s_entry (by decide) (Nat.le_of_ble_eq_true rfl) rfl rfl ?_
  refine r_aload_n dX11_isWord_0 rfl ?_
  refine r_getIv dX11_isWord_1 fl_X11_125 rfl (k_125 hS) ?_
  refine r_iconst dX11_isWord_4 ⟨by decide, by decide⟩ ?_
  refine r_icmp_ne (tgt := 24) dX11_isWord_5 rfl (fun h => ?_) (fun h => ?_)
  · have k := k.1 h
    refine r_iconst dX11_isWord_24 ⟨by decide, by decide⟩ ?_
    exact s_zret dX11_isWord_25 rfl (by decide) k
  · have k := k.2 h
    refine r_aload_n dX11_isWord_8 rfl ?_
    refine r_getIv dX11_isWord_9 fl_X11_115 rfl (k_125 hS) ?_
    refine r_aload_n dX11_isWord_12 rfl ?_
    refine r_getIv dX11_isWord_13 fl_X11_122 rfl (k_125 hS) ?_
    obtain ⟨h, k⟩ := k
    refine r_isub dX11_isWord_16 h ?_
    refine r_aload_n dX11_isWord_17 rfl ?_
    refine s_callStr (z := mJ0_length_8abf5) [] dX11_isWord_18 mo_J0_length_8abf5 lk_X11_135 wj_len rfl (by decide) hw (Nat.le_of_ble_eq_true rfl) (WPs.mono k (fun r18 s18 k => ?_))
    refine r_icmp_eq (tgt := 26) dX11_isWord_21 rfl (fun h => ?_) (fun h => ?_)
    · have k := k.1 h
      refine r_iconst dX11_isWord_26 ⟨by decide, by decide⟩ ?_
      refine r_istore_n dX11_isWord_27 (by decide) rfl rfl ?_
      exact k
    · have k := k.2 h
      refine r_iconst dX11_isWord_24 ⟨by decide, by decide⟩ ?_
      exact s_zret dX11_isWord_25 rfl (by decide) k
theorem t_X11_isWord_28 {w : Nat} {v2 : Int} {S : ShT} {σ : StT} {Q : Int → StT → Prop} (hS : SHP S) (hw : w < 12) (k : WPs mJ0_length_8abf5 [vR (BIG + 1 + w)] S σ (fun r30 s30 => (r30 ≤ v2 → Q 1 s30) ∧ (¬ (r30 ≤ v2) → inR ((s30 125 13) + v2) ∧ ((0 ≤ (s30 125 13) + v2 ∧ (s30 125 13) + v2 < 700) ∧ WPs mJ0_charAt_5068e [vR (BIG + 1 + w), vI v2] S s30 (fun r49 s49 => (s30 126 ((s30 125 13) + v2).toNat = r49 → inR (v2 + 1) ∧ AWs mX11_isWord 28 [(0, vR 125), (1, vR (BIG + 1 + w)), (2, vI (v2 + 1))] [] S s49 Q) ∧ (¬ (s30 126 ((s30 125 13) + v2).toNat = r49) → Q 0 s49)))))) : AWs mX11_isWord 28 [(0, vR 125), (1, vR (BIG + 1 + w)), (2, vI v2)] [] S σ Q := by
  refine r_iload_n dX11_isWord_28 rfl ?_
  refine r_aload_n dX11_isWord_29 rfl ?_
  refine s_callStr (z := mJ0_length_8abf5) [] dX11_isWord_30 mo_J0_length_8abf5 lk_X11_135 wj_len rfl (by decide) hw (Nat.le_of_ble_eq_true rfl) (WPs.mono k (fun r30 s30 k => ?_))
  refine r_icmp_ge (tgt := 63) dX11_isWord_33 rfl (fun h => ?_) (fun h => ?_)
  · have k := k.1 h
    refine r_iconst dX11_isWord_63 ⟨by decide, by decide⟩ ?_
    exact s_zret dX11_isWord_64 rfl (by decide) k
  · have k := k.2 h
    refine r_aload_n dX11_isWord_36 rfl ?_
    refine r_getRv dX11_isWord_37 fl_X11_13 rfl (k_125 hS) (f_125_4 hS) (by decide) ?_
    refine r_aload_n dX11_isWord_40 rfl ?_
    refine r_getIv dX11_isWord_41 fl_X11_122 rfl (k_125 hS) ?_
    refine r_iload_n dX11_isWord_44 rfl ?_
    obtain ⟨h, k⟩ := k
    refine r_iadd dX11_isWord_45 h ?_
    obtain ⟨⟨h0, h1⟩, k⟩ := k
    refine r_iald dX11_isWord_46 (Or.inl (k_126 hS)) h0 h1 ?_
    refine r_aload_n dX11_isWord_47 rfl ?_
    refine r_iload_n dX11_isWord_48 rfl ?_
    refine s_callStr (z := mJ0_charAt_5068e) [vI v2] dX11_isWord_49 mo_J0_charAt_5068e lk_X11_141 wj_cha rfl (by decide) hw (Nat.le_of_ble_eq_true rfl) (WPs.mono k (fun r49 s49 k => ?_))
    refine r_icmp_eq (tgt := 57) dX11_isWord_52 rfl (fun h => ?_) (fun h => ?_)
    · have k := k.1 h
      obtain ⟨h, k⟩ := k
      refine r_iinc dX11_isWord_57 rfl (by decide) rfl rfl h ?_
      refine r_goto (tgt := 28) dX11_isWord_60 rfl ?_
      exact k
    · have k := k.2 h
      refine r_iconst dX11_isWord_55 ⟨by decide, by decide⟩ ?_
      exact s_zret dX11_isWord_56 rfl (by decide) k
theorem e_X11_errs {v1 : Int} {S : ShT} {σ : StT} {Q : Int → StT → Prop} (hS : SHP S) (k : Q 0 (up2 (up2 σ 125 17 v1) 125 18 (σ 125 13))) : WPs mX11_errs [vR 125, vI v1] S σ Q := by
  refine s_entry (by decide) (Nat.le_of_ble_eq_true rfl) rfl rfl ?_
  refine r_aload_n dX11_errs_0 rfl ?_
  refine r_iload_n dX11_errs_1 rfl ?_
  refine r_putIv dX11_errs_2 fl_X11_145 (fun _ h => by cases h; rfl) (Or.inl rfl) (k_125 hS) ?_
  refine r_aload_n dX11_errs_5 rfl ?_
  refine r_aload_n dX11_errs_6 rfl ?_
  refine r_getIv dX11_errs_7 fl_X11_122 rfl (k_125 hS) ?_
  refine r_top (up2_i (by decide)) ?_
  refine r_putIv dX11_errs_10 fl_X11_148 (fun _ h => by cases h; rfl) (Or.inl rfl) (k_125 hS) ?_
  refine r_iconst dX11_errs_13 ⟨by decide, by decide⟩ ?_
  exact s_zret dX11_errs_14 rfl (by decide) k
theorem e_X11_lays {v1 v2 v3 : Int} {S : ShT} {σ : StT} {Q : Int → StT → Prop} (hS : SHP S) (k : (σ 125 15 = 3 → WPs mX11_in [vI (σ 125 16), vI v2, vI v3] S σ (fun r20 s20 => (¬ r20 = 0 → (0 ≤ v1 ∧ v1 < 152) ∧ WPs mX11_goesOn [vR 125] S (up2 s20 128 v1.toNat (s20 125 16)) (fun r43 s43 => Q 1 s43)) ∧ (r20 = 0 → WPs mX11_errs [vR 125, vI 2] S s20 (fun r28 s28 => (r28 = 0 ∨ r28 = 1) ∧ Q r28 s28)))) ∧ (¬ (σ 125 15 = 3) → WPs mX11_errs [vR 125, vI 1] S σ (fun r10 s10 => (r10 = 0 ∨ r10 = 1) ∧ Q r10 s10))) : WPs mX11_lays [vR 125, vI v1, vI v2, vI v3] S σ Q := by
  refine s_entry (by decide) (Nat.le_of_ble_eq_true rfl) rfl rfl ?_
  refine r_aload_n dX11_lays_0 rfl ?_
  refine r_getIv dX11_lays_1 fl_X11_125 rfl (k_125 hS) ?_
  refine r_iconst dX11_lays_4 ⟨by decide, by decide⟩ ?_
  refine r_icmp_eq (tgt := 14) dX11_lays_5 rfl (fun h => ?_) (fun h => ?_)
  · have k := k.1 h
    refine r_aload_n dX11_lays_14 rfl ?_
    refine r_getIv dX11_lays_15 fl_X11_132 rfl (k_125 hS) ?_
    refine r_iload_n dX11_lays_18 rfl ?_
    refine r_iload_n dX11_lays_19 rfl ?_
    refine s_callS (z := mX11_in) [vI (σ 125 16), vI v2, vI v3] dX11_lays_20 ms_X11_in lk_X11_128 rfl (by decide) (Nat.le_of_ble_eq_true rfl) (WPs.mono k (fun r20 s20 k => ?_))
    refine r_if_ne (tgt := 32) dX11_lays_23 rfl (fun h => ?_) (fun h => ?_)
    · have k := k.1 h
      refine r_aload_n dX11_lays_32 rfl ?_
      refine r_getRv dX11_lays_33 fl_X11_20 rfl (k_125 hS) (f_125_7 hS) (by decide) ?_
      refine r_iload_n dX11_lays_36 rfl ?_
      refine r_aload_n dX11_lays_37 rfl ?_
      refine r_getIv dX11_lays_38 fl_X11_132 rfl (k_125 hS) ?_
      obtain ⟨⟨h0, h1⟩, k⟩ := k
      refine r_iast dX11_lays_41 (k_128 hS) h0 h1 ?_
      refine r_aload_n dX11_lays_42 rfl ?_
      refine s_callVv (z := mX11_goesOn) [] dX11_lays_43 mv_X11_goesOn lk_X11_155 rfl (by decide) (k_125 hS) (Nat.le_of_ble_eq_true rfl) (WPs.mono k (fun r43 s43 k => ?_))
      refine r_iconst dX11_lays_46 ⟨by decide, by decide⟩ ?_
      exact s_zret dX11_lays_47 rfl (by decide) k
    · have k := k.2 h
      refine r_aload_n dX11_lays_26 rfl ?_
      refine r_iconst dX11_lays_27 ⟨by decide, by decide⟩ ?_
      refine s_callVv (z := mX11_errs) [vI 2] dX11_lays_28 mv_X11_errs lk_X11_151 rfl (by decide) (k_125 hS) (Nat.le_of_ble_eq_true rfl) (WPs.mono k (fun r28 s28 k => ?_))
      exact s_zret dX11_lays_31 rfl k.1 k.2
  · have k := k.2 h
    refine r_aload_n dX11_lays_8 rfl ?_
    refine r_iconst dX11_lays_9 ⟨by decide, by decide⟩ ?_
    refine s_callVv (z := mX11_errs) [vI 1] dX11_lays_10 mv_X11_errs lk_X11_151 rfl (by decide) (k_125 hS) (Nat.le_of_ble_eq_true rfl) (WPs.mono k (fun r10 s10 k => ?_))
    exact s_zret dX11_lays_13 rfl k.1 k.2
theorem e_X11_after {w : Nat} {v2 v3 v4 : Int} {S : ShT} {σ : StT} {Q : Int → StT → Prop} (hS : SHP S) (hw : w < 12) (k : WPs mX11_isWord [vR 125, vR (BIG + 1 + w)] S σ (fun r2 s2 => (¬ r2 = 0 → WPs mX11_goesOn [vR 125] S s2 (fun r15 s15 => WPs mX11_lays [vR 125, vI v2, vI v3, vI v4] S s15 (fun r23 s23 => (r23 = 0 ∨ r23 = 1) ∧ Q r23 s23))) ∧ (r2 = 0 → WPs mX11_errs [vR 125, vI 1] S s2 (fun r10 s10 => (r10 = 0 ∨ r10 = 1) ∧ Q r10 s10)))) : WPs mX11_after [vR 125, vR (BIG + 1 + w), vI v2, vI v3, vI v4] S σ Q := by
  refine s_entry (by decide) (Nat.le_of_ble_eq_true rfl) rfl rfl ?_
  refine r_aload_n dX11_after_0 rfl ?_
  refine r_aload_n dX11_after_1 rfl ?_
  refine s_callVv (z := mX11_isWord) [vR (BIG + 1 + w)] dX11_after_2 mv_X11_isWord lk_X11_158 rfl (by decide) (k_125 hS) (Nat.le_of_ble_eq_true rfl) (WPs.mono k (fun r2 s2 k => ?_))
  refine r_if_ne (tgt := 14) dX11_after_5 rfl (fun h => ?_) (fun h => ?_)
  · have k := k.1 h
    refine r_aload_n dX11_after_14 rfl ?_
    refine s_callVv (z := mX11_goesOn) [] dX11_after_15 mv_X11_goesOn lk_X11_155 rfl (by decide) (k_125 hS) (Nat.le_of_ble_eq_true rfl) (WPs.mono k (fun r15 s15 k => ?_))
    refine r_aload_n dX11_after_18 rfl ?_
    refine r_iload_n dX11_after_19 rfl ?_
    refine r_iload_n dX11_after_20 rfl ?_
    refine r_iload dX11_after_21 rfl ?_
    refine s_callVv (z := mX11_lays) [vI v2, vI v3, vI v4] dX11_after_23 mv_X11_lays lk_X11_162 rfl (by decide) (k_125 hS) (Nat.le_of_ble_eq_true rfl) (WPs.mono k (fun r23 s23 k => ?_))
    exact s_zret dX11_after_26 rfl k.1 k.2
  · have k := k.2 h
    refine r_aload_n dX11_after_8 rfl ?_
    refine r_iconst dX11_after_9 ⟨by decide, by decide⟩ ?_
    refine s_callVv (z := mX11_errs) [vI 1] dX11_after_10 mv_X11_errs lk_X11_151 rfl (by decide) (k_125 hS) (Nat.le_of_ble_eq_true rfl) (WPs.mono k (fun r10 s10 k => ?_))
    exact s_zret dX11_after_13 rfl k.1 k.2
theorem e_X11_readSheet {S : ShT} {σ : StT} {Q : Int → StT → Prop} (hS : SHP S) (k : (σ 125 19 = 0 → WPs mX11_goesOn [vR 125] S σ (fun r14 s14 => WPs mX11_after [vR 125, vR (BIG + 1 + 10), vI 0, vI 1, vI 200] S s14 (fun r26 s26 => (r26 = 0 → Q 0 (up2 s26 125 19 0)) ∧ (¬ (r26 = 0) → WPs mX11_after [vR 125, vR (BIG + 1 + 11), vI 1, vI 0, vI 50] S s26 (fun r39 s39 => (r39 = 0 → Q 0 (up2 s39 125 19 0)) ∧ (¬ (r39 = 0) → Q 1 (up2 s39 125 19 1))))))) ∧ (¬ (σ 125 19 = 0) → WPs mX11_errs [vR 125, vI 4] S σ (fun r9 s9 => (r9 = 0 ∨ r9 = 1) ∧ Q r9 s9))) : WPs mX11_readSheet [vR 125] S σ Q := by
  refine s_entry (by decide) (Nat.le_of_ble_eq_true rfl) rfl rfl ?_
  refine r_aload_n dX11_readSheet_0 rfl ?_
  refine r_getIv dX11_readSheet_1 fl_X11_165 rfl (k_125 hS) ?_
  refine r_if_eq (tgt := 13) dX11_readSheet_4 rfl (fun h => ?_) (fun h => ?_)
  · have k := k.1 h
    refine r_aload_n dX11_readSheet_13 rfl ?_
    refine s_callVv (z := mX11_goesOn) [] dX11_readSheet_14 mv_X11_goesOn lk_X11_155 rfl (by decide) (k_125 hS) (Nat.le_of_ble_eq_true rfl) (WPs.mono k (fun r14 s14 k => ?_))
    refine r_aload_n dX11_readSheet_17 rfl ?_
    refine r_aload_n dX11_readSheet_18 rfl ?_
    refine r_ldcS 10 dX11_readSheet_19 rfl ?_
    refine r_iconst dX11_readSheet_21 ⟨by decide, by decide⟩ ?_
    refine r_iconst dX11_readSheet_22 ⟨by decide, by decide⟩ ?_
    refine r_sipush dX11_readSheet_23 (by decide +kernel) ⟨by decide, by decide⟩ ?_
    refine s_callVv (z := mX11_after) [vR (BIG + 1 + 10), vI 0, vI 1, vI 200] dX11_readSheet_26 mv_X11_after lk_X11_171 rfl (by decide) (k_125 hS) (Nat.le_of_ble_eq_true rfl) (WPs.mono k (fun r26 s26 k => ?_))
    refine r_if_eq (tgt := 49) dX11_readSheet_29 rfl (fun h => ?_) (fun h => ?_)
    · have k := k.1 h
      refine r_iconst dX11_readSheet_49 ⟨by decide, by decide⟩ ?_
      refine r_putIv dX11_readSheet_50 fl_X11_165 (fun _ h => by cases h; rfl) (Or.inr ⟨rfl, by decide⟩) (k_125 hS) ?_
      refine r_aload_n dX11_readSheet_53 rfl ?_
      refine r_getIv dX11_readSheet_54 fl_X11_165 rfl (k_125 hS) ?_
      refine r_top (up2_s _ _ _ _) ?_
      exact s_zret dX11_readSheet_57 rfl (by decide) k
    · have k := k.2 h
      refine r_aload_n dX11_readSheet_32 rfl ?_
      refine r_ldcS 11 dX11_readSheet_33 rfl ?_
      refine r_iconst dX11_readSheet_35 ⟨by decide, by decide⟩ ?_
      refine r_iconst dX11_readSheet_36 ⟨by decide, by decide⟩ ?_
      refine r_bipush dX11_readSheet_37 (by decide +kernel) ⟨by decide, by decide⟩ ?_
      refine s_callVv (z := mX11_after) [vR (BIG + 1 + 11), vI 1, vI 0, vI 50] dX11_readSheet_39 mv_X11_after lk_X11_171 rfl (by decide) (k_125 hS) (Nat.le_of_ble_eq_true rfl) (WPs.mono k (fun r39 s39 k => ?_))
      refine r_if_eq (tgt := 49) dX11_readSheet_42 rfl (fun h => ?_) (fun h => ?_)
      · have k := k.1 h
        refine r_iconst dX11_readSheet_49 ⟨by decide, by decide⟩ ?_
        refine r_putIv dX11_readSheet_50 fl_X11_165 (fun _ h => by cases h; rfl) (Or.inr ⟨rfl, by decide⟩) (k_125 hS) ?_
        refine r_aload_n dX11_readSheet_53 rfl ?_
        refine r_getIv dX11_readSheet_54 fl_X11_165 rfl (k_125 hS) ?_
        refine r_top (up2_s _ _ _ _) ?_
        exact s_zret dX11_readSheet_57 rfl (by decide) k
      · have k := k.2 h
        refine r_iconst dX11_readSheet_45 ⟨by decide, by decide⟩ ?_
        refine r_goto (tgt := 50) dX11_readSheet_46 rfl ?_
        refine r_putIv dX11_readSheet_50 fl_X11_165 (fun _ h => by cases h; rfl) (Or.inr ⟨rfl, by decide⟩) (k_125 hS) ?_
        refine r_aload_n dX11_readSheet_53 rfl ?_
        refine r_getIv dX11_readSheet_54 fl_X11_165 rfl (k_125 hS) ?_
        refine r_top (up2_s _ _ _ _) ?_
        exact s_zret dX11_readSheet_57 rfl (by decide) k
  · have k := k.2 h
    refine r_aload_n dX11_readSheet_7 rfl ?_
    refine r_iconst dX11_readSheet_8 ⟨by decide, by decide⟩ ?_
    refine s_callVv (z := mX11_errs) [vI 4] dX11_readSheet_9 mv_X11_errs lk_X11_151 rfl (by decide) (k_125 hS) (Nat.le_of_ble_eq_true rfl) (WPs.mono k (fun r9 s9 k => ?_))
    exact s_zret dX11_readSheet_12 rfl k.1 k.2
theorem e_X11_readStroke {S : ShT} {σ : StT} {Q : Int → StT → Prop} (hS : SHP S) (k : (¬ σ 128 2 = 24 → (¬ σ 125 19 = 0 → WPs mX11_goesOn [vR 125] S σ (fun r32 s32 => inR (4 * (s32 128 2)) ∧ inR (7 + (4 * (s32 128 2))) ∧ ∀ x46 : Int, x46 = 7 + (4 * (s32 128 2)) → AWs mX11_readStroke 49 [(0, vR 125), (1, vI x46), (2, vI 0)] [] S s32 Q)) ∧ (σ 125 19 = 0 → WPs mX11_errs [vR 125, vI 6] S σ (fun r27 s27 => (r27 = 0 ∨ r27 = 1) ∧ Q r27 s27))) ∧ (σ 128 2 = 24 → WPs mX11_errs [vR 125, vI 5] S σ (fun r13 s13 => (r13 = 0 ∨ r13 = 1) ∧ Q r13 s13))) : WPs mX11_readStroke [vR 125] S σ Q := by
  refine s_entry (by decide) (Nat.le_of_ble_eq_true rfl) rfl rfl ?_
  refine r_aload_n dX11_readStroke_0 rfl ?_
  refine r_getRv dX11_readStroke_1 fl_X11_20 rfl (k_125 hS) (f_125_7 hS) (by decide) ?_
  refine r_iconst dX11_readStroke_4 ⟨by decide, by decide⟩ ?_
  refine r_iald dX11_readStroke_5 (Or.inl (k_128 hS)) (by decide) (by decide) ?_
  refine r_bipush dX11_readStroke_6 (by decide +kernel) ⟨by decide, by decide⟩ ?_
  refine r_icmp_ne (tgt := 17) dX11_readStroke_8 rfl (fun h => ?_) (fun h => ?_)
  · have k := k.1 h
    refine r_aload_n dX11_readStroke_17 rfl ?_
    refine r_getIv dX11_readStroke_18 fl_X11_165 rfl (k_125 hS) ?_
    refine r_if_ne (tgt := 31) dX11_readStroke_21 rfl (fun h => ?_) (fun h => ?_)
    · have k := k.1 h
      refine r_aload_n dX11_readStroke_31 rfl ?_
      refine s_callVv (z := mX11_goesOn) [] dX11_readStroke_32 mv_X11_goesOn lk_X11_155 rfl (by decide) (k_125 hS) (Nat.le_of_ble_eq_true rfl) (WPs.mono k (fun r32 s32 k => ?_))
      refine r_bipush dX11_readStroke_35 (by decide +kernel) ⟨by decide, by decide⟩ ?_
      refine r_iconst dX11_readStroke_37 ⟨by decide, by decide⟩ ?_
      refine r_aload_n dX11_readStroke_38 rfl ?_
      refine r_getRv dX11_readStroke_39 fl_X11_20 rfl (k_125 hS) (f_125_7 hS) (by decide) ?_
      refine r_iconst dX11_readStroke_42 ⟨by decide, by decide⟩ ?_
      refine r_iald dX11_readStroke_43 (Or.inl (k_128 hS)) (by decide) (by decide) ?_
      obtain ⟨h, k⟩ := k
      refine r_imul dX11_readStroke_44 h ?_
      obtain ⟨h, k⟩ := k
      refine r_iadd dX11_readStroke_45 h ?_
      refine r_gen (fun x46 hx46 => ?_)
      have k := k x46 hx46
      refine r_istore_n dX11_readStroke_46 (by decide) rfl rfl ?_
      refine r_iconst dX11_readStroke_47 ⟨by decide, by decide⟩ ?_
      refine r_istore_n dX11_readStroke_48 (by decide) rfl rfl ?_
      exact k
    · have k := k.2 h
      refine r_aload_n dX11_readStroke_24 rfl ?_
      refine r_bipush dX11_readStroke_25 (by decide +kernel) ⟨by decide, by decide⟩ ?_
      refine s_callVv (z := mX11_errs) [vI 6] dX11_readStroke_27 mv_X11_errs lk_X11_151 rfl (by decide) (k_125 hS) (Nat.le_of_ble_eq_true rfl) (WPs.mono k (fun r27 s27 k => ?_))
      exact s_zret dX11_readStroke_30 rfl k.1 k.2
  · have k := k.2 h
    refine r_aload_n dX11_readStroke_11 rfl ?_
    refine r_iconst dX11_readStroke_12 ⟨by decide, by decide⟩ ?_
    refine s_callVv (z := mX11_errs) [vI 5] dX11_readStroke_13 mv_X11_errs lk_X11_151 rfl (by decide) (k_125 hS) (Nat.le_of_ble_eq_true rfl) (WPs.mono k (fun r13 s13 k => ?_))
    exact s_zret dX11_readStroke_16 rfl k.1 k.2
theorem t_X11_readStroke_49 {v1 v2 : Int} {S : ShT} {σ : StT} {Q : Int → StT → Prop} (hS : SHP S) (k : (4 ≤ v2 → inR ((σ 128 2) + 1) ∧ Q 1 (up2 σ 128 2 ((σ 128 2) + 1))) ∧ (¬ (4 ≤ v2) → (¬ v2 = 3 → AWs mX11_readStroke 116 [(0, vR 125), (1, vI v1), (2, vI v2)] [] S σ Q) ∧ (v2 = 3 → (¬ σ 125 15 = 3 → AWs mX11_readStroke 116 [(0, vR 125), (1, vI v1), (2, vI v2)] [] S σ Q) ∧ (σ 125 15 = 3 → (0 ≤ v1 ∧ v1 < 152) ∧ inR (v1 + 2) ∧ ((0 ≤ v1 + 2 ∧ v1 + 2 < 152) ∧ ((¬ σ 128 v1.toNat = σ 128 (v1 + 2).toNat → AWs mX11_readStroke 116 [(0, vR 125), (1, vI v1), (2, vI v2)] [] S σ Q) ∧ (σ 128 v1.toNat = σ 128 (v1 + 2).toNat → inR (v1 + 1) ∧ ((0 ≤ v1 + 1 ∧ v1 + 1 < 152) ∧ ((¬ σ 128 (v1 + 1).toNat = σ 125 16 → AWs mX11_readStroke 116 [(0, vR 125), (1, vI v1), (2, vI v2)] [] S σ Q) ∧ (σ 128 (v1 + 1).toNat = σ 125 16 → (σ 128 0 < σ 125 16 → AWs mX11_readStroke 116 [(0, vR 125), (1, vI v1), (2, vI v2)] [] S σ Q) ∧ (¬ (σ 128 0 < σ 125 16) → WPs mX11_errs [vR 125, vI 3] S σ (fun r124 s124 => (r124 = 0 ∨ r124 = 1) ∧ Q r124 s124)))))))))))) : AWs mX11_readStroke 49 [(0, vR 125), (1, vI v1), (2, vI v2)] [] S σ Q := by
  refine r_iload_n dX11_readStroke_49 rfl ?_
  refine r_iconst dX11_readStroke_50 ⟨by decide, by decide⟩ ?_
  refine r_icmp_ge (tgt := 153) dX11_readStroke_51 rfl (fun h => ?_) (fun h => ?_)
  · have k := k.1 h
    refine r_aload_n dX11_readStroke_153 rfl ?_
    refine r_getRv dX11_readStroke_154 fl_X11_20 rfl (k_125 hS) (f_125_7 hS) (by decide) ?_
    refine r_iconst dX11_readStroke_157 ⟨by decide, by decide⟩ ?_
    refine r_dup2 dX11_readStroke_158 rfl rfl ?_
    refine r_iald dX11_readStroke_159 (Or.inl (k_128 hS)) (by decide) (by decide) ?_
    refine r_iconst dX11_readStroke_160 ⟨by decide, by decide⟩ ?_
    obtain ⟨h, k⟩ := k
    refine r_iadd dX11_readStroke_161 h ?_
    refine r_iast dX11_readStroke_162 (k_128 hS) (by decide) (by decide) ?_
    refine r_iconst dX11_readStroke_163 ⟨by decide, by decide⟩ ?_
    exact s_zret dX11_readStroke_164 rfl (by decide) k
  · have k := k.2 h
    refine r_iload_n dX11_readStroke_54 rfl ?_
    refine r_iconst dX11_readStroke_55 ⟨by decide, by decide⟩ ?_
    refine r_icmp_ne (tgt := 116) dX11_readStroke_56 rfl (fun h => ?_) (fun h => ?_)
    · have k := k.1 h
      exact k
    · have k := k.2 h
      refine r_aload_n dX11_readStroke_59 rfl ?_
      refine r_getIv dX11_readStroke_60 fl_X11_125 rfl (k_125 hS) ?_
      refine r_iconst dX11_readStroke_63 ⟨by decide, by decide⟩ ?_
      refine r_icmp_ne (tgt := 116) dX11_readStroke_64 rfl (fun h => ?_) (fun h => ?_)
      · have k := k.1 h
        exact k
      · have k := k.2 h
        refine r_aload_n dX11_readStroke_67 rfl ?_
        refine r_getRv dX11_readStroke_68 fl_X11_20 rfl (k_125 hS) (f_125_7 hS) (by decide) ?_
        refine r_iload_n dX11_readStroke_71 rfl ?_
        obtain ⟨⟨h0, h1⟩, k⟩ := k
        refine r_iald dX11_readStroke_72 (Or.inl (k_128 hS)) h0 h1 ?_
        refine r_aload_n dX11_readStroke_73 rfl ?_
        refine r_getRv dX11_readStroke_74 fl_X11_20 rfl (k_125 hS) (f_125_7 hS) (by decide) ?_
        refine r_iload_n dX11_readStroke_77 rfl ?_
        refine r_iconst dX11_readStroke_78 ⟨by decide, by decide⟩ ?_
        obtain ⟨h, k⟩ := k
        refine r_iadd dX11_readStroke_79 h ?_
        obtain ⟨⟨h0, h1⟩, k⟩ := k
        refine r_iald dX11_readStroke_80 (Or.inl (k_128 hS)) h0 h1 ?_
        refine r_icmp_ne (tgt := 116) dX11_readStroke_81 rfl (fun h => ?_) (fun h => ?_)
        · have k := k.1 h
          exact k
        · have k := k.2 h
          refine r_aload_n dX11_readStroke_84 rfl ?_
          refine r_getRv dX11_readStroke_85 fl_X11_20 rfl (k_125 hS) (f_125_7 hS) (by decide) ?_
          refine r_iload_n dX11_readStroke_88 rfl ?_
          refine r_iconst dX11_readStroke_89 ⟨by decide, by decide⟩ ?_
          obtain ⟨h, k⟩ := k
          refine r_iadd dX11_readStroke_90 h ?_
          obtain ⟨⟨h0, h1⟩, k⟩ := k
          refine r_iald dX11_readStroke_91 (Or.inl (k_128 hS)) h0 h1 ?_
          refine r_aload_n dX11_readStroke_92 rfl ?_
          refine r_getIv dX11_readStroke_93 fl_X11_132 rfl (k_125 hS) ?_
          refine r_icmp_ne (tgt := 116) dX11_readStroke_96 rfl (fun h => ?_) (fun h => ?_)
          · have k := k.1 h
            exact k
          · have k := k.2 h
            refine r_aload_n dX11_readStroke_99 rfl ?_
            refine r_getIv dX11_readStroke_100 fl_X11_132 rfl (k_125 hS) ?_
            refine r_aload_n dX11_readStroke_103 rfl ?_
            refine r_getRv dX11_readStroke_104 fl_X11_20 rfl (k_125 hS) (f_125_7 hS) (by decide) ?_
            refine r_iconst dX11_readStroke_107 ⟨by decide, by decide⟩ ?_
            refine r_iald dX11_readStroke_108 (Or.inl (k_128 hS)) (by decide) (by decide) ?_
            refine r_icmp_gt (tgt := 116) dX11_readStroke_109 rfl (fun h => ?_) (fun h => ?_)
            · have k := k.1 h
              exact k
            · have k := k.2 h
              refine r_iconst dX11_readStroke_112 ⟨by decide, by decide⟩ ?_
              refine r_goto (tgt := 117) dX11_readStroke_113 rfl ?_
              refine r_istore_n dX11_readStroke_117 (by decide) rfl rfl ?_
              refine r_iload_n dX11_readStroke_118 rfl ?_
              refine r_if_eq (tgt := 128) dX11_readStroke_119 rfl (fun h => ?_) (fun h => ?_)
              · exact absurd h (by decide)
              · skip
                refine r_aload_n dX11_readStroke_122 rfl ?_
                refine r_iconst dX11_readStroke_123 ⟨by decide, by decide⟩ ?_
                refine s_callVv (z := mX11_errs) [vI 3] dX11_readStroke_124 mv_X11_errs lk_X11_151 rfl (by decide) (k_125 hS) (Nat.le_of_ble_eq_true rfl) (WPs.mono k (fun r124 s124 k => ?_))
                exact s_zret dX11_readStroke_127 rfl k.1 k.2
theorem t_X11_readStroke_116 {v1 v2 : Int} {S : ShT} {σ : StT} {Q : Int → StT → Prop} (hS : SHP S) (k : inR (v1 + v2) ∧ WPs mX11_lays [vR 125, vI (v1 + v2), vI 0, vI (σ 128 0)] S σ (fun r139 s139 => (¬ r139 = 0 → inR (v2 + 1) ∧ AWs mX11_readStroke 49 [(0, vR 125), (1, vI v1), (2, vI (v2 + 1))] [] S s139 Q) ∧ (r139 = 0 → Q 0 s139))) : AWs mX11_readStroke 116 [(0, vR 125), (1, vI v1), (2, vI v2)] [] S σ Q := by
  refine r_iconst dX11_readStroke_116 ⟨by decide, by decide⟩ ?_
  refine r_istore_n dX11_readStroke_117 (by decide) rfl rfl ?_
  refine r_iload_n dX11_readStroke_118 rfl ?_
  refine r_if_eq (tgt := 128) dX11_readStroke_119 rfl (fun h => ?_) (fun h => ?_)
  · skip
    refine r_aload_n dX11_readStroke_128 rfl ?_
    refine r_iload_n dX11_readStroke_129 rfl ?_
    refine r_iload_n dX11_readStroke_130 rfl ?_
    obtain ⟨h, k⟩ := k
    refine r_iadd dX11_readStroke_131 h ?_
    refine r_iconst dX11_readStroke_132 ⟨by decide, by decide⟩ ?_
    refine r_aload_n dX11_readStroke_133 rfl ?_
    refine r_getRv dX11_readStroke_134 fl_X11_20 rfl (k_125 hS) (f_125_7 hS) (by decide) ?_
    refine r_iconst dX11_readStroke_137 ⟨by decide, by decide⟩ ?_
    refine r_iald dX11_readStroke_138 (Or.inl (k_128 hS)) (by decide) (by decide) ?_
    refine s_callVv (z := mX11_lays) [vI (v1 + v2), vI 0, vI (σ 128 0)] dX11_readStroke_139 mv_X11_lays lk_X11_162 rfl (by decide) (k_125 hS) (Nat.le_of_ble_eq_true rfl) (WPs.mono k (fun r139 s139 k => ?_))
    refine r_if_ne (tgt := 147) dX11_readStroke_142 rfl (fun h => ?_) (fun h => ?_)
    · have k := k.1 h
      obtain ⟨h, k⟩ := k
      refine r_iinc dX11_readStroke_147 rfl (by decide) rfl rfl h ?_
      refine r_goto (tgt := 49) dX11_readStroke_150 rfl ?_
      refine r_loc [0, 1, 2] rfl ?_
      exact k
    · have k := k.2 h
      refine r_iconst dX11_readStroke_145 ⟨by decide, by decide⟩ ?_
      exact s_zret dX11_readStroke_146 rfl (by decide) k
  · exact absurd (by decide) h
theorem e_X11_readHome {S : ShT} {σ : StT} {Q : Int → StT → Prop} (hS : SHP S) (k : (σ 125 20 = 0 → (¬ σ 125 19 = 0 → WPs mX11_goesOn [vR 125] S σ (fun r28 s28 => WPs mX11_lays [vR 125, vI 3, vI 0, vI (s28 128 0)] S (up2 s28 125 20 1) (fun r45 s45 => (r45 = 0 → Q 0 s45) ∧ (¬ (r45 = 0) → WPs mX11_lays [vR 125, vI 4, vI 0, vI (s45 128 0)] S s45 (fun r60 s60 => (r60 = 0 → Q 0 s60) ∧ (¬ (r60 = 0) → Q 1 s60)))))) ∧ (σ 125 19 = 0 → WPs mX11_errs [vR 125, vI 6] S σ (fun r23 s23 => (r23 = 0 ∨ r23 = 1) ∧ Q r23 s23))) ∧ (¬ (σ 125 20 = 0) → WPs mX11_errs [vR 125, vI 4] S σ (fun r9 s9 => (r9 = 0 ∨ r9 = 1) ∧ Q r9 s9))) : WPs mX11_readHome [vR 125] S σ Q := by
  refine s_entry (by decide) (Nat.le_of_ble_eq_true rfl) rfl rfl ?_
  refine r_aload_n dX11_readHome_0 rfl ?_
  refine r_getIv dX11_readHome_1 fl_X11_177 rfl (k_125 hS) ?_
  refine r_if_eq (tgt := 13) dX11_readHome_4 rfl (fun h => ?_) (fun h => ?_)
  · have k := k.1 h
    refine r_aload_n dX11_readHome_13 rfl ?_
    refine r_getIv dX11_readHome_14 fl_X11_165 rfl (k_125 hS) ?_
    refine r_if_ne (tgt := 27) dX11_readHome_17 rfl (fun h => ?_) (fun h => ?_)
    · have k := k.1 h
      refine r_aload_n dX11_readHome_27 rfl ?_
      refine s_callVv (z := mX11_goesOn) [] dX11_readHome_28 mv_X11_goesOn lk_X11_155 rfl (by decide) (k_125 hS) (Nat.le_of_ble_eq_true rfl) (WPs.mono k (fun r28 s28 k => ?_))
      refine r_aload_n dX11_readHome_31 rfl ?_
      refine r_iconst dX11_readHome_32 ⟨by decide, by decide⟩ ?_
      refine r_putIv dX11_readHome_33 fl_X11_177 (fun _ h => by cases h; rfl) (Or.inr ⟨rfl, by decide⟩) (k_125 hS) ?_
      refine r_aload_n dX11_readHome_36 rfl ?_
      refine r_iconst dX11_readHome_37 ⟨by decide, by decide⟩ ?_
      refine r_iconst dX11_readHome_38 ⟨by decide, by decide⟩ ?_
      refine r_aload_n dX11_readHome_39 rfl ?_
      refine r_getRv dX11_readHome_40 fl_X11_20 rfl (k_125 hS) (f_125_7 hS) (by decide) ?_
      refine r_iconst dX11_readHome_43 ⟨by decide, by decide⟩ ?_
      refine r_iald dX11_readHome_44 (Or.inl (k_128 hS)) (by decide) (by decide) ?_
      refine r_top (up2_a (by decide)) ?_
      refine s_callVv (z := mX11_lays) [vI 3, vI 0, vI (s28 128 0)] dX11_readHome_45 mv_X11_lays lk_X11_162 rfl (by decide) (k_125 hS) (Nat.le_of_ble_eq_true rfl) (WPs.mono k (fun r45 s45 k => ?_))
      refine r_if_eq (tgt := 70) dX11_readHome_48 rfl (fun h => ?_) (fun h => ?_)
      · have k := k.1 h
        refine r_iconst dX11_readHome_70 ⟨by decide, by decide⟩ ?_
        exact s_zret dX11_readHome_71 rfl (by decide) k
      · have k := k.2 h
        refine r_aload_n dX11_readHome_51 rfl ?_
        refine r_iconst dX11_readHome_52 ⟨by decide, by decide⟩ ?_
        refine r_iconst dX11_readHome_53 ⟨by decide, by decide⟩ ?_
        refine r_aload_n dX11_readHome_54 rfl ?_
        refine r_getRv dX11_readHome_55 fl_X11_20 rfl (k_125 hS) (f_125_7 hS) (by decide) ?_
        refine r_iconst dX11_readHome_58 ⟨by decide, by decide⟩ ?_
        refine r_iald dX11_readHome_59 (Or.inl (k_128 hS)) (by decide) (by decide) ?_
        refine s_callVv (z := mX11_lays) [vI 4, vI 0, vI (s45 128 0)] dX11_readHome_60 mv_X11_lays lk_X11_162 rfl (by decide) (k_125 hS) (Nat.le_of_ble_eq_true rfl) (WPs.mono k (fun r60 s60 k => ?_))
        refine r_if_eq (tgt := 70) dX11_readHome_63 rfl (fun h => ?_) (fun h => ?_)
        · have k := k.1 h
          refine r_iconst dX11_readHome_70 ⟨by decide, by decide⟩ ?_
          exact s_zret dX11_readHome_71 rfl (by decide) k
        · have k := k.2 h
          refine r_iconst dX11_readHome_66 ⟨by decide, by decide⟩ ?_
          refine r_goto (tgt := 71) dX11_readHome_67 rfl ?_
          exact s_zret dX11_readHome_71 rfl (by decide) k
    · have k := k.2 h
      refine r_aload_n dX11_readHome_20 rfl ?_
      refine r_bipush dX11_readHome_21 (by decide +kernel) ⟨by decide, by decide⟩ ?_
      refine s_callVv (z := mX11_errs) [vI 6] dX11_readHome_23 mv_X11_errs lk_X11_151 rfl (by decide) (k_125 hS) (Nat.le_of_ble_eq_true rfl) (WPs.mono k (fun r23 s23 k => ?_))
      exact s_zret dX11_readHome_26 rfl k.1 k.2
  · have k := k.2 h
    refine r_aload_n dX11_readHome_7 rfl ?_
    refine r_iconst dX11_readHome_8 ⟨by decide, by decide⟩ ?_
    refine s_callVv (z := mX11_errs) [vI 4] dX11_readHome_9 mv_X11_errs lk_X11_151 rfl (by decide) (k_125 hS) (Nat.le_of_ble_eq_true rfl) (WPs.mono k (fun r9 s9 k => ?_))
    exact s_zret dX11_readHome_12 rfl k.1 k.2
theorem e_X11_readPace {S : ShT} {σ : StT} {Q : Int → StT → Prop} (hS : SHP S) (k : (σ 125 21 = 0 → (¬ σ 125 19 = 0 → WPs mX11_goesOn [vR 125] S σ (fun r28 s28 => WPs mX11_lays [vR 125, vI 5, vI 1, vI 9] S (up2 s28 125 21 1) (fun r41 s41 => (r41 = 0 → Q 0 s41) ∧ (¬ (r41 = 0) → WPs mX11_lays [vR 125, vI 6, vI 1, vI 9] S s41 (fun r53 s53 => (r53 = 0 → Q 0 s53) ∧ (¬ (r53 = 0) → Q 1 s53)))))) ∧ (σ 125 19 = 0 → WPs mX11_errs [vR 125, vI 6] S σ (fun r23 s23 => (r23 = 0 ∨ r23 = 1) ∧ Q r23 s23))) ∧ (¬ (σ 125 21 = 0) → WPs mX11_errs [vR 125, vI 4] S σ (fun r9 s9 => (r9 = 0 ∨ r9 = 1) ∧ Q r9 s9))) : WPs mX11_readPace [vR 125] S σ Q := by
  refine s_entry (by decide) (Nat.le_of_ble_eq_true rfl) rfl rfl ?_
  refine r_aload_n dX11_readPace_0 rfl ?_
  refine r_getIv dX11_readPace_1 fl_X11_180 rfl (k_125 hS) ?_
  refine r_if_eq (tgt := 13) dX11_readPace_4 rfl (fun h => ?_) (fun h => ?_)
  · have k := k.1 h
    refine r_aload_n dX11_readPace_13 rfl ?_
    refine r_getIv dX11_readPace_14 fl_X11_165 rfl (k_125 hS) ?_
    refine r_if_ne (tgt := 27) dX11_readPace_17 rfl (fun h => ?_) (fun h => ?_)
    · have k := k.1 h
      refine r_aload_n dX11_readPace_27 rfl ?_
      refine s_callVv (z := mX11_goesOn) [] dX11_readPace_28 mv_X11_goesOn lk_X11_155 rfl (by decide) (k_125 hS) (Nat.le_of_ble_eq_true rfl) (WPs.mono k (fun r28 s28 k => ?_))
      refine r_aload_n dX11_readPace_31 rfl ?_
      refine r_iconst dX11_readPace_32 ⟨by decide, by decide⟩ ?_
      refine r_putIv dX11_readPace_33 fl_X11_180 (fun _ h => by cases h; rfl) (Or.inr ⟨rfl, by decide⟩) (k_125 hS) ?_
      refine r_aload_n dX11_readPace_36 rfl ?_
      refine r_iconst dX11_readPace_37 ⟨by decide, by decide⟩ ?_
      refine r_iconst dX11_readPace_38 ⟨by decide, by decide⟩ ?_
      refine r_bipush dX11_readPace_39 (by decide +kernel) ⟨by decide, by decide⟩ ?_
      refine s_callVv (z := mX11_lays) [vI 5, vI 1, vI 9] dX11_readPace_41 mv_X11_lays lk_X11_162 rfl (by decide) (k_125 hS) (Nat.le_of_ble_eq_true rfl) (WPs.mono k (fun r41 s41 k => ?_))
      refine r_if_eq (tgt := 63) dX11_readPace_44 rfl (fun h => ?_) (fun h => ?_)
      · have k := k.1 h
        refine r_iconst dX11_readPace_63 ⟨by decide, by decide⟩ ?_
        exact s_zret dX11_readPace_64 rfl (by decide) k
      · have k := k.2 h
        refine r_aload_n dX11_readPace_47 rfl ?_
        refine r_bipush dX11_readPace_48 (by decide +kernel) ⟨by decide, by decide⟩ ?_
        refine r_iconst dX11_readPace_50 ⟨by decide, by decide⟩ ?_
        refine r_bipush dX11_readPace_51 (by decide +kernel) ⟨by decide, by decide⟩ ?_
        refine s_callVv (z := mX11_lays) [vI 6, vI 1, vI 9] dX11_readPace_53 mv_X11_lays lk_X11_162 rfl (by decide) (k_125 hS) (Nat.le_of_ble_eq_true rfl) (WPs.mono k (fun r53 s53 k => ?_))
        refine r_if_eq (tgt := 63) dX11_readPace_56 rfl (fun h => ?_) (fun h => ?_)
        · have k := k.1 h
          refine r_iconst dX11_readPace_63 ⟨by decide, by decide⟩ ?_
          exact s_zret dX11_readPace_64 rfl (by decide) k
        · have k := k.2 h
          refine r_iconst dX11_readPace_59 ⟨by decide, by decide⟩ ?_
          refine r_goto (tgt := 64) dX11_readPace_60 rfl ?_
          exact s_zret dX11_readPace_64 rfl (by decide) k
    · have k := k.2 h
      refine r_aload_n dX11_readPace_20 rfl ?_
      refine r_bipush dX11_readPace_21 (by decide +kernel) ⟨by decide, by decide⟩ ?_
      refine s_callVv (z := mX11_errs) [vI 6] dX11_readPace_23 mv_X11_errs lk_X11_151 rfl (by decide) (k_125 hS) (Nat.le_of_ble_eq_true rfl) (WPs.mono k (fun r23 s23 k => ?_))
      exact s_zret dX11_readPace_26 rfl k.1 k.2
  · have k := k.2 h
    refine r_aload_n dX11_readPace_7 rfl ?_
    refine r_iconst dX11_readPace_8 ⟨by decide, by decide⟩ ?_
    refine s_callVv (z := mX11_errs) [vI 4] dX11_readPace_9 mv_X11_errs lk_X11_151 rfl (by decide) (k_125 hS) (Nat.le_of_ble_eq_true rfl) (WPs.mono k (fun r9 s9 k => ?_))
    exact s_zret dX11_readPace_12 rfl k.1 k.2
theorem e_X11_readLine {S : ShT} {σ : StT} {Q : Int → StT → Prop} (hS : SHP S) (k : WPs mX11_isWord [vR 125, vR (BIG + 1 + 6)] S σ (fun r3 s3 => (r3 = 0 → WPs mX11_isWord [vR 125, vR (BIG + 1 + 7)] S s3 (fun r17 s17 => (r17 = 0 → WPs mX11_isWord [vR 125, vR (BIG + 1 + 8)] S s17 (fun r31 s31 => (r31 = 0 → WPs mX11_isWord [vR 125, vR (BIG + 1 + 9)] S s31 (fun r45 s45 => (r45 = 0 → WPs mX11_errs [vR 125, vI 1] S s45 (fun r60 s60 => (r60 = 0 ∨ r60 = 1) ∧ Q r60 s60)) ∧ (¬ (r45 = 0) → WPs mX11_readPace [vR 125] S s45 (fun r52 s52 => (r52 = 0 ∨ r52 = 1) ∧ Q r52 s52)))) ∧ (¬ (r31 = 0) → WPs mX11_readHome [vR 125] S s31 (fun r38 s38 => (r38 = 0 ∨ r38 = 1) ∧ Q r38 s38)))) ∧ (¬ (r17 = 0) → WPs mX11_readStroke [vR 125] S s17 (fun r24 s24 => (r24 = 0 ∨ r24 = 1) ∧ Q r24 s24)))) ∧ (¬ (r3 = 0) → WPs mX11_readSheet [vR 125] S s3 (fun r10 s10 => (r10 = 0 ∨ r10 = 1) ∧ Q r10 s10)))) : WPs mX11_readLine [vR 125] S σ Q := by
  refine s_entry (by decide) (Nat.le_of_ble_eq_true rfl) rfl rfl ?_
  refine r_aload_n dX11_readLine_0 rfl ?_
  refine r_ldcS 6 dX11_readLine_1 rfl ?_
  refine s_callVv (z := mX11_isWord) [vR (BIG + 1 + 6)] dX11_readLine_3 mv_X11_isWord lk_X11_158 rfl (by decide) (k_125 hS) (Nat.le_of_ble_eq_true rfl) (WPs.mono k (fun r3 s3 k => ?_))
  refine r_if_eq (tgt := 14) dX11_readLine_6 rfl (fun h => ?_) (fun h => ?_)
  · have k := k.1 h
    refine r_aload_n dX11_readLine_14 rfl ?_
    refine r_ldcS 7 dX11_readLine_15 rfl ?_
    refine s_callVv (z := mX11_isWord) [vR (BIG + 1 + 7)] dX11_readLine_17 mv_X11_isWord lk_X11_158 rfl (by decide) (k_125 hS) (Nat.le_of_ble_eq_true rfl) (WPs.mono k (fun r17 s17 k => ?_))
    refine r_if_eq (tgt := 28) dX11_readLine_20 rfl (fun h => ?_) (fun h => ?_)
    · have k := k.1 h
      refine r_aload_n dX11_readLine_28 rfl ?_
      refine r_ldcS 8 dX11_readLine_29 rfl ?_
      refine s_callVv (z := mX11_isWord) [vR (BIG + 1 + 8)] dX11_readLine_31 mv_X11_isWord lk_X11_158 rfl (by decide) (k_125 hS) (Nat.le_of_ble_eq_true rfl) (WPs.mono k (fun r31 s31 k => ?_))
      refine r_if_eq (tgt := 42) dX11_readLine_34 rfl (fun h => ?_) (fun h => ?_)
      · have k := k.1 h
        refine r_aload_n dX11_readLine_42 rfl ?_
        refine r_ldcS 9 dX11_readLine_43 rfl ?_
        refine s_callVv (z := mX11_isWord) [vR (BIG + 1 + 9)] dX11_readLine_45 mv_X11_isWord lk_X11_158 rfl (by decide) (k_125 hS) (Nat.le_of_ble_eq_true rfl) (WPs.mono k (fun r45 s45 k => ?_))
        refine r_if_eq (tgt := 58) dX11_readLine_48 rfl (fun h => ?_) (fun h => ?_)
        · have k := k.1 h
          refine r_aload_n dX11_readLine_58 rfl ?_
          refine r_iconst dX11_readLine_59 ⟨by decide, by decide⟩ ?_
          refine s_callVv (z := mX11_errs) [vI 1] dX11_readLine_60 mv_X11_errs lk_X11_151 rfl (by decide) (k_125 hS) (Nat.le_of_ble_eq_true rfl) (WPs.mono k (fun r60 s60 k => ?_))
          exact s_zret dX11_readLine_63 rfl k.1 k.2
        · have k := k.2 h
          refine r_aload_n dX11_readLine_51 rfl ?_
          refine s_callVv (z := mX11_readPace) [] dX11_readLine_52 mv_X11_readPace lk_X11_201 rfl (by decide) (k_125 hS) (Nat.le_of_ble_eq_true rfl) (WPs.mono k (fun r52 s52 k => ?_))
          refine r_goto (tgt := 63) dX11_readLine_55 rfl ?_
          exact s_zret dX11_readLine_63 rfl k.1 k.2
      · have k := k.2 h
        refine r_aload_n dX11_readLine_37 rfl ?_
        refine s_callVv (z := mX11_readHome) [] dX11_readLine_38 mv_X11_readHome lk_X11_196 rfl (by decide) (k_125 hS) (Nat.le_of_ble_eq_true rfl) (WPs.mono k (fun r38 s38 k => ?_))
        exact s_zret dX11_readLine_41 rfl k.1 k.2
    · have k := k.2 h
      refine r_aload_n dX11_readLine_23 rfl ?_
      refine s_callVv (z := mX11_readStroke) [] dX11_readLine_24 mv_X11_readStroke lk_X11_191 rfl (by decide) (k_125 hS) (Nat.le_of_ble_eq_true rfl) (WPs.mono k (fun r24 s24 k => ?_))
      exact s_zret dX11_readLine_27 rfl k.1 k.2
  · have k := k.2 h
    refine r_aload_n dX11_readLine_9 rfl ?_
    refine s_callVv (z := mX11_readSheet) [] dX11_readLine_10 mv_X11_readSheet lk_X11_185 rfl (by decide) (k_125 hS) (Nat.le_of_ble_eq_true rfl) (WPs.mono k (fun r10 s10 k => ?_))
    exact s_zret dX11_readLine_13 rfl k.1 k.2
theorem e_X11_readAll {v1 : Int} {S : ShT} {σ : StT} {Q : Int → StT → Prop} (hS : SHP S) (k : WPs mX11_goesOn [vR 125] S (up2 (up2 (up2 (up2 (up2 (up2 (up2 (up2 (up2 (up2 σ 125 12 v1) 125 14 0) 125 19 0) 125 20 0) 125 21 0) 128 2 0) 128 3 0) 128 4 0) 128 5 1) 128 6 1) (fun r62 s62 => WPs mX11_readLine [vR 125] S s62 (fun r66 s66 => (¬ r66 = 0 → AWs mX11_readAll 74 [(0, vR 125)] [] S s66 Q) ∧ (r66 = 0 → Q 0 s66)))) : WPs mX11_readAll [vR 125, vI v1] S σ Q := by
  refine s_entry (by decide) (Nat.le_of_ble_eq_true rfl) rfl rfl ?_
  refine r_aload_n dX11_readAll_0 rfl ?_
  refine r_iload_n dX11_readAll_1 rfl ?_
  refine r_putIv dX11_readAll_2 fl_X11_112 (fun _ h => by cases h; rfl) (Or.inl rfl) (k_125 hS) ?_
  refine r_aload_n dX11_readAll_5 rfl ?_
  refine r_iconst dX11_readAll_6 ⟨by decide, by decide⟩ ?_
  refine r_putIv dX11_readAll_7 fl_X11_115 (fun _ h => by cases h; rfl) (Or.inl rfl) (k_125 hS) ?_
  refine r_aload_n dX11_readAll_10 rfl ?_
  refine r_iconst dX11_readAll_11 ⟨by decide, by decide⟩ ?_
  refine r_putIv dX11_readAll_12 fl_X11_165 (fun _ h => by cases h; rfl) (Or.inr ⟨rfl, by decide⟩) (k_125 hS) ?_
  refine r_aload_n dX11_readAll_15 rfl ?_
  refine r_iconst dX11_readAll_16 ⟨by decide, by decide⟩ ?_
  refine r_putIv dX11_readAll_17 fl_X11_177 (fun _ h => by cases h; rfl) (Or.inr ⟨rfl, by decide⟩) (k_125 hS) ?_
  refine r_aload_n dX11_readAll_20 rfl ?_
  refine r_iconst dX11_readAll_21 ⟨by decide, by decide⟩ ?_
  refine r_putIv dX11_readAll_22 fl_X11_180 (fun _ h => by cases h; rfl) (Or.inr ⟨rfl, by decide⟩) (k_125 hS) ?_
  refine r_aload_n dX11_readAll_25 rfl ?_
  refine r_getRv dX11_readAll_26 fl_X11_20 rfl (k_125 hS) (f_125_7 hS) (by decide) ?_
  refine r_iconst dX11_readAll_29 ⟨by decide, by decide⟩ ?_
  refine r_iconst dX11_readAll_30 ⟨by decide, by decide⟩ ?_
  refine r_iast dX11_readAll_31 (k_128 hS) (by decide) (by decide) ?_
  refine r_aload_n dX11_readAll_32 rfl ?_
  refine r_getRv dX11_readAll_33 fl_X11_20 rfl (k_125 hS) (f_125_7 hS) (by decide) ?_
  refine r_iconst dX11_readAll_36 ⟨by decide, by decide⟩ ?_
  refine r_iconst dX11_readAll_37 ⟨by decide, by decide⟩ ?_
  refine r_iast dX11_readAll_38 (k_128 hS) (by decide) (by decide) ?_
  refine r_aload_n dX11_readAll_39 rfl ?_
  refine r_getRv dX11_readAll_40 fl_X11_20 rfl (k_125 hS) (f_125_7 hS) (by decide) ?_
  refine r_iconst dX11_readAll_43 ⟨by decide, by decide⟩ ?_
  refine r_iconst dX11_readAll_44 ⟨by decide, by decide⟩ ?_
  refine r_iast dX11_readAll_45 (k_128 hS) (by decide) (by decide) ?_
  refine r_aload_n dX11_readAll_46 rfl ?_
  refine r_getRv dX11_readAll_47 fl_X11_20 rfl (k_125 hS) (f_125_7 hS) (by decide) ?_
  refine r_iconst dX11_readAll_50 ⟨by decide, by decide⟩ ?_
  refine r_iconst dX11_readAll_51 ⟨by decide, by decide⟩ ?_
  refine r_iast dX11_readAll_52 (k_128 hS) (by decide) (by decide) ?_
  refine r_aload_n dX11_readAll_53 rfl ?_
  refine r_getRv dX11_readAll_54 fl_X11_20 rfl (k_125 hS) (f_125_7 hS) (by decide) ?_
  refine r_bipush dX11_readAll_57 (by decide +kernel) ⟨by decide, by decide⟩ ?_
  refine r_iconst dX11_readAll_59 ⟨by decide, by decide⟩ ?_
  refine r_iast dX11_readAll_60 (k_128 hS) (by decide) (by decide) ?_
  refine r_aload_n dX11_readAll_61 rfl ?_
  refine s_callVv (z := mX11_goesOn) [] dX11_readAll_62 mv_X11_goesOn lk_X11_155 rfl (by decide) (k_125 hS) (Nat.le_of_ble_eq_true rfl) (WPs.mono k (fun r62 s62 k => ?_))
  refine r_aload_n dX11_readAll_65 rfl ?_
  refine s_callVv (z := mX11_readLine) [] dX11_readAll_66 mv_X11_readLine lk_X11_204 rfl (by decide) (k_125 hS) (Nat.le_of_ble_eq_true rfl) (WPs.mono k (fun r66 s66 k => ?_))
  refine r_if_ne (tgt := 74) dX11_readAll_69 rfl (fun h => ?_) (fun h => ?_)
  · have k := k.1 h
    refine r_loc [0] rfl ?_
    exact k
  · have k := k.2 h
    refine r_iconst dX11_readAll_72 ⟨by decide, by decide⟩ ?_
    exact s_zret dX11_readAll_73 rfl (by decide) k
theorem t_X11_readAll_74 {S : ShT} {σ : StT} {Q : Int → StT → Prop} (hS : SHP S) (k : (¬ σ 125 15 = 59 → (σ 125 15 = 0 → (¬ σ 125 19 = 0 → Q 1 σ) ∧ (σ 125 19 = 0 → WPs mX11_errs [vR 125, vI 6] S σ (fun r119 s119 => (r119 = 0 → Q 0 s119) ∧ (¬ (r119 = 0) → Q 1 s119)))) ∧ (¬ (σ 125 15 = 0) → WPs mX11_errs [vR 125, vI 1] S σ (fun r105 s105 => (r105 = 0 ∨ r105 = 1) ∧ Q r105 s105))) ∧ (σ 125 15 = 59 → WPs mX11_goesOn [vR 125] S σ (fun r84 s84 => WPs mX11_readLine [vR 125] S s84 (fun r88 s88 => (¬ r88 = 0 → AWs mX11_readAll 74 [(0, vR 125)] [] S s88 Q) ∧ (r88 = 0 → Q 0 s88))))) : AWs mX11_readAll 74 [(0, vR 125)] [] S σ Q := by
  refine r_aload_n dX11_readAll_74 rfl ?_
  refine r_getIv dX11_readAll_75 fl_X11_125 rfl (k_125 hS) ?_
  refine r_bipush dX11_readAll_78 (by decide +kernel) ⟨by decide, by decide⟩ ?_
  refine r_icmp_ne (tgt := 96) dX11_readAll_80 rfl (fun h => ?_) (fun h => ?_)
  · have k := k.1 h
    refine r_aload_n dX11_readAll_96 rfl ?_
    refine r_getIv dX11_readAll_97 fl_X11_125 rfl (k_125 hS) ?_
    refine r_if_eq (tgt := 109) dX11_readAll_100 rfl (fun h => ?_) (fun h => ?_)
    · have k := k.1 h
      refine r_aload_n dX11_readAll_109 rfl ?_
      refine r_getIv dX11_readAll_110 fl_X11_165 rfl (k_125 hS) ?_
      refine r_if_ne (tgt := 125) dX11_readAll_113 rfl (fun h => ?_) (fun h => ?_)
      · have k := k.1 h
        refine r_iconst dX11_readAll_125 ⟨by decide, by decide⟩ ?_
        refine r_goto (tgt := 130) dX11_readAll_126 rfl ?_
        exact s_zret dX11_readAll_130 rfl (by decide) k
      · have k := k.2 h
        refine r_aload_n dX11_readAll_116 rfl ?_
        refine r_bipush dX11_readAll_117 (by decide +kernel) ⟨by decide, by decide⟩ ?_
        refine s_callVv (z := mX11_errs) [vI 6] dX11_readAll_119 mv_X11_errs lk_X11_151 rfl (by decide) (k_125 hS) (Nat.le_of_ble_eq_true rfl) (WPs.mono k (fun r119 s119 k => ?_))
        refine r_if_eq (tgt := 129) dX11_readAll_122 rfl (fun h => ?_) (fun h => ?_)
        · have k := k.1 h
          refine r_iconst dX11_readAll_129 ⟨by decide, by decide⟩ ?_
          exact s_zret dX11_readAll_130 rfl (by decide) k
        · have k := k.2 h
          refine r_iconst dX11_readAll_125 ⟨by decide, by decide⟩ ?_
          refine r_goto (tgt := 130) dX11_readAll_126 rfl ?_
          exact s_zret dX11_readAll_130 rfl (by decide) k
    · have k := k.2 h
      refine r_aload_n dX11_readAll_103 rfl ?_
      refine r_iconst dX11_readAll_104 ⟨by decide, by decide⟩ ?_
      refine s_callVv (z := mX11_errs) [vI 1] dX11_readAll_105 mv_X11_errs lk_X11_151 rfl (by decide) (k_125 hS) (Nat.le_of_ble_eq_true rfl) (WPs.mono k (fun r105 s105 k => ?_))
      exact s_zret dX11_readAll_108 rfl k.1 k.2
  · have k := k.2 h
    refine r_aload_n dX11_readAll_83 rfl ?_
    refine s_callVv (z := mX11_goesOn) [] dX11_readAll_84 mv_X11_goesOn lk_X11_155 rfl (by decide) (k_125 hS) (Nat.le_of_ble_eq_true rfl) (WPs.mono k (fun r84 s84 k => ?_))
    refine r_aload_n dX11_readAll_87 rfl ?_
    refine s_callVv (z := mX11_readLine) [] dX11_readAll_88 mv_X11_readLine lk_X11_204 rfl (by decide) (k_125 hS) (Nat.le_of_ble_eq_true rfl) (WPs.mono k (fun r88 s88 k => ?_))
    refine r_if_ne (tgt := 74) dX11_readAll_91 rfl (fun h => ?_) (fun h => ?_)
    · have k := k.1 h
      exact k
    · have k := k.2 h
      refine r_iconst dX11_readAll_94 ⟨by decide, by decide⟩ ?_
      exact s_zret dX11_readAll_95 rfl (by decide) k
theorem e_X11_sheet {v1 : Int} {S : ShT} {σ : StT} {Q : Int → StT → Prop} (hS : SHP S) (k : WPs mX11_in [vI v1, vI 0, vI (σ 125 5)] S σ (fun r7 s7 => (r7 = 0 → WPs mX11_isRefused [vR 125, vI 2] S s7 (fun r18 s18 => (r18 = 0 → WPs mX11_readAll [vR 125, vI v1] S (up2 (up2 s18 125 5 0) 125 2 0) (fun r38 s38 => (¬ r38 = 0 → WPs mX11_copies [vR 128, vI 0, vR 127, vI 0] S s38 (fun r76 s76 => WPs mX11_plansAnew [vR 125] S (up2 (up2 s76 125 11 1) 125 10 0) (fun r90 s90 => Q (s90 127 2) s90))) ∧ (r38 = 0 → WPs mX11_no [vR 125, vI 4] S (up2 (up2 s38 125 2 (s38 125 17)) 125 3 (s38 125 18)) (fun r62 s62 => Q r62 s62)))) ∧ (¬ (r18 = 0) → Q (-1) s18))) ∧ (¬ (r7 = 0) → WPs mX11_isRefused [vR 125, vI 0] S s7 (fun r18 s18 => (r18 = 0 → WPs mX11_readAll [vR 125, vI v1] S (up2 (up2 s18 125 5 0) 125 2 0) (fun r38 s38 => (¬ r38 = 0 → WPs mX11_copies [vR 128, vI 0, vR 127, vI 0] S s38 (fun r76 s76 => WPs mX11_plansAnew [vR 125] S (up2 (up2 s76 125 11 1) 125 10 0) (fun r90 s90 => Q (s90 127 2) s90))) ∧ (r38 = 0 → WPs mX11_no [vR 125, vI 4] S (up2 (up2 s38 125 2 (s38 125 17)) 125 3 (s38 125 18)) (fun r62 s62 => Q r62 s62)))) ∧ (¬ (r18 = 0) → Q (-1) s18))))) : WPs mX11_sheet [vR 125, vI v1] S σ Q := by
  refine s_entry (by decide) (Nat.le_of_ble_eq_true rfl) rfl rfl ?_
  refine r_aload_n dX11_sheet_0 rfl ?_
  refine r_iload_n dX11_sheet_1 rfl ?_
  refine r_iconst dX11_sheet_2 ⟨by decide, by decide⟩ ?_
  refine r_aload_n dX11_sheet_3 rfl ?_
  refine r_getIv dX11_sheet_4 fl_X11_105 rfl (k_125 hS) ?_
  refine s_callS (z := mX11_in) [vI v1, vI 0, vI (σ 125 5)] dX11_sheet_7 ms_X11_in lk_X11_128 rfl (by decide) (Nat.le_of_ble_eq_true rfl) (WPs.mono k (fun r7 s7 k => ?_))
  refine r_if_eq (tgt := 17) dX11_sheet_10 rfl (fun h => ?_) (fun h => ?_)
  · have k := k.1 h
    refine r_iconst dX11_sheet_17 ⟨by decide, by decide⟩ ?_
    refine s_callVv (z := mX11_isRefused) [vI 2] dX11_sheet_18 mv_X11_isRefused lk_X11_207 rfl (by decide) (k_125 hS) (Nat.le_of_ble_eq_true rfl) (WPs.mono k (fun r18 s18 k => ?_))
    refine r_if_eq (tgt := 26) dX11_sheet_21 rfl (fun h => ?_) (fun h => ?_)
    · have k := k.1 h
      refine r_aload_n dX11_sheet_26 rfl ?_
      refine r_iconst dX11_sheet_27 ⟨by decide, by decide⟩ ?_
      refine r_putIv dX11_sheet_28 fl_X11_105 (fun _ h => by cases h; rfl) (Or.inl rfl) (k_125 hS) ?_
      refine r_aload_n dX11_sheet_31 rfl ?_
      refine r_iconst dX11_sheet_32 ⟨by decide, by decide⟩ ?_
      refine r_putIv dX11_sheet_33 fl_X11_210 (fun _ h => by cases h; rfl) (Or.inl rfl) (k_125 hS) ?_
      refine r_aload_n dX11_sheet_36 rfl ?_
      refine r_iload_n dX11_sheet_37 rfl ?_
      refine s_callVv (z := mX11_readAll) [vI v1] dX11_sheet_38 mv_X11_readAll lk_X11_213 rfl (by decide) (k_125 hS) (Nat.le_of_ble_eq_true rfl) (WPs.mono k (fun r38 s38 k => ?_))
      refine r_if_ne (tgt := 66) dX11_sheet_41 rfl (fun h => ?_) (fun h => ?_)
      · have k := k.1 h
        refine r_aload_n dX11_sheet_66 rfl ?_
        refine r_getRv dX11_sheet_67 fl_X11_20 rfl (k_125 hS) (f_125_7 hS) (by decide) ?_
        refine r_iconst dX11_sheet_70 ⟨by decide, by decide⟩ ?_
        refine r_aload_n dX11_sheet_71 rfl ?_
        refine r_getRv dX11_sheet_72 fl_X11_17 rfl (k_125 hS) (f_125_6 hS) (by decide) ?_
        refine r_iconst dX11_sheet_75 ⟨by decide, by decide⟩ ?_
        refine s_callS (z := mX11_copies) [vR 128, vI 0, vR 127, vI 0] dX11_sheet_76 ms_X11_copies lk_X11_219 rfl (by decide) (Nat.le_of_ble_eq_true rfl) (WPs.mono k (fun r76 s76 k => ?_))
        refine r_aload_n dX11_sheet_79 rfl ?_
        refine r_iconst dX11_sheet_80 ⟨by decide, by decide⟩ ?_
        refine r_putIv dX11_sheet_81 fl_X11_223 (fun _ h => by cases h; rfl) (Or.inr ⟨rfl, by decide⟩) (k_125 hS) ?_
        refine r_aload_n dX11_sheet_84 rfl ?_
        refine r_iconst dX11_sheet_85 ⟨by decide, by decide⟩ ?_
        refine r_putIv dX11_sheet_86 fl_X11_226 (fun _ h => by cases h; rfl) (Or.inl rfl) (k_125 hS) ?_
        refine r_aload_n dX11_sheet_89 rfl ?_
        refine s_callVv (z := mX11_plansAnew) [] dX11_sheet_90 mv_X11_plansAnew lk_X11_229 rfl (by decide) (k_125 hS) (Nat.le_of_ble_eq_true rfl) (WPs.mono k (fun r90 s90 k => ?_))
        refine r_aload_n dX11_sheet_93 rfl ?_
        refine r_getRv dX11_sheet_94 fl_X11_17 rfl (k_125 hS) (f_125_6 hS) (by decide) ?_
        refine r_iconst dX11_sheet_97 ⟨by decide, by decide⟩ ?_
        refine r_iald dX11_sheet_98 (Or.inl (k_127 hS)) (by decide) (by decide) ?_
        exact s_iret dX11_sheet_99 rfl k
      · have k := k.2 h
        refine r_aload_n dX11_sheet_44 rfl ?_
        refine r_aload_n dX11_sheet_45 rfl ?_
        refine r_getIv dX11_sheet_46 fl_X11_145 rfl (k_125 hS) ?_
        refine r_putIv dX11_sheet_49 fl_X11_210 (fun _ h => by cases h; rfl) (Or.inl rfl) (k_125 hS) ?_
        refine r_aload_n dX11_sheet_52 rfl ?_
        refine r_aload_n dX11_sheet_53 rfl ?_
        refine r_getIv dX11_sheet_54 fl_X11_148 rfl (k_125 hS) ?_
        refine r_top (up2_i (by decide)) ?_
        refine r_putIv dX11_sheet_57 fl_X11_9 (fun _ h => by cases h; rfl) (Or.inl rfl) (k_125 hS) ?_
        refine r_aload_n dX11_sheet_60 rfl ?_
        refine r_iconst dX11_sheet_61 ⟨by decide, by decide⟩ ?_
        refine s_callVv (z := mX11_no) [vI 4] dX11_sheet_62 mv_X11_no lk_X11_216 rfl (by decide) (k_125 hS) (Nat.le_of_ble_eq_true rfl) (WPs.mono k (fun r62 s62 k => ?_))
        exact s_iret dX11_sheet_65 rfl k
    · have k := k.2 h
      refine r_iconst dX11_sheet_24 ⟨by decide, by decide⟩ ?_
      exact s_iret dX11_sheet_25 rfl k
  · have k := k.2 h
    refine r_iconst dX11_sheet_13 ⟨by decide, by decide⟩ ?_
    refine r_goto (tgt := 18) dX11_sheet_14 rfl ?_
    refine s_callVv (z := mX11_isRefused) [vI 0] dX11_sheet_18 mv_X11_isRefused lk_X11_207 rfl (by decide) (k_125 hS) (Nat.le_of_ble_eq_true rfl) (WPs.mono k (fun r18 s18 k => ?_))
    refine r_if_eq (tgt := 26) dX11_sheet_21 rfl (fun h => ?_) (fun h => ?_)
    · have k := k.1 h
      refine r_aload_n dX11_sheet_26 rfl ?_
      refine r_iconst dX11_sheet_27 ⟨by decide, by decide⟩ ?_
      refine r_putIv dX11_sheet_28 fl_X11_105 (fun _ h => by cases h; rfl) (Or.inl rfl) (k_125 hS) ?_
      refine r_aload_n dX11_sheet_31 rfl ?_
      refine r_iconst dX11_sheet_32 ⟨by decide, by decide⟩ ?_
      refine r_putIv dX11_sheet_33 fl_X11_210 (fun _ h => by cases h; rfl) (Or.inl rfl) (k_125 hS) ?_
      refine r_aload_n dX11_sheet_36 rfl ?_
      refine r_iload_n dX11_sheet_37 rfl ?_
      refine s_callVv (z := mX11_readAll) [vI v1] dX11_sheet_38 mv_X11_readAll lk_X11_213 rfl (by decide) (k_125 hS) (Nat.le_of_ble_eq_true rfl) (WPs.mono k (fun r38 s38 k => ?_))
      refine r_if_ne (tgt := 66) dX11_sheet_41 rfl (fun h => ?_) (fun h => ?_)
      · have k := k.1 h
        refine r_aload_n dX11_sheet_66 rfl ?_
        refine r_getRv dX11_sheet_67 fl_X11_20 rfl (k_125 hS) (f_125_7 hS) (by decide) ?_
        refine r_iconst dX11_sheet_70 ⟨by decide, by decide⟩ ?_
        refine r_aload_n dX11_sheet_71 rfl ?_
        refine r_getRv dX11_sheet_72 fl_X11_17 rfl (k_125 hS) (f_125_6 hS) (by decide) ?_
        refine r_iconst dX11_sheet_75 ⟨by decide, by decide⟩ ?_
        refine s_callS (z := mX11_copies) [vR 128, vI 0, vR 127, vI 0] dX11_sheet_76 ms_X11_copies lk_X11_219 rfl (by decide) (Nat.le_of_ble_eq_true rfl) (WPs.mono k (fun r76 s76 k => ?_))
        refine r_aload_n dX11_sheet_79 rfl ?_
        refine r_iconst dX11_sheet_80 ⟨by decide, by decide⟩ ?_
        refine r_putIv dX11_sheet_81 fl_X11_223 (fun _ h => by cases h; rfl) (Or.inr ⟨rfl, by decide⟩) (k_125 hS) ?_
        refine r_aload_n dX11_sheet_84 rfl ?_
        refine r_iconst dX11_sheet_85 ⟨by decide, by decide⟩ ?_
        refine r_putIv dX11_sheet_86 fl_X11_226 (fun _ h => by cases h; rfl) (Or.inl rfl) (k_125 hS) ?_
        refine r_aload_n dX11_sheet_89 rfl ?_
        refine s_callVv (z := mX11_plansAnew) [] dX11_sheet_90 mv_X11_plansAnew lk_X11_229 rfl (by decide) (k_125 hS) (Nat.le_of_ble_eq_true rfl) (WPs.mono k (fun r90 s90 k => ?_))
        refine r_aload_n dX11_sheet_93 rfl ?_
        refine r_getRv dX11_sheet_94 fl_X11_17 rfl (k_125 hS) (f_125_6 hS) (by decide) ?_
        refine r_iconst dX11_sheet_97 ⟨by decide, by decide⟩ ?_
        refine r_iald dX11_sheet_98 (Or.inl (k_127 hS)) (by decide) (by decide) ?_
        exact s_iret dX11_sheet_99 rfl k
      · have k := k.2 h
        refine r_aload_n dX11_sheet_44 rfl ?_
        refine r_aload_n dX11_sheet_45 rfl ?_
        refine r_getIv dX11_sheet_46 fl_X11_145 rfl (k_125 hS) ?_
        refine r_putIv dX11_sheet_49 fl_X11_210 (fun _ h => by cases h; rfl) (Or.inl rfl) (k_125 hS) ?_
        refine r_aload_n dX11_sheet_52 rfl ?_
        refine r_aload_n dX11_sheet_53 rfl ?_
        refine r_getIv dX11_sheet_54 fl_X11_148 rfl (k_125 hS) ?_
        refine r_top (up2_i (by decide)) ?_
        refine r_putIv dX11_sheet_57 fl_X11_9 (fun _ h => by cases h; rfl) (Or.inl rfl) (k_125 hS) ?_
        refine r_aload_n dX11_sheet_60 rfl ?_
        refine r_iconst dX11_sheet_61 ⟨by decide, by decide⟩ ?_
        refine s_callVv (z := mX11_no) [vI 4] dX11_sheet_62 mv_X11_no lk_X11_216 rfl (by decide) (k_125 hS) (Nat.le_of_ble_eq_true rfl) (WPs.mono k (fun r62 s62 k => ?_))
        exact s_iret dX11_sheet_65 rfl k
    · have k := k.2 h
      refine r_iconst dX11_sheet_24 ⟨by decide, by decide⟩ ?_
      exact s_iret dX11_sheet_25 rfl k
theorem e_X11_fault {S : ShT} {σ : StT} {Q : Int → StT → Prop} (hS : SHP S) (k : Q (σ 125 2) (up2 σ 125 0 0)) : WPs mX11_fault [vR 125] S σ Q := by
  refine s_entry (by decide) (Nat.le_of_ble_eq_true rfl) rfl rfl ?_
  refine r_aload_n dX11_fault_0 rfl ?_
  refine r_iconst dX11_fault_1 ⟨by decide, by decide⟩ ?_
  refine r_putIv dX11_fault_2 fl_X11_99 (fun _ h => by cases h; rfl) (Or.inl rfl) (k_125 hS) ?_
  refine r_aload_n dX11_fault_5 rfl ?_
  refine r_getIv dX11_fault_6 fl_X11_210 rfl (k_125 hS) ?_
  refine r_top (up2_i (by decide)) ?_
  exact s_iret dX11_fault_9 rfl k
theorem e_X11_where {S : ShT} {σ : StT} {Q : Int → StT → Prop} (hS : SHP S) (k : (¬ σ 125 1 = 4 → Q (-1) (up2 σ 125 0 0)) ∧ (σ 125 1 = 4 → Q (σ 125 3) (up2 σ 125 0 0))) : WPs mX11_where [vR 125] S σ Q := by
  refine s_entry (by decide) (Nat.le_of_ble_eq_true rfl) rfl rfl ?_
  refine r_aload_n dX11_where_0 rfl ?_
  refine r_iconst dX11_where_1 ⟨by decide, by decide⟩ ?_
  refine r_putIv dX11_where_2 fl_X11_99 (fun _ h => by cases h; rfl) (Or.inl rfl) (k_125 hS) ?_
  refine r_aload_n dX11_where_5 rfl ?_
  refine r_getIv dX11_where_6 fl_X11_102 rfl (k_125 hS) ?_
  refine r_top (up2_i (by decide)) ?_
  refine r_iconst dX11_where_9 ⟨by decide, by decide⟩ ?_
  refine r_icmp_ne (tgt := 20) dX11_where_10 rfl (fun h => ?_) (fun h => ?_)
  · have k := k.1 h
    refine r_iconst dX11_where_20 ⟨by decide, by decide⟩ ?_
    exact s_iret dX11_where_21 rfl k
  · have k := k.2 h
    refine r_aload_n dX11_where_13 rfl ?_
    refine r_getIv dX11_where_14 fl_X11_9 rfl (k_125 hS) ?_
    refine r_top (up2_i (by decide)) ?_
    refine r_goto (tgt := 21) dX11_where_17 rfl ?_
    exact s_iret dX11_where_21 rfl k
theorem e_X11_endX {v1 : Int} {S : ShT} {σ : StT} {Q : Int → StT → Prop} (hS : SHP S) (k : inR (2 * v1) ∧ inR (7 + (2 * v1)) ∧ (0 ≤ 7 + (2 * v1) ∧ 7 + (2 * v1) < 152) ∧ Q (σ 127 (7 + (2 * v1)).toNat) σ) : WPs mX11_endX [vR 125, vI v1] S σ Q := by
  refine s_entry (by decide) (Nat.le_of_ble_eq_true rfl) rfl rfl ?_
  refine r_aload_n dX11_endX_0 rfl ?_
  refine r_getRv dX11_endX_1 fl_X11_17 rfl (k_125 hS) (f_125_6 hS) (by decide) ?_
  refine r_bipush dX11_endX_4 (by decide +kernel) ⟨by decide, by decide⟩ ?_
  refine r_iconst dX11_endX_6 ⟨by decide, by decide⟩ ?_
  refine r_iload_n dX11_endX_7 rfl ?_
  obtain ⟨h, k⟩ := k
  refine r_imul dX11_endX_8 h ?_
  obtain ⟨h, k⟩ := k
  refine r_iadd dX11_endX_9 h ?_
  obtain ⟨⟨h0, h1⟩, k⟩ := k
  refine r_iald dX11_endX_10 (Or.inl (k_127 hS)) h0 h1 ?_
  exact s_iret dX11_endX_11 rfl k
theorem e_X11_endY {v1 : Int} {S : ShT} {σ : StT} {Q : Int → StT → Prop} (hS : SHP S) (k : inR (2 * v1) ∧ inR (7 + (2 * v1)) ∧ inR ((7 + (2 * v1)) + 1) ∧ (0 ≤ (7 + (2 * v1)) + 1 ∧ (7 + (2 * v1)) + 1 < 152) ∧ Q (σ 127 ((7 + (2 * v1)) + 1).toNat) σ) : WPs mX11_endY [vR 125, vI v1] S σ Q := by
  refine s_entry (by decide) (Nat.le_of_ble_eq_true rfl) rfl rfl ?_
  refine r_aload_n dX11_endY_0 rfl ?_
  refine r_getRv dX11_endY_1 fl_X11_17 rfl (k_125 hS) (f_125_6 hS) (by decide) ?_
  refine r_bipush dX11_endY_4 (by decide +kernel) ⟨by decide, by decide⟩ ?_
  refine r_iconst dX11_endY_6 ⟨by decide, by decide⟩ ?_
  refine r_iload_n dX11_endY_7 rfl ?_
  obtain ⟨h, k⟩ := k
  refine r_imul dX11_endY_8 h ?_
  obtain ⟨h, k⟩ := k
  refine r_iadd dX11_endY_9 h ?_
  refine r_iconst dX11_endY_10 ⟨by decide, by decide⟩ ?_
  obtain ⟨h, k⟩ := k
  refine r_iadd dX11_endY_11 h ?_
  obtain ⟨⟨h0, h1⟩, k⟩ := k
  refine r_iald dX11_endY_12 (Or.inl (k_127 hS)) h0 h1 ?_
  exact s_iret dX11_endY_13 rfl k
theorem e_X11_apart {v1 v2 : Int} {S : ShT} {σ : StT} {Q : Int → StT → Prop} (hS : SHP S) (k : WPs mX11_endX [vR 125, vI v1] S σ (fun r2 s2 => WPs mX11_endX [vR 125, vI v2] S s2 (fun r7 s7 => inR (r2 - r7) ∧ WPs mX11_abs [vI (r2 - r7)] S s7 (fun r11 s11 => WPs mX11_endY [vR 125, vI v1] S s11 (fun r16 s16 => WPs mX11_endY [vR 125, vI v2] S s16 (fun r21 s21 => inR (r16 - r21) ∧ WPs mX11_abs [vI (r16 - r21)] S s21 (fun r25 s25 => inR (r11 + r25) ∧ Q (r11 + r25) s25))))))) : WPs mX11_apart [vR 125, vI v1, vI v2] S σ Q := by
  refine s_entry (by decide) (Nat.le_of_ble_eq_true rfl) rfl rfl ?_
  refine r_aload_n dX11_apart_0 rfl ?_
  refine r_iload_n dX11_apart_1 rfl ?_
  refine s_callVv (z := mX11_endX) [vI v1] dX11_apart_2 mv_X11_endX lk_X11_232 rfl (by decide) (k_125 hS) (Nat.le_of_ble_eq_true rfl) (WPs.mono k (fun r2 s2 k => ?_))
  refine r_aload_n dX11_apart_5 rfl ?_
  refine r_iload_n dX11_apart_6 rfl ?_
  refine s_callVv (z := mX11_endX) [vI v2] dX11_apart_7 mv_X11_endX lk_X11_232 rfl (by decide) (k_125 hS) (Nat.le_of_ble_eq_true rfl) (WPs.mono k (fun r7 s7 k => ?_))
  obtain ⟨h, k⟩ := k
  refine r_isub dX11_apart_10 h ?_
  refine s_callS (z := mX11_abs) [vI (r2 - r7)] dX11_apart_11 ms_X11_abs lk_X11_235 rfl (by decide) (Nat.le_of_ble_eq_true rfl) (WPs.mono k (fun r11 s11 k => ?_))
  refine r_aload_n dX11_apart_14 rfl ?_
  refine r_iload_n dX11_apart_15 rfl ?_
  refine s_callVv (z := mX11_endY) [vI v1] dX11_apart_16 mv_X11_endY lk_X11_238 rfl (by decide) (k_125 hS) (Nat.le_of_ble_eq_true rfl) (WPs.mono k (fun r16 s16 k => ?_))
  refine r_aload_n dX11_apart_19 rfl ?_
  refine r_iload_n dX11_apart_20 rfl ?_
  refine s_callVv (z := mX11_endY) [vI v2] dX11_apart_21 mv_X11_endY lk_X11_238 rfl (by decide) (k_125 hS) (Nat.le_of_ble_eq_true rfl) (WPs.mono k (fun r21 s21 k => ?_))
  obtain ⟨h, k⟩ := k
  refine r_isub dX11_apart_24 h ?_
  refine s_callS (z := mX11_abs) [vI (r16 - r21)] dX11_apart_25 ms_X11_abs lk_X11_235 rfl (by decide) (Nat.le_of_ble_eq_true rfl) (WPs.mono k (fun r25 s25 k => ?_))
  obtain ⟨h, k⟩ := k
  refine r_iadd dX11_apart_28 h ?_
  exact s_iret dX11_apart_29 rfl k
theorem e_X11_numbers {a na : Nat} {v1 : Int} {S : ShT} {σ : StT} {Q : Int → StT → Prop} (hS : SHP S) (ha : S.2.1 a = (1, na)) (k : AWs mX11_numbers 4 [(0, vR a), (1, vI v1), (2, vI 0), (3, vI 0)] [] S σ Q) : WPs mX11_numbers [vR a, vI v1] S σ Q := by
  refine s_entry (by decide) (Nat.le_of_ble_eq_true rfl) rfl rfl ?_
  refine r_iconst dX11_numbers_0 ⟨by decide, by decide⟩ ?_
  refine r_istore_n dX11_numbers_1 (by decide) rfl rfl ?_
  refine r_iconst dX11_numbers_2 ⟨by decide, by decide⟩ ?_
  refine r_istore_n dX11_numbers_3 (by decide) rfl rfl ?_
  exact k
theorem t_X11_numbers_4 {a na : Nat} {v1 v2 v3 : Int} {S : ShT} {σ : StT} {Q : Int → StT → Prop} (hS : SHP S) (ha : S.2.1 a = (1, na)) (k : (v1 ≤ v3 → AWs mX11_numbers 30 [(0, vR a), (1, vI v1), (2, vI v2), (3, vI 0), (4, vI 0)] [] S σ Q) ∧ (¬ (v1 ≤ v3) → (0 ≤ v3 ∧ v3 < (na : Int)) ∧ ((¬ σ a v3.toNat = v3 → inR (v3 + 1) ∧ AWs mX11_numbers 4 [(0, vR a), (1, vI v1), (2, vI v2), (3, vI (v3 + 1))] [] S σ Q) ∧ (σ a v3.toNat = v3 → inR (v2 + 1) ∧ inR (v3 + 1) ∧ AWs mX11_numbers 4 [(0, vR a), (1, vI v1), (2, vI (v2 + 1)), (3, vI (v3 + 1))] [] S σ Q)))) : AWs mX11_numbers 4 [(0, vR a), (1, vI v1), (2, vI v2), (3, vI v3)] [] S σ Q := by
  refine r_iload_n dX11_numbers_4 rfl ?_
  refine r_iload_n dX11_numbers_5 rfl ?_
  refine r_icmp_ge (tgt := 25) dX11_numbers_6 rfl (fun h => ?_) (fun h => ?_)
  · have k := k.1 h
    refine r_iconst dX11_numbers_25 ⟨by decide, by decide⟩ ?_
    refine r_istore_n dX11_numbers_26 (by decide) rfl rfl ?_
    refine r_iconst dX11_numbers_27 ⟨by decide, by decide⟩ ?_
    refine r_istore dX11_numbers_28 (by decide) rfl rfl ?_
    exact k
  · have k := k.2 h
    refine r_aload_n dX11_numbers_9 rfl ?_
    refine r_iload_n dX11_numbers_10 rfl ?_
    obtain ⟨⟨h0, h1⟩, k⟩ := k
    refine r_iald dX11_numbers_11 (Or.inl ha) h0 h1 ?_
    refine r_iload_n dX11_numbers_12 rfl ?_
    refine r_icmp_ne (tgt := 19) dX11_numbers_13 rfl (fun h => ?_) (fun h => ?_)
    · have k := k.1 h
      obtain ⟨h, k⟩ := k
      refine r_iinc dX11_numbers_19 rfl (by decide) rfl rfl h ?_
      refine r_goto (tgt := 4) dX11_numbers_22 rfl ?_
      exact k
    · have k := k.2 h
      obtain ⟨h, k⟩ := k
      refine r_iinc dX11_numbers_16 rfl (by decide) rfl rfl h ?_
      obtain ⟨h, k⟩ := k
      refine r_iinc dX11_numbers_19 rfl (by decide) rfl rfl h ?_
      refine r_goto (tgt := 4) dX11_numbers_22 rfl ?_
      exact k
theorem t_X11_numbers_30 {a na : Nat} {v1 v2 v3 v4 : Int} {S : ShT} {σ : StT} {Q : Int → StT → Prop} (hS : SHP S) (ha : S.2.1 a = (1, na)) (k : (v1 ≤ v4 → AWs mX11_numbers 117 [(0, vR a), (1, vI v1), (2, vI v2), (4, vI 0)] [] S σ Q) ∧ (¬ (v1 ≤ v4) → (0 ≤ v4 ∧ v4 < (na : Int)) ∧ ((¬ σ a v4.toNat = v4 → inR (v4 + 1) ∧ AWs mX11_numbers 30 [(0, vR a), (1, vI v1), (2, vI v2), (3, vI v3), (4, vI (v4 + 1))] [] S σ Q) ∧ (σ a v4.toNat = v4 → inR (v4 + 1) ∧ AWs mX11_numbers 63 [(0, vR a), (1, vI v1), (2, vI v2), (3, vI v3), (4, vI v4), (6, vI (v4 + 1))] [] S σ Q)))) : AWs mX11_numbers 30 [(0, vR a), (1, vI v1), (2, vI v2), (3, vI v3), (4, vI v4)] [] S σ Q := by
  refine r_iload dX11_numbers_30 rfl ?_
  refine r_iload_n dX11_numbers_32 rfl ?_
  refine r_icmp_ge (tgt := 114) dX11_numbers_33 rfl (fun h => ?_) (fun h => ?_)
  · have k := k.1 h
    refine r_iconst dX11_numbers_114 ⟨by decide, by decide⟩ ?_
    refine r_istore dX11_numbers_115 (by decide) rfl rfl ?_
    refine r_loc [0, 1, 2, 4] rfl ?_
    exact k
  · have k := k.2 h
    refine r_aload_n dX11_numbers_36 rfl ?_
    refine r_iload dX11_numbers_37 rfl ?_
    obtain ⟨⟨h0, h1⟩, k⟩ := k
    refine r_iald dX11_numbers_39 (Or.inl ha) h0 h1 ?_
    refine r_iload dX11_numbers_40 rfl ?_
    refine r_icmp_ne (tgt := 49) dX11_numbers_42 rfl (fun h => ?_) (fun h => ?_)
    · have k := k.1 h
      refine r_iconst dX11_numbers_49 ⟨by decide, by decide⟩ ?_
      refine r_istore dX11_numbers_50 (by decide) rfl rfl ?_
      refine r_iload dX11_numbers_52 rfl ?_
      refine r_if_eq (tgt := 108) dX11_numbers_54 rfl (fun h => ?_) (fun h => ?_)
      · skip
        obtain ⟨h, k⟩ := k
        refine r_iinc dX11_numbers_108 rfl (by decide) rfl rfl h ?_
        refine r_goto (tgt := 30) dX11_numbers_111 rfl ?_
        refine r_loc [0, 1, 2, 3, 4] rfl ?_
        exact k
      · exact absurd (by decide) h
    · have k := k.2 h
      refine r_iconst dX11_numbers_45 ⟨by decide, by decide⟩ ?_
      refine r_goto (tgt := 50) dX11_numbers_46 rfl ?_
      refine r_istore dX11_numbers_50 (by decide) rfl rfl ?_
      refine r_iload dX11_numbers_52 rfl ?_
      refine r_if_eq (tgt := 108) dX11_numbers_54 rfl (fun h => ?_) (fun h => ?_)
      · exact absurd h (by decide)
      · skip
        refine r_iload dX11_numbers_57 rfl ?_
        refine r_iconst dX11_numbers_59 ⟨by decide, by decide⟩ ?_
        obtain ⟨h, k⟩ := k
        refine r_iadd dX11_numbers_60 h ?_
        refine r_istore dX11_numbers_61 (by decide) rfl rfl ?_
        refine r_loc [0, 1, 2, 3, 4, 6] rfl ?_
        exact k
theorem t_X11_numbers_63 {a na : Nat} {v1 v2 v3 v4 v6 : Int} {S : ShT} {σ : StT} {Q : Int → StT → Prop} (hS : SHP S) (ha : S.2.1 a = (1, na)) (k : (v1 ≤ v6 → inR ((-1) - v3) ∧ (0 ≤ v4 ∧ v4 < (na : Int)) ∧ inR (v3 + 1) ∧ inR (v4 + 1) ∧ AWs mX11_numbers 30 [(0, vR a), (1, vI v1), (2, vI v2), (3, vI (v3 + 1)), (4, vI (v4 + 1))] [] S (up2 σ a v4.toNat ((-1) - v3)) Q) ∧ (¬ (v1 ≤ v6) → (0 ≤ v6 ∧ v6 < (na : Int)) ∧ ((¬ σ a v6.toNat = v4 → (0 ≤ v6 ∧ v6 < (na : Int)) ∧ (0 ≤ v6 ∧ v6 < (na : Int)) ∧ inR (v6 + 1) ∧ AWs mX11_numbers 63 [(0, vR a), (1, vI v1), (2, vI v2), (3, vI v3), (4, vI v4), (6, vI (v6 + 1))] [] S (up2 σ a v6.toNat (σ a v6.toNat)) Q) ∧ (σ a v6.toNat = v4 → inR ((-1) - v3) ∧ (0 ≤ v6 ∧ v6 < (na : Int)) ∧ inR (v6 + 1) ∧ AWs mX11_numbers 63 [(0, vR a), (1, vI v1), (2, vI v2), (3, vI v3), (4, vI v4), (6, vI (v6 + 1))] [] S (up2 σ a v6.toNat ((-1) - v3)) Q)))) : AWs mX11_numbers 63 [(0, vR a), (1, vI v1), (2, vI v2), (3, vI v3), (4, vI v4), (6, vI v6)] [] S σ Q := by
  refine r_iload dX11_numbers_63 rfl ?_
  refine r_iload_n dX11_numbers_65 rfl ?_
  refine r_icmp_ge (tgt := 98) dX11_numbers_66 rfl (fun h => ?_) (fun h => ?_)
  · have k := k.1 h
    refine r_aload_n dX11_numbers_98 rfl ?_
    refine r_iload dX11_numbers_99 rfl ?_
    refine r_iconst dX11_numbers_101 ⟨by decide, by decide⟩ ?_
    refine r_iload_n dX11_numbers_102 rfl ?_
    obtain ⟨h, k⟩ := k
    refine r_isub dX11_numbers_103 h ?_
    obtain ⟨⟨h0, h1⟩, k⟩ := k
    refine r_iast dX11_numbers_104 ha h0 h1 ?_
    obtain ⟨h, k⟩ := k
    refine r_iinc dX11_numbers_105 rfl (by decide) rfl rfl h ?_
    obtain ⟨h, k⟩ := k
    refine r_iinc dX11_numbers_108 rfl (by decide) rfl rfl h ?_
    refine r_goto (tgt := 30) dX11_numbers_111 rfl ?_
    refine r_loc [0, 1, 2, 3, 4] rfl ?_
    exact k
  · have k := k.2 h
    refine r_aload_n dX11_numbers_69 rfl ?_
    refine r_iload dX11_numbers_70 rfl ?_
    refine r_aload_n dX11_numbers_72 rfl ?_
    refine r_iload dX11_numbers_73 rfl ?_
    obtain ⟨⟨h0, h1⟩, k⟩ := k
    refine r_iald dX11_numbers_75 (Or.inl ha) h0 h1 ?_
    refine r_iload dX11_numbers_76 rfl ?_
    refine r_icmp_ne (tgt := 87) dX11_numbers_78 rfl (fun h => ?_) (fun h => ?_)
    · have k := k.1 h
      refine r_aload_n dX11_numbers_87 rfl ?_
      refine r_iload dX11_numbers_88 rfl ?_
      obtain ⟨⟨h0, h1⟩, k⟩ := k
      refine r_iald dX11_numbers_90 (Or.inl ha) h0 h1 ?_
      obtain ⟨⟨h0, h1⟩, k⟩ := k
      refine r_iast dX11_numbers_91 ha h0 h1 ?_
      obtain ⟨h, k⟩ := k
      refine r_iinc dX11_numbers_92 rfl (by decide) rfl rfl h ?_
      refine r_goto (tgt := 63) dX11_numbers_95 rfl ?_
      exact k
    · have k := k.2 h
      refine r_iconst dX11_numbers_81 ⟨by decide, by decide⟩ ?_
      refine r_iload_n dX11_numbers_82 rfl ?_
      obtain ⟨h, k⟩ := k
      refine r_isub dX11_numbers_83 h ?_
      refine r_goto (tgt := 91) dX11_numbers_84 rfl ?_
      obtain ⟨⟨h0, h1⟩, k⟩ := k
      refine r_iast dX11_numbers_91 ha h0 h1 ?_
      obtain ⟨h, k⟩ := k
      refine r_iinc dX11_numbers_92 rfl (by decide) rfl rfl h ?_
      refine r_goto (tgt := 63) dX11_numbers_95 rfl ?_
      exact k
theorem t_X11_numbers_117 {a na : Nat} {v1 v2 v4 : Int} {S : ShT} {σ : StT} {Q : Int → StT → Prop} (hS : SHP S) (ha : S.2.1 a = (1, na)) (k : (v1 ≤ v4 → Q v2 σ) ∧ (¬ (v1 ≤ v4) → (0 ≤ v4 ∧ v4 < (na : Int)) ∧ inR ((-1) - (σ a v4.toNat)) ∧ (0 ≤ v4 ∧ v4 < (na : Int)) ∧ inR (v4 + 1) ∧ AWs mX11_numbers 117 [(0, vR a), (1, vI v1), (2, vI v2), (4, vI (v4 + 1))] [] S (up2 σ a v4.toNat ((-1) - (σ a v4.toNat))) Q)) : AWs mX11_numbers 117 [(0, vR a), (1, vI v1), (2, vI v2), (4, vI v4)] [] S σ Q := by
  refine r_iload dX11_numbers_117 rfl ?_
  refine r_iload_n dX11_numbers_119 rfl ?_
  refine r_icmp_ge (tgt := 139) dX11_numbers_120 rfl (fun h => ?_) (fun h => ?_)
  · have k := k.1 h
    refine r_iload_n dX11_numbers_139 rfl ?_
    exact s_iret dX11_numbers_140 rfl k
  · have k := k.2 h
    refine r_aload_n dX11_numbers_123 rfl ?_
    refine r_iload dX11_numbers_124 rfl ?_
    refine r_iconst dX11_numbers_126 ⟨by decide, by decide⟩ ?_
    refine r_aload_n dX11_numbers_127 rfl ?_
    refine r_iload dX11_numbers_128 rfl ?_
    obtain ⟨⟨h0, h1⟩, k⟩ := k
    refine r_iald dX11_numbers_130 (Or.inl ha) h0 h1 ?_
    obtain ⟨h, k⟩ := k
    refine r_isub dX11_numbers_131 h ?_
    obtain ⟨⟨h0, h1⟩, k⟩ := k
    refine r_iast dX11_numbers_132 ha h0 h1 ?_
    obtain ⟨h, k⟩ := k
    refine r_iinc dX11_numbers_133 rfl (by decide) rfl rfl h ?_
    refine r_goto (tgt := 117) dX11_numbers_136 rfl ?_
    exact k
theorem e_X11_laysMeetings {S : ShT} {σ : StT} {Q : Int → StT → Prop} (hS : SHP S) (k : inR (2 * (σ 127 2)) ∧ ∀ x8 : Int, x8 = 2 * (σ 127 2) → AWs mX11_laysMeetings 11 [(0, vR 125), (1, vI x8), (2, vI 0)] [] S σ Q) : WPs mX11_laysMeetings [vR 125] S σ Q := by
  refine s_entry (by decide) (Nat.le_of_ble_eq_true rfl) rfl rfl ?_
  refine r_iconst dX11_laysMeetings_0 ⟨by decide, by decide⟩ ?_
  refine r_aload_n dX11_laysMeetings_1 rfl ?_
  refine r_getRv dX11_laysMeetings_2 fl_X11_17 rfl (k_125 hS) (f_125_6 hS) (by decide) ?_
  refine r_iconst dX11_laysMeetings_5 ⟨by decide, by decide⟩ ?_
  refine r_iald dX11_laysMeetings_6 (Or.inl (k_127 hS)) (by decide) (by decide) ?_
  obtain ⟨h, k⟩ := k
  refine r_imul dX11_laysMeetings_7 h ?_
  refine r_gen (fun x8 hx8 => ?_)
  have k := k x8 hx8
  refine r_istore_n dX11_laysMeetings_8 (by decide) rfl rfl ?_
  refine r_iconst dX11_laysMeetings_9 ⟨by decide, by decide⟩ ?_
  refine r_istore_n dX11_laysMeetings_10 (by decide) rfl rfl ?_
  exact k
theorem t_X11_laysMeetings_11 {v1 v2 : Int} {S : ShT} {σ : StT} {Q : Int → StT → Prop} (hS : SHP S) (k : (v1 ≤ v2 → AWs mX11_laysMeetings 31 [(0, vR 125), (1, vI v1), (2, vI 1)] [] S σ Q) ∧ (¬ (v1 ≤ v2) → (0 ≤ v2 ∧ v2 < 48) ∧ inR (v2 + 1) ∧ AWs mX11_laysMeetings 11 [(0, vR 125), (1, vI v1), (2, vI (v2 + 1))] [] S (up2 σ 131 v2.toNat v2) Q)) : AWs mX11_laysMeetings 11 [(0, vR 125), (1, vI v1), (2, vI v2)] [] S σ Q := by
  refine r_iload_n dX11_laysMeetings_11 rfl ?_
  refine r_iload_n dX11_laysMeetings_12 rfl ?_
  refine r_icmp_ge (tgt := 29) dX11_laysMeetings_13 rfl (fun h => ?_) (fun h => ?_)
  · have k := k.1 h
    refine r_iconst dX11_laysMeetings_29 ⟨by decide, by decide⟩ ?_
    refine r_istore_n dX11_laysMeetings_30 (by decide) rfl rfl ?_
    exact k
  · have k := k.2 h
    refine r_aload_n dX11_laysMeetings_16 rfl ?_
    refine r_getRv dX11_laysMeetings_17 fl_X11_29 rfl (k_125 hS) (f_125_22 hS) (by decide) ?_
    refine r_iload_n dX11_laysMeetings_20 rfl ?_
    refine r_iload_n dX11_laysMeetings_21 rfl ?_
    obtain ⟨⟨h0, h1⟩, k⟩ := k
    refine r_iast dX11_laysMeetings_22 (k_131 hS) h0 h1 ?_
    obtain ⟨h, k⟩ := k
    refine r_iinc dX11_laysMeetings_23 rfl (by decide) rfl rfl h ?_
    refine r_goto (tgt := 11) dX11_laysMeetings_26 rfl ?_
    exact k
theorem t_X11_laysMeetings_31 {v1 v2 : Int} {S : ShT} {σ : StT} {Q : Int → StT → Prop} (hS : SHP S) (k : (v2 = 0 → WPs mX11_numbers [vR 131, vI v1] S σ (fun r121 s121 => AWs mX11_laysMeetings 129 [(0, vR 125), (1, vI v1), (3, vI 0)] [] S (up2 s121 125 26 r121) Q)) ∧ (¬ (v2 = 0) → AWs mX11_laysMeetings 39 [(0, vR 125), (1, vI v1), (2, vI 0), (3, vI 0)] [] S σ Q)) : AWs mX11_laysMeetings 31 [(0, vR 125), (1, vI v1), (2, vI v2)] [] S σ Q := by
  refine r_iload_n dX11_laysMeetings_31 rfl ?_
  refine r_if_eq (tgt := 115) dX11_laysMeetings_32 rfl (fun h => ?_) (fun h => ?_)
  · have k := k.1 h
    refine r_aload_n dX11_laysMeetings_115 rfl ?_
    refine r_aload_n dX11_laysMeetings_116 rfl ?_
    refine r_getRv dX11_laysMeetings_117 fl_X11_29 rfl (k_125 hS) (f_125_22 hS) (by decide) ?_
    refine r_iload_n dX11_laysMeetings_120 rfl ?_
    refine s_callS (z := mX11_numbers) [vR 131, vI v1] dX11_laysMeetings_121 ms_X11_numbers lk_X11_245 rfl (by decide) (Nat.le_of_ble_eq_true rfl) (WPs.mono k (fun r121 s121 k => ?_))
    refine r_putIv dX11_laysMeetings_124 fl_X11_249 (fun _ h => by cases h; rfl) (Or.inl rfl) (k_125 hS) ?_
    refine r_iconst dX11_laysMeetings_127 ⟨by decide, by decide⟩ ?_
    refine r_istore_n dX11_laysMeetings_128 (by decide) rfl rfl ?_
    refine r_loc [0, 1, 3] rfl ?_
    exact k
  · have k := k.2 h
    refine r_iconst dX11_laysMeetings_35 ⟨by decide, by decide⟩ ?_
    refine r_istore_n dX11_laysMeetings_36 (by decide) rfl rfl ?_
    refine r_iconst dX11_laysMeetings_37 ⟨by decide, by decide⟩ ?_
    refine r_istore_n dX11_laysMeetings_38 (by decide) rfl rfl ?_
    exact k
theorem t_X11_laysMeetings_39 {v1 v2 v3 : Int} {S : ShT} {σ : StT} {Q : Int → StT → Prop} (hS : SHP S) (k : (v1 ≤ v3 → AWs mX11_laysMeetings 31 [(0, vR 125), (1, vI v1), (2, vI v2)] [] S σ Q) ∧ (¬ (v1 ≤ v3) → AWs mX11_laysMeetings 47 [(0, vR 125), (1, vI v1), (2, vI v2), (3, vI v3), (4, vI 0)] [] S σ Q)) : AWs mX11_laysMeetings 39 [(0, vR 125), (1, vI v1), (2, vI v2), (3, vI v3)] [] S σ Q := by
  refine r_iload_n dX11_laysMeetings_39 rfl ?_
  refine r_iload_n dX11_laysMeetings_40 rfl ?_
  refine r_icmp_ge (tgt := 112) dX11_laysMeetings_41 rfl (fun h => ?_) (fun h => ?_)
  · have k := k.1 h
    refine r_goto (tgt := 31) dX11_laysMeetings_112 rfl ?_
    refine r_loc [0, 1, 2] rfl ?_
    exact k
  · have k := k.2 h
    refine r_iconst dX11_laysMeetings_44 ⟨by decide, by decide⟩ ?_
    refine r_istore dX11_laysMeetings_45 (by decide) rfl rfl ?_
    exact k
theorem t_X11_laysMeetings_47 {v1 v2 v3 v4 : Int} {S : ShT} {σ : StT} {Q : Int → StT → Prop} (hS : SHP S) (k : (v1 ≤ v4 → inR (v3 + 1) ∧ AWs mX11_laysMeetings 39 [(0, vR 125), (1, vI v1), (2, vI v2), (3, vI (v3 + 1))] [] S σ Q) ∧ (¬ (v1 ≤ v4) → WPs mX11_apart [vR 125, vI v3, vI v4] S σ (fun r57 s57 => (s57 127 1 < r57 → inR (v4 + 1) ∧ AWs mX11_laysMeetings 47 [(0, vR 125), (1, vI v1), (2, vI v2), (3, vI v3), (4, vI (v4 + 1))] [] S s57 Q) ∧ (¬ (s57 127 1 < r57) → (0 ≤ v4 ∧ v4 < 48) ∧ ((0 ≤ v3 ∧ v3 < 48) ∧ ((s57 131 v3.toNat ≤ s57 131 v4.toNat → inR (v4 + 1) ∧ AWs mX11_laysMeetings 47 [(0, vR 125), (1, vI v1), (2, vI v2), (3, vI v3), (4, vI (v4 + 1))] [] S s57 Q) ∧ (¬ (s57 131 v3.toNat ≤ s57 131 v4.toNat) → (0 ≤ v4 ∧ v4 < 48) ∧ (0 ≤ v3 ∧ v3 < 48) ∧ inR (v4 + 1) ∧ AWs mX11_laysMeetings 47 [(0, vR 125), (1, vI v1), (2, vI 1), (3, vI v3), (4, vI (v4 + 1))] [] S (up2 s57 131 v3.toNat (s57 131 v4.toNat)) Q))))))) : AWs mX11_laysMeetings 47 [(0, vR 125), (1, vI v1), (2, vI v2), (3, vI v3), (4, vI v4)] [] S σ Q := by
  refine r_iload dX11_laysMeetings_47 rfl ?_
  refine r_iload_n dX11_laysMeetings_49 rfl ?_
  refine r_icmp_ge (tgt := 106) dX11_laysMeetings_50 rfl (fun h => ?_) (fun h => ?_)
  · have k := k.1 h
    obtain ⟨h, k⟩ := k
    refine r_iinc dX11_laysMeetings_106 rfl (by decide) rfl rfl h ?_
    refine r_goto (tgt := 39) dX11_laysMeetings_109 rfl ?_
    refine r_loc [0, 1, 2, 3] rfl ?_
    exact k
  · have k := k.2 h
    refine r_aload_n dX11_laysMeetings_53 rfl ?_
    refine r_iload_n dX11_laysMeetings_54 rfl ?_
    refine r_iload dX11_laysMeetings_55 rfl ?_
    refine s_callVv (z := mX11_apart) [vI v3, vI v4] dX11_laysMeetings_57 mv_X11_apart lk_X11_241 rfl (by decide) (k_125 hS) (Nat.le_of_ble_eq_true rfl) (WPs.mono k (fun r57 s57 k => ?_))
    refine r_aload_n dX11_laysMeetings_60 rfl ?_
    refine r_getRv dX11_laysMeetings_61 fl_X11_17 rfl (k_125 hS) (f_125_6 hS) (by decide) ?_
    refine r_iconst dX11_laysMeetings_64 ⟨by decide, by decide⟩ ?_
    refine r_iald dX11_laysMeetings_65 (Or.inl (k_127 hS)) (by decide) (by decide) ?_
    refine r_icmp_gt (tgt := 100) dX11_laysMeetings_66 rfl (fun h => ?_) (fun h => ?_)
    · have k := k.1 h
      obtain ⟨h, k⟩ := k
      refine r_iinc dX11_laysMeetings_100 rfl (by decide) rfl rfl h ?_
      refine r_goto (tgt := 47) dX11_laysMeetings_103 rfl ?_
      exact k
    · have k := k.2 h
      refine r_aload_n dX11_laysMeetings_69 rfl ?_
      refine r_getRv dX11_laysMeetings_70 fl_X11_29 rfl (k_125 hS) (f_125_22 hS) (by decide) ?_
      refine r_iload dX11_laysMeetings_73 rfl ?_
      obtain ⟨⟨h0, h1⟩, k⟩ := k
      refine r_iald dX11_laysMeetings_75 (Or.inl (k_131 hS)) h0 h1 ?_
      refine r_aload_n dX11_laysMeetings_76 rfl ?_
      refine r_getRv dX11_laysMeetings_77 fl_X11_29 rfl (k_125 hS) (f_125_22 hS) (by decide) ?_
      refine r_iload_n dX11_laysMeetings_80 rfl ?_
      obtain ⟨⟨h0, h1⟩, k⟩ := k
      refine r_iald dX11_laysMeetings_81 (Or.inl (k_131 hS)) h0 h1 ?_
      refine r_icmp_ge (tgt := 100) dX11_laysMeetings_82 rfl (fun h => ?_) (fun h => ?_)
      · have k := k.1 h
        obtain ⟨h, k⟩ := k
        refine r_iinc dX11_laysMeetings_100 rfl (by decide) rfl rfl h ?_
        refine r_goto (tgt := 47) dX11_laysMeetings_103 rfl ?_
        exact k
      · have k := k.2 h
        refine r_aload_n dX11_laysMeetings_85 rfl ?_
        refine r_getRv dX11_laysMeetings_86 fl_X11_29 rfl (k_125 hS) (f_125_22 hS) (by decide) ?_
        refine r_iload_n dX11_laysMeetings_89 rfl ?_
        refine r_aload_n dX11_laysMeetings_90 rfl ?_
        refine r_getRv dX11_laysMeetings_91 fl_X11_29 rfl (k_125 hS) (f_125_22 hS) (by decide) ?_
        refine r_iload dX11_laysMeetings_94 rfl ?_
        obtain ⟨⟨h0, h1⟩, k⟩ := k
        refine r_iald dX11_laysMeetings_96 (Or.inl (k_131 hS)) h0 h1 ?_
        obtain ⟨⟨h0, h1⟩, k⟩ := k
        refine r_iast dX11_laysMeetings_97 (k_131 hS) h0 h1 ?_
        refine r_iconst dX11_laysMeetings_98 ⟨by decide, by decide⟩ ?_
        refine r_istore_n dX11_laysMeetings_99 (by decide) rfl rfl ?_
        obtain ⟨h, k⟩ := k
        refine r_iinc dX11_laysMeetings_100 rfl (by decide) rfl rfl h ?_
        refine r_goto (tgt := 47) dX11_laysMeetings_103 rfl ?_
        exact k
theorem t_X11_laysMeetings_129 {v1 v3 : Int} {S : ShT} {σ : StT} {Q : Int → StT → Prop} (hS : SHP S) (k : (σ 125 26 ≤ v3 → inR (v1 - 1) ∧ AWs mX11_laysMeetings 154 [(0, vR 125), (3, vI (v1 - 1))] [] S σ Q) ∧ (¬ (σ 125 26 ≤ v3) → (0 ≤ v3 ∧ v3 < 48) ∧ inR (v3 + 1) ∧ AWs mX11_laysMeetings 129 [(0, vR 125), (1, vI v1), (3, vI (v3 + 1))] [] S (up2 σ 133 v3.toNat 0) Q)) : AWs mX11_laysMeetings 129 [(0, vR 125), (1, vI v1), (3, vI v3)] [] S σ Q := by
  refine r_iload_n dX11_laysMeetings_129 rfl ?_
  refine r_aload_n dX11_laysMeetings_130 rfl ?_
  refine r_getIv dX11_laysMeetings_131 fl_X11_249 rfl (k_125 hS) ?_
  refine r_icmp_ge (tgt := 150) dX11_laysMeetings_134 rfl (fun h => ?_) (fun h => ?_)
  · have k := k.1 h
    refine r_iload_n dX11_laysMeetings_150 rfl ?_
    refine r_iconst dX11_laysMeetings_151 ⟨by decide, by decide⟩ ?_
    obtain ⟨h, k⟩ := k
    refine r_isub dX11_laysMeetings_152 h ?_
    refine r_istore_n dX11_laysMeetings_153 (by decide) rfl rfl ?_
    refine r_loc [0, 2] rfl ?_
    exact k
  · have k := k.2 h
    refine r_aload_n dX11_laysMeetings_137 rfl ?_
    refine r_getRv dX11_laysMeetings_138 fl_X11_35 rfl (k_125 hS) (f_125_24 hS) (by decide) ?_
    refine r_iload_n dX11_laysMeetings_141 rfl ?_
    refine r_iconst dX11_laysMeetings_142 ⟨by decide, by decide⟩ ?_
    obtain ⟨⟨h0, h1⟩, k⟩ := k
    refine r_iast dX11_laysMeetings_143 (k_133 hS) h0 h1 ?_
    obtain ⟨h, k⟩ := k
    refine r_iinc dX11_laysMeetings_144 rfl (by decide) rfl rfl h ?_
    refine r_goto (tgt := 129) dX11_laysMeetings_147 rfl ?_
    exact k
theorem t_X11_laysMeetings_154 {v3 : Int} {S : ShT} {σ : StT} {Q : Int → StT → Prop} (hS : SHP S) (k : (v3 < 0 → WPs mX11_laysParts [vR 125] S σ (fun r192 s192 => Q 0 s192)) ∧ (¬ (v3 < 0) → (0 ≤ v3 ∧ v3 < 48) ∧ (0 ≤ σ 131 v3.toNat ∧ σ 131 v3.toNat < 48) ∧ (0 ≤ v3 ∧ v3 < 48) ∧ (0 ≤ σ 131 v3.toNat ∧ σ 131 v3.toNat < 48) ∧ inR ((σ 133 (σ 131 v3.toNat).toNat) + 1) ∧ (0 ≤ σ 131 v3.toNat ∧ σ 131 v3.toNat < 48) ∧ inR (v3 + -1) ∧ AWs mX11_laysMeetings 154 [(0, vR 125), (3, vI (v3 + -1))] [] S (up2 (up2 σ 132 (σ 131 v3.toNat).toNat v3) 133 (σ 131 v3.toNat).toNat ((σ 133 (σ 131 v3.toNat).toNat) + 1)) Q)) : AWs mX11_laysMeetings 154 [(0, vR 125), (3, vI v3)] [] S σ Q := by
  refine r_iload_n dX11_laysMeetings_154 rfl ?_
  refine r_if_lt (tgt := 191) dX11_laysMeetings_155 rfl (fun h => ?_) (fun h => ?_)
  · have k := k.1 h
    refine r_aload_n dX11_laysMeetings_191 rfl ?_
    refine s_callVv (z := mX11_laysParts) [] dX11_laysMeetings_192 mv_X11_laysParts lk_X11_252 rfl (by decide) (k_125 hS) (Nat.le_of_ble_eq_true rfl) (WPs.mono k (fun r192 s192 k => ?_))
    exact s_vret dX11_laysMeetings_195 rfl k
  · have k := k.2 h
    refine r_aload_n dX11_laysMeetings_158 rfl ?_
    refine r_getRv dX11_laysMeetings_159 fl_X11_32 rfl (k_125 hS) (f_125_23 hS) (by decide) ?_
    refine r_aload_n dX11_laysMeetings_162 rfl ?_
    refine r_getRv dX11_laysMeetings_163 fl_X11_29 rfl (k_125 hS) (f_125_22 hS) (by decide) ?_
    refine r_iload_n dX11_laysMeetings_166 rfl ?_
    obtain ⟨⟨h0, h1⟩, k⟩ := k
    refine r_iald dX11_laysMeetings_167 (Or.inl (k_131 hS)) h0 h1 ?_
    refine r_iload_n dX11_laysMeetings_168 rfl ?_
    obtain ⟨⟨h0, h1⟩, k⟩ := k
    refine r_iast dX11_laysMeetings_169 (k_132 hS) h0 h1 ?_
    refine r_aload_n dX11_laysMeetings_170 rfl ?_
    refine r_getRv dX11_laysMeetings_171 fl_X11_35 rfl (k_125 hS) (f_125_24 hS) (by decide) ?_
    refine r_aload_n dX11_laysMeetings_174 rfl ?_
    refine r_getRv dX11_laysMeetings_175 fl_X11_29 rfl (k_125 hS) (f_125_22 hS) (by decide) ?_
    refine r_iload_n dX11_laysMeetings_178 rfl ?_
    obtain ⟨⟨h0, h1⟩, k⟩ := k
    refine r_iald dX11_laysMeetings_179 (Or.inl (k_131 hS)) h0 h1 ?_
    refine r_top (up2_a (by decide)) ?_
    refine r_dup2 dX11_laysMeetings_180 rfl rfl ?_
    obtain ⟨⟨h0, h1⟩, k⟩ := k
    refine r_iald dX11_laysMeetings_181 (Or.inl (k_133 hS)) h0 h1 ?_
    refine r_top (up2_a (by decide)) ?_
    refine r_iconst dX11_laysMeetings_182 ⟨by decide, by decide⟩ ?_
    obtain ⟨h, k⟩ := k
    refine r_iadd dX11_laysMeetings_183 h ?_
    obtain ⟨⟨h0, h1⟩, k⟩ := k
    refine r_iast dX11_laysMeetings_184 (k_133 hS) h0 h1 ?_
    obtain ⟨h, k⟩ := k
    refine r_iinc dX11_laysMeetings_185 rfl (by decide) rfl rfl h ?_
    refine r_goto (tgt := 154) dX11_laysMeetings_188 rfl ?_
    exact k
theorem e_X11_laysParts {S : ShT} {σ : StT} {Q : Int → StT → Prop} (hS : SHP S) (k : AWs mX11_laysParts 2 [(0, vR 125), (1, vI 0)] [] S σ Q) : WPs mX11_laysParts [vR 125] S σ Q := by
  refine s_entry (by decide) (Nat.le_of_ble_eq_true rfl) rfl rfl ?_
  refine r_iconst dX11_laysParts_0 ⟨by decide, by decide⟩ ?_
  refine r_istore_n dX11_laysParts_1 (by decide) rfl rfl ?_
  exact k
theorem t_X11_laysParts_2 {v1 : Int} {S : ShT} {σ : StT} {Q : Int → StT → Prop} (hS : SHP S) (k : (σ 125 26 ≤ v1 → AWs mX11_laysParts 25 [(0, vR 125), (1, vI 1)] [] S σ Q) ∧ (¬ (σ 125 26 ≤ v1) → (0 ≤ v1 ∧ v1 < 48) ∧ inR (v1 + 1) ∧ AWs mX11_laysParts 2 [(0, vR 125), (1, vI (v1 + 1))] [] S (up2 σ 134 v1.toNat v1) Q)) : AWs mX11_laysParts 2 [(0, vR 125), (1, vI v1)] [] S σ Q := by
  refine r_iload_n dX11_laysParts_2 rfl ?_
  refine r_aload_n dX11_laysParts_3 rfl ?_
  refine r_getIv dX11_laysParts_4 fl_X11_249 rfl (k_125 hS) ?_
  refine r_icmp_ge (tgt := 23) dX11_laysParts_7 rfl (fun h => ?_) (fun h => ?_)
  · have k := k.1 h
    refine r_iconst dX11_laysParts_23 ⟨by decide, by decide⟩ ?_
    refine r_istore_n dX11_laysParts_24 (by decide) rfl rfl ?_
    exact k
  · have k := k.2 h
    refine r_aload_n dX11_laysParts_10 rfl ?_
    refine r_getRv dX11_laysParts_11 fl_X11_38 rfl (k_125 hS) (f_125_25 hS) (by decide) ?_
    refine r_iload_n dX11_laysParts_14 rfl ?_
    refine r_iload_n dX11_laysParts_15 rfl ?_
    obtain ⟨⟨h0, h1⟩, k⟩ := k
    refine r_iast dX11_laysParts_16 (k_134 hS) h0 h1 ?_
    obtain ⟨h, k⟩ := k
    refine r_iinc dX11_laysParts_17 rfl (by decide) rfl rfl h ?_
    refine r_goto (tgt := 2) dX11_laysParts_20 rfl ?_
    exact k
theorem t_X11_laysParts_25 {v1 : Int} {S : ShT} {σ : StT} {Q : Int → StT → Prop} (hS : SHP S) (k : (v1 = 0 → WPs mX11_numbers [vR 134, vI (σ 125 26)] S σ (fun r151 s151 => Q 0 (up2 s151 125 27 r151))) ∧ (¬ (v1 = 0) → AWs mX11_laysParts 33 [(0, vR 125), (1, vI 0), (2, vI 0)] [] S σ Q)) : AWs mX11_laysParts 25 [(0, vR 125), (1, vI v1)] [] S σ Q := by
  refine r_iload_n dX11_laysParts_25 rfl ?_
  refine r_if_eq (tgt := 142) dX11_laysParts_26 rfl (fun h => ?_) (fun h => ?_)
  · have k := k.1 h
    refine r_aload_n dX11_laysParts_142 rfl ?_
    refine r_aload_n dX11_laysParts_143 rfl ?_
    refine r_getRv dX11_laysParts_144 fl_X11_38 rfl (k_125 hS) (f_125_25 hS) (by decide) ?_
    refine r_aload_n dX11_laysParts_147 rfl ?_
    refine r_getIv dX11_laysParts_148 fl_X11_249 rfl (k_125 hS) ?_
    refine s_callS (z := mX11_numbers) [vR 134, vI (σ 125 26)] dX11_laysParts_151 ms_X11_numbers lk_X11_245 rfl (by decide) (Nat.le_of_ble_eq_true rfl) (WPs.mono k (fun r151 s151 k => ?_))
    refine r_putIv dX11_laysParts_154 fl_X11_255 (fun _ h => by cases h; rfl) (Or.inl rfl) (k_125 hS) ?_
    exact s_vret dX11_laysParts_157 rfl k
  · have k := k.2 h
    refine r_iconst dX11_laysParts_29 ⟨by decide, by decide⟩ ?_
    refine r_istore_n dX11_laysParts_30 (by decide) rfl rfl ?_
    refine r_iconst dX11_laysParts_31 ⟨by decide, by decide⟩ ?_
    refine r_istore_n dX11_laysParts_32 (by decide) rfl rfl ?_
    exact k
theorem t_X11_laysParts_33 {v1 v2 : Int} {S : ShT} {σ : StT} {Q : Int → StT → Prop} (hS : SHP S) (k : (σ 127 2 ≤ v2 → AWs mX11_laysParts 25 [(0, vR 125), (1, vI v1)] [] S σ Q) ∧ (¬ (σ 127 2 ≤ v2) → inR (2 * v2) ∧ ((0 ≤ 2 * v2 ∧ 2 * v2 < 48) ∧ ∀ x51 : Int, x51 = σ 131 (2 * v2).toNat → inR (2 * v2) ∧ inR ((2 * v2) + 1) ∧ ((0 ≤ (2 * v2) + 1 ∧ (2 * v2) + 1 < 48) ∧ ∀ x62 : Int, x62 = σ 131 ((2 * v2) + 1).toNat → (0 ≤ x51 ∧ x51 < 48) ∧ ((0 ≤ x62 ∧ x62 < 48) ∧ ((σ 134 x51.toNat = σ 134 x62.toNat → inR (v2 + 1) ∧ AWs mX11_laysParts 33 [(0, vR 125), (1, vI v1), (2, vI (v2 + 1))] [] S σ Q) ∧ (¬ (σ 134 x51.toNat = σ 134 x62.toNat) → (0 ≤ x51 ∧ x51 < 48) ∧ ((0 ≤ x62 ∧ x62 < 48) ∧ ((σ 134 x62.toNat ≤ σ 134 x51.toNat → (0 ≤ x62 ∧ x62 < 48) ∧ ∀ x112 : Int, x112 = σ 134 x62.toNat → (0 ≤ x51 ∧ x51 < 48) ∧ (0 ≤ x62 ∧ x62 < 48) ∧ inR (v2 + 1) ∧ AWs mX11_laysParts 33 [(0, vR 125), (1, vI 1), (2, vI (v2 + 1))] [] S (up2 (up2 σ 134 x51.toNat x112) 134 x62.toNat x112) Q) ∧ (¬ (σ 134 x62.toNat ≤ σ 134 x51.toNat) → (0 ≤ x51 ∧ x51 < 48) ∧ ∀ x112 : Int, x112 = σ 134 x51.toNat → (0 ≤ x51 ∧ x51 < 48) ∧ (0 ≤ x62 ∧ x62 < 48) ∧ inR (v2 + 1) ∧ AWs mX11_laysParts 33 [(0, vR 125), (1, vI 1), (2, vI (v2 + 1))] [] S (up2 (up2 σ 134 x51.toNat x112) 134 x62.toNat x112) Q)))))))))) : AWs mX11_laysParts 33 [(0, vR 125), (1, vI v1), (2, vI v2)] [] S σ Q := by
  refine r_iload_n dX11_laysParts_33 rfl ?_
  refine r_aload_n dX11_laysParts_34 rfl ?_
  refine r_getRv dX11_laysParts_35 fl_X11_17 rfl (k_125 hS) (f_125_6 hS) (by decide) ?_
  refine r_iconst dX11_laysParts_38 ⟨by decide, by decide⟩ ?_
  refine r_iald dX11_laysParts_39 (Or.inl (k_127 hS)) (by decide) (by decide) ?_
  refine r_icmp_ge (tgt := 139) dX11_laysParts_40 rfl (fun h => ?_) (fun h => ?_)
  · have k := k.1 h
    refine r_goto (tgt := 25) dX11_laysParts_139 rfl ?_
    refine r_loc [0, 1] rfl ?_
    exact k
  · have k := k.2 h
    refine r_aload_n dX11_laysParts_43 rfl ?_
    refine r_getRv dX11_laysParts_44 fl_X11_29 rfl (k_125 hS) (f_125_22 hS) (by decide) ?_
    refine r_iconst dX11_laysParts_47 ⟨by decide, by decide⟩ ?_
    refine r_iload_n dX11_laysParts_48 rfl ?_
    obtain ⟨h, k⟩ := k
    refine r_imul dX11_laysParts_49 h ?_
    obtain ⟨⟨h0, h1⟩, k⟩ := k
    refine r_iald dX11_laysParts_50 (Or.inl (k_131 hS)) h0 h1 ?_
    refine r_gen (fun x51 hx51 => ?_)
    have k := k x51 hx51
    refine r_istore_n dX11_laysParts_51 (by decide) rfl rfl ?_
    refine r_aload_n dX11_laysParts_52 rfl ?_
    refine r_getRv dX11_laysParts_53 fl_X11_29 rfl (k_125 hS) (f_125_22 hS) (by decide) ?_
    refine r_iconst dX11_laysParts_56 ⟨by decide, by decide⟩ ?_
    refine r_iload_n dX11_laysParts_57 rfl ?_
    obtain ⟨h, k⟩ := k
    refine r_imul dX11_laysParts_58 h ?_
    refine r_iconst dX11_laysParts_59 ⟨by decide, by decide⟩ ?_
    obtain ⟨h, k⟩ := k
    refine r_iadd dX11_laysParts_60 h ?_
    obtain ⟨⟨h0, h1⟩, k⟩ := k
    refine r_iald dX11_laysParts_61 (Or.inl (k_131 hS)) h0 h1 ?_
    refine r_gen (fun x62 hx62 => ?_)
    have k := k x62 hx62
    refine r_istore dX11_laysParts_62 (by decide) rfl rfl ?_
    refine r_aload_n dX11_laysParts_64 rfl ?_
    refine r_getRv dX11_laysParts_65 fl_X11_38 rfl (k_125 hS) (f_125_25 hS) (by decide) ?_
    refine r_iload_n dX11_laysParts_68 rfl ?_
    obtain ⟨⟨h0, h1⟩, k⟩ := k
    refine r_iald dX11_laysParts_69 (Or.inl (k_134 hS)) h0 h1 ?_
    refine r_aload_n dX11_laysParts_70 rfl ?_
    refine r_getRv dX11_laysParts_71 fl_X11_38 rfl (k_125 hS) (f_125_25 hS) (by decide) ?_
    refine r_iload dX11_laysParts_74 rfl ?_
    obtain ⟨⟨h0, h1⟩, k⟩ := k
    refine r_iald dX11_laysParts_76 (Or.inl (k_134 hS)) h0 h1 ?_
    refine r_icmp_eq (tgt := 133) dX11_laysParts_77 rfl (fun h => ?_) (fun h => ?_)
    · have k := k.1 h
      obtain ⟨h, k⟩ := k
      refine r_iinc dX11_laysParts_133 rfl (by decide) rfl rfl h ?_
      refine r_goto (tgt := 33) dX11_laysParts_136 rfl ?_
      refine r_loc [0, 1, 2] rfl ?_
      exact k
    · have k := k.2 h
      refine r_aload_n dX11_laysParts_80 rfl ?_
      refine r_getRv dX11_laysParts_81 fl_X11_38 rfl (k_125 hS) (f_125_25 hS) (by decide) ?_
      refine r_iload_n dX11_laysParts_84 rfl ?_
      obtain ⟨⟨h0, h1⟩, k⟩ := k
      refine r_iald dX11_laysParts_85 (Or.inl (k_134 hS)) h0 h1 ?_
      refine r_aload_n dX11_laysParts_86 rfl ?_
      refine r_getRv dX11_laysParts_87 fl_X11_38 rfl (k_125 hS) (f_125_25 hS) (by decide) ?_
      refine r_iload dX11_laysParts_90 rfl ?_
      obtain ⟨⟨h0, h1⟩, k⟩ := k
      refine r_iald dX11_laysParts_92 (Or.inl (k_134 hS)) h0 h1 ?_
      refine r_icmp_ge (tgt := 105) dX11_laysParts_93 rfl (fun h => ?_) (fun h => ?_)
      · have k := k.1 h
        refine r_aload_n dX11_laysParts_105 rfl ?_
        refine r_getRv dX11_laysParts_106 fl_X11_38 rfl (k_125 hS) (f_125_25 hS) (by decide) ?_
        refine r_iload dX11_laysParts_109 rfl ?_
        obtain ⟨⟨h0, h1⟩, k⟩ := k
        refine r_iald dX11_laysParts_111 (Or.inl (k_134 hS)) h0 h1 ?_
        refine r_gen (fun x112 hx112 => ?_)
        have k := k x112 hx112
        refine r_istore dX11_laysParts_112 (by decide) rfl rfl ?_
        refine r_aload_n dX11_laysParts_114 rfl ?_
        refine r_getRv dX11_laysParts_115 fl_X11_38 rfl (k_125 hS) (f_125_25 hS) (by decide) ?_
        refine r_iload_n dX11_laysParts_118 rfl ?_
        refine r_iload dX11_laysParts_119 rfl ?_
        obtain ⟨⟨h0, h1⟩, k⟩ := k
        refine r_iast dX11_laysParts_121 (k_134 hS) h0 h1 ?_
        refine r_aload_n dX11_laysParts_122 rfl ?_
        refine r_getRv dX11_laysParts_123 fl_X11_38 rfl (k_125 hS) (f_125_25 hS) (by decide) ?_
        refine r_iload dX11_laysParts_126 rfl ?_
        refine r_iload dX11_laysParts_128 rfl ?_
        obtain ⟨⟨h0, h1⟩, k⟩ := k
        refine r_iast dX11_laysParts_130 (k_134 hS) h0 h1 ?_
        refine r_iconst dX11_laysParts_131 ⟨by decide, by decide⟩ ?_
        refine r_istore_n dX11_laysParts_132 (by decide) rfl rfl ?_
        obtain ⟨h, k⟩ := k
        refine r_iinc dX11_laysParts_133 rfl (by decide) rfl rfl h ?_
        refine r_goto (tgt := 33) dX11_laysParts_136 rfl ?_
        refine r_loc [0, 1, 2] rfl ?_
        exact k
      · have k := k.2 h
        refine r_aload_n dX11_laysParts_96 rfl ?_
        refine r_getRv dX11_laysParts_97 fl_X11_38 rfl (k_125 hS) (f_125_25 hS) (by decide) ?_
        refine r_iload_n dX11_laysParts_100 rfl ?_
        obtain ⟨⟨h0, h1⟩, k⟩ := k
        refine r_iald dX11_laysParts_101 (Or.inl (k_134 hS)) h0 h1 ?_
        refine r_goto (tgt := 112) dX11_laysParts_102 rfl ?_
        refine r_gen (fun x112 hx112 => ?_)
        have k := k x112 hx112
        refine r_istore dX11_laysParts_112 (by decide) rfl rfl ?_
        refine r_aload_n dX11_laysParts_114 rfl ?_
        refine r_getRv dX11_laysParts_115 fl_X11_38 rfl (k_125 hS) (f_125_25 hS) (by decide) ?_
        refine r_iload_n dX11_laysParts_118 rfl ?_
        refine r_iload dX11_laysParts_119 rfl ?_
        obtain ⟨⟨h0, h1⟩, k⟩ := k
        refine r_iast dX11_laysParts_121 (k_134 hS) h0 h1 ?_
        refine r_aload_n dX11_laysParts_122 rfl ?_
        refine r_getRv dX11_laysParts_123 fl_X11_38 rfl (k_125 hS) (f_125_25 hS) (by decide) ?_
        refine r_iload dX11_laysParts_126 rfl ?_
        refine r_iload dX11_laysParts_128 rfl ?_
        obtain ⟨⟨h0, h1⟩, k⟩ := k
        refine r_iast dX11_laysParts_130 (k_134 hS) h0 h1 ?_
        refine r_iconst dX11_laysParts_131 ⟨by decide, by decide⟩ ?_
        refine r_istore_n dX11_laysParts_132 (by decide) rfl rfl ?_
        obtain ⟨h, k⟩ := k
        refine r_iinc dX11_laysParts_133 rfl (by decide) rfl rfl h ?_
        refine r_goto (tgt := 33) dX11_laysParts_136 rfl ?_
        refine r_loc [0, 1, 2] rfl ?_
        exact k
theorem e_X11_isOdd {v1 : Int} {S : ShT} {σ : StT} {Q : Int → StT → Prop} (hS : SHP S) (k : (0 ≤ v1 ∧ v1 < 48) ∧ 0 ≤ σ 133 v1.toNat ∧ ((¬ (σ 133 v1.toNat) % 2 = 1 → Q 0 σ) ∧ ((σ 133 v1.toNat) % 2 = 1 → Q 1 σ))) : WPs mX11_isOdd [vR 125, vI v1] S σ Q := by
  refine s_entry (by decide) (Nat.le_of_ble_eq_true rfl) rfl rfl ?_
  refine r_aload_n dX11_isOdd_0 rfl ?_
  refine r_getRv dX11_isOdd_1 fl_X11_35 rfl (k_125 hS) (f_125_24 hS) (by decide) ?_
  refine r_iload_n dX11_isOdd_4 rfl ?_
  obtain ⟨⟨h0, h1⟩, k⟩ := k
  refine r_iald dX11_isOdd_5 (Or.inl (k_133 hS)) h0 h1 ?_
  refine r_iconst dX11_isOdd_6 ⟨by decide, by decide⟩ ?_
  obtain ⟨h, k⟩ := k
  refine r_irem dX11_isOdd_7 h (by decide) ?_
  refine r_iconst dX11_isOdd_8 ⟨by decide, by decide⟩ ?_
  refine r_icmp_ne (tgt := 16) dX11_isOdd_9 rfl (fun h => ?_) (fun h => ?_)
  · have k := k.1 h
    refine r_iconst dX11_isOdd_16 ⟨by decide, by decide⟩ ?_
    exact s_zret dX11_isOdd_17 rfl (by decide) k
  · have k := k.2 h
    refine r_iconst dX11_isOdd_12 ⟨by decide, by decide⟩ ?_
    refine r_goto (tgt := 17) dX11_isOdd_13 rfl ?_
    exact s_zret dX11_isOdd_17 rfl (by decide) k
theorem e_X11_far {v1 v2 : Int} {S : ShT} {σ : StT} {Q : Int → StT → Prop} (hS : SHP S) (k : (0 ≤ v1 ∧ v1 < 48) ∧ (0 ≤ v2 ∧ v2 < 48) ∧ WPs mX11_apart [vR 125, vI (σ 132 v1.toNat), vI (σ 132 v2.toNat)] S σ (fun r13 s13 => Q r13 s13)) : WPs mX11_far [vR 125, vI v1, vI v2] S σ Q := by
  refine s_entry (by decide) (Nat.le_of_ble_eq_true rfl) rfl rfl ?_
  refine r_aload_n dX11_far_0 rfl ?_
  refine r_aload_n dX11_far_1 rfl ?_
  refine r_getRv dX11_far_2 fl_X11_32 rfl (k_125 hS) (f_125_23 hS) (by decide) ?_
  refine r_iload_n dX11_far_5 rfl ?_
  obtain ⟨⟨h0, h1⟩, k⟩ := k
  refine r_iald dX11_far_6 (Or.inl (k_132 hS)) h0 h1 ?_
  refine r_aload_n dX11_far_7 rfl ?_
  refine r_getRv dX11_far_8 fl_X11_32 rfl (k_125 hS) (f_125_23 hS) (by decide) ?_
  refine r_iload_n dX11_far_11 rfl ?_
  obtain ⟨⟨h0, h1⟩, k⟩ := k
  refine r_iald dX11_far_12 (Or.inl (k_132 hS)) h0 h1 ?_
  refine s_callVv (z := mX11_apart) [vI (σ 132 v1.toNat), vI (σ 132 v2.toNat)] dX11_far_13 mv_X11_apart lk_X11_241 rfl (by decide) (k_125 hS) (Nat.le_of_ble_eq_true rfl) (WPs.mono k (fun r13 s13 k => ?_))
  exact s_iret dX11_far_16 rfl k
theorem e_X11_laysPairs {S : ShT} {σ : StT} {Q : Int → StT → Prop} (hS : SHP S) (k : AWs mX11_laysPairs 7 [(0, vR 125), (1, vI 0)] [] S (up2 σ 125 31 0) Q) : WPs mX11_laysPairs [vR 125] S σ Q := by
  refine s_entry (by decide) (Nat.le_of_ble_eq_true rfl) rfl rfl ?_
  refine r_aload_n dX11_laysPairs_0 rfl ?_
  refine r_iconst dX11_laysPairs_1 ⟨by decide, by decide⟩ ?_
  refine r_putIv dX11_laysPairs_2 fl_X11_258 (fun _ h => by cases h; rfl) (Or.inl rfl) (k_125 hS) ?_
  refine r_iconst dX11_laysPairs_5 ⟨by decide, by decide⟩ ?_
  refine r_istore_n dX11_laysPairs_6 (by decide) rfl rfl ?_
  exact k
theorem t_X11_laysPairs_7 {v1 : Int} {S : ShT} {σ : StT} {Q : Int → StT → Prop} (hS : SHP S) (k : (σ 125 27 ≤ v1 → Q 0 σ) ∧ (¬ (σ 125 27 ≤ v1) → AWs mX11_laysPairs 22 [(0, vR 125), (1, vI v1), (2, vI 0)] [] S (up2 σ 125 34 0) Q)) : AWs mX11_laysPairs 7 [(0, vR 125), (1, vI v1)] [] S σ Q := by
  refine r_iload_n dX11_laysPairs_7 rfl ?_
  refine r_aload_n dX11_laysPairs_8 rfl ?_
  refine r_getIv dX11_laysPairs_9 fl_X11_255 rfl (k_125 hS) ?_
  refine r_icmp_ge (tgt := 204) dX11_laysPairs_12 rfl (fun h => ?_) (fun h => ?_)
  · have k := k.1 h
    exact s_vret dX11_laysPairs_204 rfl k
  · have k := k.2 h
    refine r_aload_n dX11_laysPairs_15 rfl ?_
    refine r_iconst dX11_laysPairs_16 ⟨by decide, by decide⟩ ?_
    refine r_putIv dX11_laysPairs_17 fl_X11_261 (fun _ h => by cases h; rfl) (Or.inl rfl) (k_125 hS) ?_
    refine r_iconst dX11_laysPairs_20 ⟨by decide, by decide⟩ ?_
    refine r_istore_n dX11_laysPairs_21 (by decide) rfl rfl ?_
    exact k
theorem t_X11_laysPairs_22 {v1 v2 : Int} {S : ShT} {σ : StT} {Q : Int → StT → Prop} (hS : SHP S) (k : (σ 125 26 ≤ v2 → (σ 125 34 ≤ 14 → WPs mX11_pairsBest [vR 125, vI v1] S σ (fun r128 s128 => (0 ≤ v1 ∧ v1 < 48) ∧ AWs mX11_laysPairs 140 [(0, vR 125), (1, vI v1), (3, vI (σ 125 31))] [] S (up2 s128 138 v1.toNat (-1)) Q)) ∧ (¬ (σ 125 34 ≤ 14) → AWs mX11_laysPairs 90 [(0, vR 125), (1, vI v1), (2, vI (σ 125 31)), (3, vI 0)] [] S σ Q)) ∧ (¬ (σ 125 26 ≤ v2) → (0 ≤ v2 ∧ v2 < 48) ∧ ((¬ σ 134 v2.toNat = v1 → inR (v2 + 1) ∧ AWs mX11_laysPairs 22 [(0, vR 125), (1, vI v1), (2, vI (v2 + 1))] [] S σ Q) ∧ (σ 134 v2.toNat = v1 → WPs mX11_isOdd [vR 125, vI v2] S σ (fun r42 s42 => (r42 = 0 → inR (v2 + 1) ∧ AWs mX11_laysPairs 22 [(0, vR 125), (1, vI v1), (2, vI (v2 + 1))] [] S s42 Q) ∧ (¬ (r42 = 0) → (0 ≤ s42 125 34 ∧ s42 125 34 < 48) ∧ inR ((s42 125 34) + 1) ∧ inR (v2 + 1) ∧ AWs mX11_laysPairs 22 [(0, vR 125), (1, vI v1), (2, vI (v2 + 1))] [] S (up2 (up2 s42 139 (s42 125 34).toNat v2) 125 34 ((s42 125 34) + 1)) Q)))))) : AWs mX11_laysPairs 22 [(0, vR 125), (1, vI v1), (2, vI v2)] [] S σ Q := by
  refine r_iload_n dX11_laysPairs_22 rfl ?_
  refine r_aload_n dX11_laysPairs_23 rfl ?_
  refine r_getIv dX11_laysPairs_24 fl_X11_249 rfl (k_125 hS) ?_
  refine r_icmp_ge (tgt := 74) dX11_laysPairs_27 rfl (fun h => ?_) (fun h => ?_)
  · have k := k.1 h
    refine r_aload_n dX11_laysPairs_74 rfl ?_
    refine r_getIv dX11_laysPairs_75 fl_X11_258 rfl (k_125 hS) ?_
    refine r_istore_n dX11_laysPairs_78 (by decide) rfl rfl ?_
    refine r_aload_n dX11_laysPairs_79 rfl ?_
    refine r_getIv dX11_laysPairs_80 fl_X11_261 rfl (k_125 hS) ?_
    refine r_bipush dX11_laysPairs_83 (by decide +kernel) ⟨by decide, by decide⟩ ?_
    refine r_icmp_le (tgt := 126) dX11_laysPairs_85 rfl (fun h => ?_) (fun h => ?_)
    · have k := k.1 h
      refine r_aload_n dX11_laysPairs_126 rfl ?_
      refine r_iload_n dX11_laysPairs_127 rfl ?_
      refine s_callVv (z := mX11_pairsBest) [vI v1] dX11_laysPairs_128 mv_X11_pairsBest lk_X11_271 rfl (by decide) (k_125 hS) (Nat.le_of_ble_eq_true rfl) (WPs.mono k (fun r128 s128 k => ?_))
      refine r_aload_n dX11_laysPairs_131 rfl ?_
      refine r_getRv dX11_laysPairs_132 fl_X11_50 rfl (k_125 hS) (f_125_32 hS) (by decide) ?_
      refine r_iload_n dX11_laysPairs_135 rfl ?_
      refine r_iconst dX11_laysPairs_136 ⟨by decide, by decide⟩ ?_
      obtain ⟨⟨h0, h1⟩, k⟩ := k
      refine r_iast dX11_laysPairs_137 (k_138 hS) h0 h1 ?_
      refine r_iload_n dX11_laysPairs_138 rfl ?_
      refine r_istore_n dX11_laysPairs_139 (by decide) rfl rfl ?_
      refine r_loc [0, 1, 3] rfl ?_
      exact k
    · have k := k.2 h
      refine r_iconst dX11_laysPairs_88 ⟨by decide, by decide⟩ ?_
      refine r_istore_n dX11_laysPairs_89 (by decide) rfl rfl ?_
      exact k
  · have k := k.2 h
    refine r_aload_n dX11_laysPairs_30 rfl ?_
    refine r_getRv dX11_laysPairs_31 fl_X11_38 rfl (k_125 hS) (f_125_25 hS) (by decide) ?_
    refine r_iload_n dX11_laysPairs_34 rfl ?_
    obtain ⟨⟨h0, h1⟩, k⟩ := k
    refine r_iald dX11_laysPairs_35 (Or.inl (k_134 hS)) h0 h1 ?_
    refine r_iload_n dX11_laysPairs_36 rfl ?_
    refine r_icmp_ne (tgt := 68) dX11_laysPairs_37 rfl (fun h => ?_) (fun h => ?_)
    · have k := k.1 h
      obtain ⟨h, k⟩ := k
      refine r_iinc dX11_laysPairs_68 rfl (by decide) rfl rfl h ?_
      refine r_goto (tgt := 22) dX11_laysPairs_71 rfl ?_
      exact k
    · have k := k.2 h
      refine r_aload_n dX11_laysPairs_40 rfl ?_
      refine r_iload_n dX11_laysPairs_41 rfl ?_
      refine s_callVv (z := mX11_isOdd) [vI v2] dX11_laysPairs_42 mv_X11_isOdd lk_X11_264 rfl (by decide) (k_125 hS) (Nat.le_of_ble_eq_true rfl) (WPs.mono k (fun r42 s42 k => ?_))
      refine r_if_eq (tgt := 68) dX11_laysPairs_45 rfl (fun h => ?_) (fun h => ?_)
      · have k := k.1 h
        obtain ⟨h, k⟩ := k
        refine r_iinc dX11_laysPairs_68 rfl (by decide) rfl rfl h ?_
        refine r_goto (tgt := 22) dX11_laysPairs_71 rfl ?_
        exact k
      · have k := k.2 h
        refine r_aload_n dX11_laysPairs_48 rfl ?_
        refine r_getRv dX11_laysPairs_49 fl_X11_53 rfl (k_125 hS) (f_125_33 hS) (by decide) ?_
        refine r_aload_n dX11_laysPairs_52 rfl ?_
        refine r_getIv dX11_laysPairs_53 fl_X11_261 rfl (k_125 hS) ?_
        refine r_iload_n dX11_laysPairs_56 rfl ?_
        obtain ⟨⟨h0, h1⟩, k⟩ := k
        refine r_iast dX11_laysPairs_57 (k_139 hS) h0 h1 ?_
        refine r_aload_n dX11_laysPairs_58 rfl ?_
        refine r_dup dX11_laysPairs_59 rfl ?_
        refine r_getIv dX11_laysPairs_60 fl_X11_261 rfl (k_125 hS) ?_
        refine r_top (up2_a (by decide)) ?_
        refine r_iconst dX11_laysPairs_63 ⟨by decide, by decide⟩ ?_
        obtain ⟨h, k⟩ := k
        refine r_iadd dX11_laysPairs_64 h ?_
        refine r_putIv dX11_laysPairs_65 fl_X11_261 (fun _ h => by cases h; rfl) (Or.inl rfl) (k_125 hS) ?_
        obtain ⟨h, k⟩ := k
        refine r_iinc dX11_laysPairs_68 rfl (by decide) rfl rfl h ?_
        refine r_goto (tgt := 22) dX11_laysPairs_71 rfl ?_
        exact k
theorem t_X11_laysPairs_90 {v1 v2 v3 : Int} {S : ShT} {σ : StT} {Q : Int → StT → Prop} (hS : SHP S) (k : (σ 125 34 ≤ v3 → (0 ≤ v1 ∧ v1 < 48) ∧ AWs mX11_laysPairs 140 [(0, vR 125), (1, vI v1), (3, vI v2)] [] S (up2 σ 138 v1.toNat (-1)) Q) ∧ (¬ (σ 125 34 ≤ v3) → (0 ≤ v3 ∧ v3 < 48) ∧ inR (v3 + 1) ∧ (0 ≤ v3 + 1 ∧ v3 + 1 < 48) ∧ WPs mX11_pairs [vR 125, vI (σ 139 v3.toNat), vI (σ 139 (v3 + 1).toNat), vI v1] S σ (fun r114 s114 => inR (v3 + 2) ∧ AWs mX11_laysPairs 90 [(0, vR 125), (1, vI v1), (2, vI v2), (3, vI (v3 + 2))] [] S s114 Q))) : AWs mX11_laysPairs 90 [(0, vR 125), (1, vI v1), (2, vI v2), (3, vI v3)] [] S σ Q := by
  refine r_iload_n dX11_laysPairs_90 rfl ?_
  refine r_aload_n dX11_laysPairs_91 rfl ?_
  refine r_getIv dX11_laysPairs_92 fl_X11_261 rfl (k_125 hS) ?_
  refine r_icmp_ge (tgt := 123) dX11_laysPairs_95 rfl (fun h => ?_) (fun h => ?_)
  · have k := k.1 h
    refine r_goto (tgt := 131) dX11_laysPairs_123 rfl ?_
    refine r_aload_n dX11_laysPairs_131 rfl ?_
    refine r_getRv dX11_laysPairs_132 fl_X11_50 rfl (k_125 hS) (f_125_32 hS) (by decide) ?_
    refine r_iload_n dX11_laysPairs_135 rfl ?_
    refine r_iconst dX11_laysPairs_136 ⟨by decide, by decide⟩ ?_
    obtain ⟨⟨h0, h1⟩, k⟩ := k
    refine r_iast dX11_laysPairs_137 (k_138 hS) h0 h1 ?_
    refine r_iload_n dX11_laysPairs_138 rfl ?_
    refine r_istore_n dX11_laysPairs_139 (by decide) rfl rfl ?_
    refine r_loc [0, 1, 3] rfl ?_
    exact k
  · have k := k.2 h
    refine r_aload_n dX11_laysPairs_98 rfl ?_
    refine r_aload_n dX11_laysPairs_99 rfl ?_
    refine r_getRv dX11_laysPairs_100 fl_X11_53 rfl (k_125 hS) (f_125_33 hS) (by decide) ?_
    refine r_iload_n dX11_laysPairs_103 rfl ?_
    obtain ⟨⟨h0, h1⟩, k⟩ := k
    refine r_iald dX11_laysPairs_104 (Or.inl (k_139 hS)) h0 h1 ?_
    refine r_aload_n dX11_laysPairs_105 rfl ?_
    refine r_getRv dX11_laysPairs_106 fl_X11_53 rfl (k_125 hS) (f_125_33 hS) (by decide) ?_
    refine r_iload_n dX11_laysPairs_109 rfl ?_
    refine r_iconst dX11_laysPairs_110 ⟨by decide, by decide⟩ ?_
    obtain ⟨h, k⟩ := k
    refine r_iadd dX11_laysPairs_111 h ?_
    obtain ⟨⟨h0, h1⟩, k⟩ := k
    refine r_iald dX11_laysPairs_112 (Or.inl (k_139 hS)) h0 h1 ?_
    refine r_iload_n dX11_laysPairs_113 rfl ?_
    refine s_callVv (z := mX11_pairs) [vI (σ 139 v3.toNat), vI (σ 139 (v3 + 1).toNat), vI v1] dX11_laysPairs_114 mv_X11_pairs lk_X11_267 rfl (by decide) (k_125 hS) (Nat.le_of_ble_eq_true rfl) (WPs.mono k (fun r114 s114 k => ?_))
    obtain ⟨h, k⟩ := k
    refine r_iinc dX11_laysPairs_117 rfl (by decide) rfl rfl h ?_
    refine r_goto (tgt := 90) dX11_laysPairs_120 rfl ?_
    exact k
theorem t_X11_laysPairs_140 {v1 v3 : Int} {S : ShT} {σ : StT} {Q : Int → StT → Prop} (hS : SHP S) (k : (σ 125 31 ≤ v3 → inR (v1 + 1) ∧ AWs mX11_laysPairs 7 [(0, vR 125), (1, vI (v1 + 1))] [] S σ Q) ∧ (¬ (σ 125 31 ≤ v3) → (0 ≤ v1 ∧ v1 < 48) ∧ ((σ 138 v1.toNat = -1 → (0 ≤ v1 ∧ v1 < 48) ∧ inR (v3 + 1) ∧ AWs mX11_laysPairs 140 [(0, vR 125), (1, vI v1), (3, vI (v3 + 1))] [] S (up2 σ 138 v1.toNat v3) Q) ∧ (¬ (σ 138 v1.toNat = -1) → WPs mX11_farOf [vR 125, vI v3] S σ (fun r165 s165 => (0 ≤ v1 ∧ v1 < 48) ∧ WPs mX11_farOf [vR 125, vI (s165 138 v1.toNat)] S s165 (fun r175 s175 => (r165 ≤ r175 → (0 ≤ v1 ∧ v1 < 48) ∧ (0 ≤ v1 ∧ v1 < 48) ∧ inR (v3 + 1) ∧ AWs mX11_laysPairs 140 [(0, vR 125), (1, vI v1), (3, vI (v3 + 1))] [] S (up2 s175 138 v1.toNat (s175 138 v1.toNat)) Q) ∧ (¬ (r165 ≤ r175) → (0 ≤ v1 ∧ v1 < 48) ∧ inR (v3 + 1) ∧ AWs mX11_laysPairs 140 [(0, vR 125), (1, vI v1), (3, vI (v3 + 1))] [] S (up2 s175 138 v1.toNat v3) Q))))))) : AWs mX11_laysPairs 140 [(0, vR 125), (1, vI v1), (3, vI v3)] [] S σ Q := by
  refine r_iload_n dX11_laysPairs_140 rfl ?_
  refine r_aload_n dX11_laysPairs_141 rfl ?_
  refine r_getIv dX11_laysPairs_142 fl_X11_258 rfl (k_125 hS) ?_
  refine r_icmp_ge (tgt := 198) dX11_laysPairs_145 rfl (fun h => ?_) (fun h => ?_)
  · have k := k.1 h
    obtain ⟨h, k⟩ := k
    refine r_iinc dX11_laysPairs_198 rfl (by decide) rfl rfl h ?_
    refine r_goto (tgt := 7) dX11_laysPairs_201 rfl ?_
    refine r_loc [0, 1] rfl ?_
    exact k
  · have k := k.2 h
    refine r_aload_n dX11_laysPairs_148 rfl ?_
    refine r_getRv dX11_laysPairs_149 fl_X11_50 rfl (k_125 hS) (f_125_32 hS) (by decide) ?_
    refine r_iload_n dX11_laysPairs_152 rfl ?_
    refine r_aload_n dX11_laysPairs_153 rfl ?_
    refine r_getRv dX11_laysPairs_154 fl_X11_50 rfl (k_125 hS) (f_125_32 hS) (by decide) ?_
    refine r_iload_n dX11_laysPairs_157 rfl ?_
    obtain ⟨⟨h0, h1⟩, k⟩ := k
    refine r_iald dX11_laysPairs_158 (Or.inl (k_138 hS)) h0 h1 ?_
    refine r_iconst dX11_laysPairs_159 ⟨by decide, by decide⟩ ?_
    refine r_icmp_eq (tgt := 181) dX11_laysPairs_160 rfl (fun h => ?_) (fun h => ?_)
    · have k := k.1 h
      refine r_iload_n dX11_laysPairs_181 rfl ?_
      refine r_goto (tgt := 191) dX11_laysPairs_182 rfl ?_
      obtain ⟨⟨h0, h1⟩, k⟩ := k
      refine r_iast dX11_laysPairs_191 (k_138 hS) h0 h1 ?_
      obtain ⟨h, k⟩ := k
      refine r_iinc dX11_laysPairs_192 rfl (by decide) rfl rfl h ?_
      refine r_goto (tgt := 140) dX11_laysPairs_195 rfl ?_
      exact k
    · have k := k.2 h
      refine r_aload_n dX11_laysPairs_163 rfl ?_
      refine r_iload_n dX11_laysPairs_164 rfl ?_
      refine s_callVv (z := mX11_farOf) [vI v3] dX11_laysPairs_165 mv_X11_farOf lk_X11_274 rfl (by decide) (k_125 hS) (Nat.le_of_ble_eq_true rfl) (WPs.mono k (fun r165 s165 k => ?_))
      refine r_aload_n dX11_laysPairs_168 rfl ?_
      refine r_aload_n dX11_laysPairs_169 rfl ?_
      refine r_getRv dX11_laysPairs_170 fl_X11_50 rfl (k_125 hS) (f_125_32 hS) (by decide) ?_
      refine r_iload_n dX11_laysPairs_173 rfl ?_
      obtain ⟨⟨h0, h1⟩, k⟩ := k
      refine r_iald dX11_laysPairs_174 (Or.inl (k_138 hS)) h0 h1 ?_
      refine s_callVv (z := mX11_farOf) [vI (s165 138 v1.toNat)] dX11_laysPairs_175 mv_X11_farOf lk_X11_274 rfl (by decide) (k_125 hS) (Nat.le_of_ble_eq_true rfl) (WPs.mono k (fun r175 s175 k => ?_))
      refine r_icmp_le (tgt := 185) dX11_laysPairs_178 rfl (fun h => ?_) (fun h => ?_)
      · have k := k.1 h
        refine r_aload_n dX11_laysPairs_185 rfl ?_
        refine r_getRv dX11_laysPairs_186 fl_X11_50 rfl (k_125 hS) (f_125_32 hS) (by decide) ?_
        refine r_iload_n dX11_laysPairs_189 rfl ?_
        obtain ⟨⟨h0, h1⟩, k⟩ := k
        refine r_iald dX11_laysPairs_190 (Or.inl (k_138 hS)) h0 h1 ?_
        obtain ⟨⟨h0, h1⟩, k⟩ := k
        refine r_iast dX11_laysPairs_191 (k_138 hS) h0 h1 ?_
        obtain ⟨h, k⟩ := k
        refine r_iinc dX11_laysPairs_192 rfl (by decide) rfl rfl h ?_
        refine r_goto (tgt := 140) dX11_laysPairs_195 rfl ?_
        exact k
      · have k := k.2 h
        refine r_iload_n dX11_laysPairs_181 rfl ?_
        refine r_goto (tgt := 191) dX11_laysPairs_182 rfl ?_
        obtain ⟨⟨h0, h1⟩, k⟩ := k
        refine r_iast dX11_laysPairs_191 (k_138 hS) h0 h1 ?_
        obtain ⟨h, k⟩ := k
        refine r_iinc dX11_laysPairs_192 rfl (by decide) rfl rfl h ?_
        refine r_goto (tgt := 140) dX11_laysPairs_195 rfl ?_
        exact k
theorem e_X11_pairs {v1 v2 v3 : Int} {S : ShT} {σ : StT} {Q : Int → StT → Prop} (hS : SHP S) (k : (0 ≤ σ 125 31 ∧ σ 125 31 < 24) ∧ (0 ≤ σ 125 31 ∧ σ 125 31 < 24) ∧ (0 ≤ σ 125 31 ∧ σ 125 31 < 24) ∧ inR ((σ 125 31) + 1) ∧ Q 0 (up2 (up2 (up2 (up2 σ 135 (σ 125 31).toNat v1) 136 (σ 125 31).toNat v2) 137 (σ 125 31).toNat v3) 125 31 ((σ 125 31) + 1))) : WPs mX11_pairs [vR 125, vI v1, vI v2, vI v3] S σ Q := by
  refine s_entry (by decide) (Nat.le_of_ble_eq_true rfl) rfl rfl ?_
  refine r_aload_n dX11_pairs_0 rfl ?_
  refine r_getRv dX11_pairs_1 fl_X11_41 rfl (k_125 hS) (f_125_28 hS) (by decide) ?_
  refine r_aload_n dX11_pairs_4 rfl ?_
  refine r_getIv dX11_pairs_5 fl_X11_258 rfl (k_125 hS) ?_
  refine r_iload_n dX11_pairs_8 rfl ?_
  obtain ⟨⟨h0, h1⟩, k⟩ := k
  refine r_iast dX11_pairs_9 (k_135 hS) h0 h1 ?_
  refine r_aload_n dX11_pairs_10 rfl ?_
  refine r_getRv dX11_pairs_11 fl_X11_44 rfl (k_125 hS) (f_125_29 hS) (by decide) ?_
  refine r_aload_n dX11_pairs_14 rfl ?_
  refine r_getIv dX11_pairs_15 fl_X11_258 rfl (k_125 hS) ?_
  refine r_top (up2_a (by decide)) ?_
  refine r_iload_n dX11_pairs_18 rfl ?_
  obtain ⟨⟨h0, h1⟩, k⟩ := k
  refine r_iast dX11_pairs_19 (k_136 hS) h0 h1 ?_
  refine r_aload_n dX11_pairs_20 rfl ?_
  refine r_getRv dX11_pairs_21 fl_X11_47 rfl (k_125 hS) (f_125_30 hS) (by decide) ?_
  refine r_aload_n dX11_pairs_24 rfl ?_
  refine r_getIv dX11_pairs_25 fl_X11_258 rfl (k_125 hS) ?_
  refine r_top ((up2_a (by decide)).trans (up2_a (by decide))) ?_
  refine r_iload_n dX11_pairs_28 rfl ?_
  obtain ⟨⟨h0, h1⟩, k⟩ := k
  refine r_iast dX11_pairs_29 (k_137 hS) h0 h1 ?_
  refine r_aload_n dX11_pairs_30 rfl ?_
  refine r_dup dX11_pairs_31 rfl ?_
  refine r_getIv dX11_pairs_32 fl_X11_258 rfl (k_125 hS) ?_
  refine r_top ((up2_a (by decide)).trans ((up2_a (by decide)).trans (up2_a (by decide)))) ?_
  refine r_iconst dX11_pairs_35 ⟨by decide, by decide⟩ ?_
  obtain ⟨h, k⟩ := k
  refine r_iadd dX11_pairs_36 h ?_
  refine r_putIv dX11_pairs_37 fl_X11_258 (fun _ h => by cases h; rfl) (Or.inl rfl) (k_125 hS) ?_
  exact s_vret dX11_pairs_40 rfl k
theorem e_X11_farOf {v1 : Int} {S : ShT} {σ : StT} {Q : Int → StT → Prop} (hS : SHP S) (k : (0 ≤ v1 ∧ v1 < 24) ∧ (0 ≤ v1 ∧ v1 < 24) ∧ WPs mX11_far [vR 125, vI (σ 135 v1.toNat), vI (σ 136 v1.toNat)] S σ (fun r13 s13 => Q r13 s13)) : WPs mX11_farOf [vR 125, vI v1] S σ Q := by
  refine s_entry (by decide) (Nat.le_of_ble_eq_true rfl) rfl rfl ?_
  refine r_aload_n dX11_farOf_0 rfl ?_
  refine r_aload_n dX11_farOf_1 rfl ?_
  refine r_getRv dX11_farOf_2 fl_X11_41 rfl (k_125 hS) (f_125_28 hS) (by decide) ?_
  refine r_iload_n dX11_farOf_5 rfl ?_
  obtain ⟨⟨h0, h1⟩, k⟩ := k
  refine r_iald dX11_farOf_6 (Or.inl (k_135 hS)) h0 h1 ?_
  refine r_aload_n dX11_farOf_7 rfl ?_
  refine r_getRv dX11_farOf_8 fl_X11_44 rfl (k_125 hS) (f_125_29 hS) (by decide) ?_
  refine r_iload_n dX11_farOf_11 rfl ?_
  obtain ⟨⟨h0, h1⟩, k⟩ := k
  refine r_iald dX11_farOf_12 (Or.inl (k_136 hS)) h0 h1 ?_
  refine s_callVv (z := mX11_far) [vI (σ 135 v1.toNat), vI (σ 136 v1.toNat)] dX11_farOf_13 mv_X11_far lk_X11_277 rfl (by decide) (k_125 hS) (Nat.le_of_ble_eq_true rfl) (WPs.mono k (fun r13 s13 k => ?_))
  exact s_iret dX11_farOf_16 rfl k
theorem e_X11_lowest {v0 : Int} {S : ShT} {σ : StT} {Q : Int → StT → Prop} (hS : SHP S) (k : AWs mX11_lowest 2 [(0, vI v0), (1, vI 0)] [] S σ Q) : WPs mX11_lowest [vI v0] S σ Q := by
  refine s_entry (by decide) (Nat.le_of_ble_eq_true rfl) rfl rfl ?_
  refine r_iconst dX11_lowest_0 ⟨by decide, by decide⟩ ?_
  refine r_istore_n dX11_lowest_1 (by decide) rfl rfl ?_
  exact k
theorem t_X11_lowest_2 {v0 v1 : Int} {S : ShT} {σ : StT} {Q : Int → StT → Prop} (hS : SHP S) (k : (¬ iAnd (iShr v0 v1) 1 = 0 → Q v1 σ) ∧ (iAnd (iShr v0 v1) 1 = 0 → inR (v1 + 1) ∧ AWs mX11_lowest 2 [(0, vI v0), (1, vI (v1 + 1))] [] S σ Q)) : AWs mX11_lowest 2 [(0, vI v0), (1, vI v1)] [] S σ Q := by
  refine r_iload_n dX11_lowest_2 rfl ?_
  refine r_iload_n dX11_lowest_3 rfl ?_
  refine r_ishr dX11_lowest_4 ?_
  refine r_iconst dX11_lowest_5 ⟨by decide, by decide⟩ ?_
  refine r_iand dX11_lowest_6 ?_
  refine r_if_ne (tgt := 16) dX11_lowest_7 rfl (fun h => ?_) (fun h => ?_)
  · have k := k.1 h
    refine r_iload_n dX11_lowest_16 rfl ?_
    exact s_iret dX11_lowest_17 rfl k
  · have k := k.2 h
    obtain ⟨h, k⟩ := k
    refine r_iinc dX11_lowest_10 rfl (by decide) rfl rfl h ?_
    refine r_goto (tgt := 2) dX11_lowest_13 rfl ?_
    exact k
theorem e_X11_pairsBest {v1 : Int} {S : ShT} {σ : StT} {Q : Int → StT → Prop} (hS : SHP S) (k : AWs mX11_pairsBest 9 [(0, vR 125), (1, vI v1), (2, vI 1)] [] S (up2 σ 140 0 0) Q) : WPs mX11_pairsBest [vR 125, vI v1] S σ Q := by
  refine s_entry (by decide) (Nat.le_of_ble_eq_true rfl) rfl rfl ?_
  refine r_aload_n dX11_pairsBest_0 rfl ?_
  refine r_getRv dX11_pairsBest_1 fl_X11_56 rfl (k_125 hS) (f_125_35 hS) (by decide) ?_
  refine r_iconst dX11_pairsBest_4 ⟨by decide, by decide⟩ ?_
  refine r_iconst dX11_pairsBest_5 ⟨by decide, by decide⟩ ?_
  refine r_iast dX11_pairsBest_6 (k_140 hS) (by decide) (by decide) ?_
  refine r_iconst dX11_pairsBest_7 ⟨by decide, by decide⟩ ?_
  refine r_istore_n dX11_pairsBest_8 (by decide) rfl rfl ?_
  exact k
theorem t_X11_pairsBest_9 {v1 v2 : Int} {S : ShT} {σ : StT} {Q : Int → StT → Prop} (hS : SHP S) (k : (iShl 1 (σ 125 34) ≤ v2 → inR ((iShl 1 (σ 125 34)) - 1) ∧ ∀ x169 : Int, x169 = (iShl 1 (σ 125 34)) - 1 → AWs mX11_pairsBest 170 [(0, vR 125), (1, vI v1), (2, vI x169)] [] S σ Q) ∧ (¬ (iShl 1 (σ 125 34) ≤ v2) → WPs mX11_lowest [vI v2] S σ (fun r20 s20 => (0 ≤ v2 ∧ v2 < 16384) ∧ inR (r20 + 1) ∧ AWs mX11_pairsBest 38 [(0, vR 125), (1, vI v1), (2, vI v2), (3, vI r20), (4, vI (r20 + 1))] [] S (up2 s20 140 v2.toNat 1000000) Q))) : AWs mX11_pairsBest 9 [(0, vR 125), (1, vI v1), (2, vI v2)] [] S σ Q := by
  refine r_iload_n dX11_pairsBest_9 rfl ?_
  refine r_iconst dX11_pairsBest_10 ⟨by decide, by decide⟩ ?_
  refine r_aload_n dX11_pairsBest_11 rfl ?_
  refine r_getIv dX11_pairsBest_12 fl_X11_261 rfl (k_125 hS) ?_
  refine r_ishl dX11_pairsBest_15 ?_
  refine r_icmp_ge (tgt := 161) dX11_pairsBest_16 rfl (fun h => ?_) (fun h => ?_)
  · have k := k.1 h
    refine r_iconst dX11_pairsBest_161 ⟨by decide, by decide⟩ ?_
    refine r_aload_n dX11_pairsBest_162 rfl ?_
    refine r_getIv dX11_pairsBest_163 fl_X11_261 rfl (k_125 hS) ?_
    refine r_ishl dX11_pairsBest_166 ?_
    refine r_iconst dX11_pairsBest_167 ⟨by decide, by decide⟩ ?_
    obtain ⟨h, k⟩ := k
    refine r_isub dX11_pairsBest_168 h ?_
    refine r_gen (fun x169 hx169 => ?_)
    have k := k x169 hx169
    refine r_istore_n dX11_pairsBest_169 (by decide) rfl rfl ?_
    exact k
  · have k := k.2 h
    refine r_iload_n dX11_pairsBest_19 rfl ?_
    refine s_callS (z := mX11_lowest) [vI v2] dX11_pairsBest_20 ms_X11_lowest lk_X11_280 rfl (by decide) (Nat.le_of_ble_eq_true rfl) (WPs.mono k (fun r20 s20 k => ?_))
    refine r_istore_n dX11_pairsBest_23 (by decide) rfl rfl ?_
    refine r_aload_n dX11_pairsBest_24 rfl ?_
    refine r_getRv dX11_pairsBest_25 fl_X11_56 rfl (k_125 hS) (f_125_35 hS) (by decide) ?_
    refine r_iload_n dX11_pairsBest_28 rfl ?_
    refine r_ldcw dX11_pairsBest_29 ct_X11_283 ⟨by decide, by decide⟩ ?_
    obtain ⟨⟨h0, h1⟩, k⟩ := k
    refine r_iast dX11_pairsBest_32 (k_140 hS) h0 h1 ?_
    refine r_iload_n dX11_pairsBest_33 rfl ?_
    refine r_iconst dX11_pairsBest_34 ⟨by decide, by decide⟩ ?_
    obtain ⟨h, k⟩ := k
    refine r_iadd dX11_pairsBest_35 h ?_
    refine r_istore dX11_pairsBest_36 (by decide) rfl rfl ?_
    exact k
theorem t_X11_pairsBest_38 {v1 v2 v3 v4 : Int} {S : ShT} {σ : StT} {Q : Int → StT → Prop} (hS : SHP S) (k : (σ 125 34 ≤ v4 → inR (v2 + 1) ∧ AWs mX11_pairsBest 9 [(0, vR 125), (1, vI v1), (2, vI (v2 + 1))] [] S σ Q) ∧ (¬ (σ 125 34 ≤ v4) → ∀ x59 : Int, x59 = iAnd v2 (iXor (iOr (iShl 1 v3) (iShl 1 v4)) (-1)) → (¬ iAnd (iShr v2 v4) 1 = 1 → inR (v4 + 1) ∧ AWs mX11_pairsBest 38 [(0, vR 125), (1, vI v1), (2, vI v2), (3, vI v3), (4, vI (v4 + 1))] [] S σ Q) ∧ (iAnd (iShr v2 v4) 1 = 1 → (0 ≤ x59 ∧ x59 < 16384) ∧ ((1000000 ≤ σ 140 x59.toNat → inR (v4 + 1) ∧ AWs mX11_pairsBest 38 [(0, vR 125), (1, vI v1), (2, vI v2), (3, vI v3), (4, vI (v4 + 1))] [] S σ Q) ∧ (¬ (1000000 ≤ σ 140 x59.toNat) → (0 ≤ x59 ∧ x59 < 16384) ∧ ((0 ≤ v3 ∧ v3 < 48) ∧ ((0 ≤ v4 ∧ v4 < 48) ∧ WPs mX11_far [vR 125, vI (σ 139 v3.toNat), vI (σ 139 v4.toNat)] S σ (fun r105 s105 => inR ((σ 140 x59.toNat) + r105) ∧ ((0 ≤ v2 ∧ v2 < 16384) ∧ ((s105 140 v2.toNat ≤ (σ 140 x59.toNat) + r105 → inR (v4 + 1) ∧ AWs mX11_pairsBest 38 [(0, vR 125), (1, vI v1), (2, vI v2), (3, vI v3), (4, vI (v4 + 1))] [] S s105 Q) ∧ (¬ (s105 140 v2.toNat ≤ (σ 140 x59.toNat) + r105) → (0 ≤ x59 ∧ x59 < 16384) ∧ (0 ≤ v3 ∧ v3 < 48) ∧ (0 ≤ v4 ∧ v4 < 48) ∧ WPs mX11_far [vR 125, vI (s105 139 v3.toNat), vI (s105 139 v4.toNat)] S s105 (fun r144 s144 => inR ((s105 140 x59.toNat) + r144) ∧ (0 ≤ v2 ∧ v2 < 16384) ∧ inR (v4 + 1) ∧ AWs mX11_pairsBest 38 [(0, vR 125), (1, vI v1), (2, vI v2), (3, vI v3), (4, vI (v4 + 1))] [] S (up2 s144 140 v2.toNat ((s105 140 x59.toNat) + r144)) Q)))))))))))) : AWs mX11_pairsBest 38 [(0, vR 125), (1, vI v1), (2, vI v2), (3, vI v3), (4, vI v4)] [] S σ Q := by
  refine r_iload dX11_pairsBest_38 rfl ?_
  refine r_aload_n dX11_pairsBest_40 rfl ?_
  refine r_getIv dX11_pairsBest_41 fl_X11_261 rfl (k_125 hS) ?_
  refine r_icmp_ge (tgt := 155) dX11_pairsBest_44 rfl (fun h => ?_) (fun h => ?_)
  · have k := k.1 h
    obtain ⟨h, k⟩ := k
    refine r_iinc dX11_pairsBest_155 rfl (by decide) rfl rfl h ?_
    refine r_goto (tgt := 9) dX11_pairsBest_158 rfl ?_
    refine r_loc [0, 1, 2] rfl ?_
    exact k
  · have k := k.2 h
    refine r_iload_n dX11_pairsBest_47 rfl ?_
    refine r_iconst dX11_pairsBest_48 ⟨by decide, by decide⟩ ?_
    refine r_iload_n dX11_pairsBest_49 rfl ?_
    refine r_ishl dX11_pairsBest_50 ?_
    refine r_iconst dX11_pairsBest_51 ⟨by decide, by decide⟩ ?_
    refine r_iload dX11_pairsBest_52 rfl ?_
    refine r_ishl dX11_pairsBest_54 ?_
    refine r_ior dX11_pairsBest_55 ?_
    refine r_iconst dX11_pairsBest_56 ⟨by decide, by decide⟩ ?_
    refine r_ixor dX11_pairsBest_57 ?_
    refine r_iand dX11_pairsBest_58 ?_
    refine r_gen (fun x59 hx59 => ?_)
    have k := k x59 hx59
    refine r_istore dX11_pairsBest_59 (by decide) rfl rfl ?_
    refine r_iload_n dX11_pairsBest_61 rfl ?_
    refine r_iload dX11_pairsBest_62 rfl ?_
    refine r_ishr dX11_pairsBest_64 ?_
    refine r_iconst dX11_pairsBest_65 ⟨by decide, by decide⟩ ?_
    refine r_iand dX11_pairsBest_66 ?_
    refine r_iconst dX11_pairsBest_67 ⟨by decide, by decide⟩ ?_
    refine r_icmp_ne (tgt := 149) dX11_pairsBest_68 rfl (fun h => ?_) (fun h => ?_)
    · have k := k.1 h
      obtain ⟨h, k⟩ := k
      refine r_iinc dX11_pairsBest_149 rfl (by decide) rfl rfl h ?_
      refine r_goto (tgt := 38) dX11_pairsBest_152 rfl ?_
      refine r_loc [0, 1, 2, 3, 4] rfl ?_
      exact k
    · have k := k.2 h
      refine r_aload_n dX11_pairsBest_71 rfl ?_
      refine r_getRv dX11_pairsBest_72 fl_X11_56 rfl (k_125 hS) (f_125_35 hS) (by decide) ?_
      refine r_iload dX11_pairsBest_75 rfl ?_
      obtain ⟨⟨h0, h1⟩, k⟩ := k
      refine r_iald dX11_pairsBest_77 (Or.inl (k_140 hS)) h0 h1 ?_
      refine r_ldcw dX11_pairsBest_78 ct_X11_283 ⟨by decide, by decide⟩ ?_
      refine r_icmp_ge (tgt := 149) dX11_pairsBest_81 rfl (fun h => ?_) (fun h => ?_)
      · have k := k.1 h
        obtain ⟨h, k⟩ := k
        refine r_iinc dX11_pairsBest_149 rfl (by decide) rfl rfl h ?_
        refine r_goto (tgt := 38) dX11_pairsBest_152 rfl ?_
        refine r_loc [0, 1, 2, 3, 4] rfl ?_
        exact k
      · have k := k.2 h
        refine r_aload_n dX11_pairsBest_84 rfl ?_
        refine r_getRv dX11_pairsBest_85 fl_X11_56 rfl (k_125 hS) (f_125_35 hS) (by decide) ?_
        refine r_iload dX11_pairsBest_88 rfl ?_
        obtain ⟨⟨h0, h1⟩, k⟩ := k
        refine r_iald dX11_pairsBest_90 (Or.inl (k_140 hS)) h0 h1 ?_
        refine r_aload_n dX11_pairsBest_91 rfl ?_
        refine r_aload_n dX11_pairsBest_92 rfl ?_
        refine r_getRv dX11_pairsBest_93 fl_X11_53 rfl (k_125 hS) (f_125_33 hS) (by decide) ?_
        refine r_iload_n dX11_pairsBest_96 rfl ?_
        obtain ⟨⟨h0, h1⟩, k⟩ := k
        refine r_iald dX11_pairsBest_97 (Or.inl (k_139 hS)) h0 h1 ?_
        refine r_aload_n dX11_pairsBest_98 rfl ?_
        refine r_getRv dX11_pairsBest_99 fl_X11_53 rfl (k_125 hS) (f_125_33 hS) (by decide) ?_
        refine r_iload dX11_pairsBest_102 rfl ?_
        obtain ⟨⟨h0, h1⟩, k⟩ := k
        refine r_iald dX11_pairsBest_104 (Or.inl (k_139 hS)) h0 h1 ?_
        refine s_callVv (z := mX11_far) [vI (σ 139 v3.toNat), vI (σ 139 v4.toNat)] dX11_pairsBest_105 mv_X11_far lk_X11_277 rfl (by decide) (k_125 hS) (Nat.le_of_ble_eq_true rfl) (WPs.mono k (fun r105 s105 k => ?_))
        obtain ⟨h, k⟩ := k
        refine r_iadd dX11_pairsBest_108 h ?_
        refine r_aload_n dX11_pairsBest_109 rfl ?_
        refine r_getRv dX11_pairsBest_110 fl_X11_56 rfl (k_125 hS) (f_125_35 hS) (by decide) ?_
        refine r_iload_n dX11_pairsBest_113 rfl ?_
        obtain ⟨⟨h0, h1⟩, k⟩ := k
        refine r_iald dX11_pairsBest_114 (Or.inl (k_140 hS)) h0 h1 ?_
        refine r_icmp_ge (tgt := 149) dX11_pairsBest_115 rfl (fun h => ?_) (fun h => ?_)
        · have k := k.1 h
          obtain ⟨h, k⟩ := k
          refine r_iinc dX11_pairsBest_149 rfl (by decide) rfl rfl h ?_
          refine r_goto (tgt := 38) dX11_pairsBest_152 rfl ?_
          refine r_loc [0, 1, 2, 3, 4] rfl ?_
          exact k
        · have k := k.2 h
          refine r_aload_n dX11_pairsBest_118 rfl ?_
          refine r_getRv dX11_pairsBest_119 fl_X11_56 rfl (k_125 hS) (f_125_35 hS) (by decide) ?_
          refine r_iload_n dX11_pairsBest_122 rfl ?_
          refine r_aload_n dX11_pairsBest_123 rfl ?_
          refine r_getRv dX11_pairsBest_124 fl_X11_56 rfl (k_125 hS) (f_125_35 hS) (by decide) ?_
          refine r_iload dX11_pairsBest_127 rfl ?_
          obtain ⟨⟨h0, h1⟩, k⟩ := k
          refine r_iald dX11_pairsBest_129 (Or.inl (k_140 hS)) h0 h1 ?_
          refine r_aload_n dX11_pairsBest_130 rfl ?_
          refine r_aload_n dX11_pairsBest_131 rfl ?_
          refine r_getRv dX11_pairsBest_132 fl_X11_53 rfl (k_125 hS) (f_125_33 hS) (by decide) ?_
          refine r_iload_n dX11_pairsBest_135 rfl ?_
          obtain ⟨⟨h0, h1⟩, k⟩ := k
          refine r_iald dX11_pairsBest_136 (Or.inl (k_139 hS)) h0 h1 ?_
          refine r_aload_n dX11_pairsBest_137 rfl ?_
          refine r_getRv dX11_pairsBest_138 fl_X11_53 rfl (k_125 hS) (f_125_33 hS) (by decide) ?_
          refine r_iload dX11_pairsBest_141 rfl ?_
          obtain ⟨⟨h0, h1⟩, k⟩ := k
          refine r_iald dX11_pairsBest_143 (Or.inl (k_139 hS)) h0 h1 ?_
          refine s_callVv (z := mX11_far) [vI (s105 139 v3.toNat), vI (s105 139 v4.toNat)] dX11_pairsBest_144 mv_X11_far lk_X11_277 rfl (by decide) (k_125 hS) (Nat.le_of_ble_eq_true rfl) (WPs.mono k (fun r144 s144 k => ?_))
          obtain ⟨h, k⟩ := k
          refine r_iadd dX11_pairsBest_147 h ?_
          obtain ⟨⟨h0, h1⟩, k⟩ := k
          refine r_iast dX11_pairsBest_148 (k_140 hS) h0 h1 ?_
          obtain ⟨h, k⟩ := k
          refine r_iinc dX11_pairsBest_149 rfl (by decide) rfl rfl h ?_
          refine r_goto (tgt := 38) dX11_pairsBest_152 rfl ?_
          refine r_loc [0, 1, 2, 3, 4] rfl ?_
          exact k
theorem t_X11_pairsBest_170 {v1 v2 : Int} {S : ShT} {σ : StT} {Q : Int → StT → Prop} (hS : SHP S) (k : (v2 = 0 → Q 0 σ) ∧ (¬ (v2 = 0) → WPs mX11_lowest [vI v2] S σ (fun r175 s175 => inR (r175 + 1) ∧ AWs mX11_pairsBest 184 [(0, vR 125), (1, vI v1), (2, vI v2), (3, vI r175), (4, vI (r175 + 1))] [] S s175 Q))) : AWs mX11_pairsBest 170 [(0, vR 125), (1, vI v1), (2, vI v2)] [] S σ Q := by
  refine r_iload_n dX11_pairsBest_170 rfl ?_
  refine r_if_eq (tgt := 277) dX11_pairsBest_171 rfl (fun h => ?_) (fun h => ?_)
  · have k := k.1 h
    exact s_vret dX11_pairsBest_277 rfl k
  · have k := k.2 h
    refine r_iload_n dX11_pairsBest_174 rfl ?_
    refine s_callS (z := mX11_lowest) [vI v2] dX11_pairsBest_175 ms_X11_lowest lk_X11_280 rfl (by decide) (Nat.le_of_ble_eq_true rfl) (WPs.mono k (fun r175 s175 k => ?_))
    refine r_istore_n dX11_pairsBest_178 (by decide) rfl rfl ?_
    refine r_iload_n dX11_pairsBest_179 rfl ?_
    refine r_iconst dX11_pairsBest_180 ⟨by decide, by decide⟩ ?_
    obtain ⟨h, k⟩ := k
    refine r_iadd dX11_pairsBest_181 h ?_
    refine r_istore dX11_pairsBest_182 (by decide) rfl rfl ?_
    exact k
theorem t_X11_pairsBest_184 {v1 v2 v3 v4 : Int} {S : ShT} {σ : StT} {Q : Int → StT → Prop} (hS : SHP S) (k : (iAnd (iShr v2 v4) 1 = 0 → inR (v4 + 1) ∧ AWs mX11_pairsBest 184 [(0, vR 125), (1, vI v1), (2, vI v2), (3, vI v3), (4, vI (v4 + 1))] [] S σ Q) ∧ (¬ (iAnd (iShr v2 v4) 1 = 0) → (0 ≤ iAnd v2 (iXor (iOr (iShl 1 v3) (iShl 1 v4)) (-1)) ∧ iAnd v2 (iXor (iOr (iShl 1 v3) (iShl 1 v4)) (-1)) < 16384) ∧ ((0 ≤ v3 ∧ v3 < 48) ∧ ((0 ≤ v4 ∧ v4 < 48) ∧ WPs mX11_far [vR 125, vI (σ 139 v3.toNat), vI (σ 139 v4.toNat)] S σ (fun r224 s224 => inR ((σ 140 (iAnd v2 (iXor (iOr (iShl 1 v3) (iShl 1 v4)) (-1))).toNat) + r224) ∧ ((0 ≤ v2 ∧ v2 < 16384) ∧ (((σ 140 (iAnd v2 (iXor (iOr (iShl 1 v3) (iShl 1 v4)) (-1))).toNat) + r224 = s224 140 v2.toNat → (0 ≤ v3 ∧ v3 < 48) ∧ ((0 ≤ v4 ∧ v4 < 48) ∧ WPs mX11_pairs [vR 125, vI (s224 139 v3.toNat), vI (s224 139 v4.toNat), vI v1] S s224 (fun r258 s258 => ∀ x273 : Int, x273 = iAnd v2 (iXor (iOr (iShl 1 v3) (iShl 1 v4)) (-1)) → AWs mX11_pairsBest 170 [(0, vR 125), (1, vI v1), (2, vI x273)] [] S s258 Q))) ∧ (¬ ((σ 140 (iAnd v2 (iXor (iOr (iShl 1 v3) (iShl 1 v4)) (-1))).toNat) + r224 = s224 140 v2.toNat) → inR (v4 + 1) ∧ AWs mX11_pairsBest 184 [(0, vR 125), (1, vI v1), (2, vI v2), (3, vI v3), (4, vI (v4 + 1))] [] S s224 Q)))))))) : AWs mX11_pairsBest 184 [(0, vR 125), (1, vI v1), (2, vI v2), (3, vI v3), (4, vI v4)] [] S σ Q := by
  refine r_iload_n dX11_pairsBest_184 rfl ?_
  refine r_iload dX11_pairsBest_185 rfl ?_
  refine r_ishr dX11_pairsBest_187 ?_
  refine r_iconst dX11_pairsBest_188 ⟨by decide, by decide⟩ ?_
  refine r_iand dX11_pairsBest_189 ?_
  refine r_if_eq (tgt := 237) dX11_pairsBest_190 rfl (fun h => ?_) (fun h => ?_)
  · have k := k.1 h
    obtain ⟨h, k⟩ := k
    refine r_iinc dX11_pairsBest_237 rfl (by decide) rfl rfl h ?_
    refine r_goto (tgt := 184) dX11_pairsBest_240 rfl ?_
    exact k
  · have k := k.2 h
    refine r_aload_n dX11_pairsBest_193 rfl ?_
    refine r_getRv dX11_pairsBest_194 fl_X11_56 rfl (k_125 hS) (f_125_35 hS) (by decide) ?_
    refine r_iload_n dX11_pairsBest_197 rfl ?_
    refine r_iconst dX11_pairsBest_198 ⟨by decide, by decide⟩ ?_
    refine r_iload_n dX11_pairsBest_199 rfl ?_
    refine r_ishl dX11_pairsBest_200 ?_
    refine r_iconst dX11_pairsBest_201 ⟨by decide, by decide⟩ ?_
    refine r_iload dX11_pairsBest_202 rfl ?_
    refine r_ishl dX11_pairsBest_204 ?_
    refine r_ior dX11_pairsBest_205 ?_
    refine r_iconst dX11_pairsBest_206 ⟨by decide, by decide⟩ ?_
    refine r_ixor dX11_pairsBest_207 ?_
    refine r_iand dX11_pairsBest_208 ?_
    obtain ⟨⟨h0, h1⟩, k⟩ := k
    refine r_iald dX11_pairsBest_209 (Or.inl (k_140 hS)) h0 h1 ?_
    refine r_aload_n dX11_pairsBest_210 rfl ?_
    refine r_aload_n dX11_pairsBest_211 rfl ?_
    refine r_getRv dX11_pairsBest_212 fl_X11_53 rfl (k_125 hS) (f_125_33 hS) (by decide) ?_
    refine r_iload_n dX11_pairsBest_215 rfl ?_
    obtain ⟨⟨h0, h1⟩, k⟩ := k
    refine r_iald dX11_pairsBest_216 (Or.inl (k_139 hS)) h0 h1 ?_
    refine r_aload_n dX11_pairsBest_217 rfl ?_
    refine r_getRv dX11_pairsBest_218 fl_X11_53 rfl (k_125 hS) (f_125_33 hS) (by decide) ?_
    refine r_iload dX11_pairsBest_221 rfl ?_
    obtain ⟨⟨h0, h1⟩, k⟩ := k
    refine r_iald dX11_pairsBest_223 (Or.inl (k_139 hS)) h0 h1 ?_
    refine s_callVv (z := mX11_far) [vI (σ 139 v3.toNat), vI (σ 139 v4.toNat)] dX11_pairsBest_224 mv_X11_far lk_X11_277 rfl (by decide) (k_125 hS) (Nat.le_of_ble_eq_true rfl) (WPs.mono k (fun r224 s224 k => ?_))
    obtain ⟨h, k⟩ := k
    refine r_iadd dX11_pairsBest_227 h ?_
    refine r_aload_n dX11_pairsBest_228 rfl ?_
    refine r_getRv dX11_pairsBest_229 fl_X11_56 rfl (k_125 hS) (f_125_35 hS) (by decide) ?_
    refine r_iload_n dX11_pairsBest_232 rfl ?_
    obtain ⟨⟨h0, h1⟩, k⟩ := k
    refine r_iald dX11_pairsBest_233 (Or.inl (k_140 hS)) h0 h1 ?_
    refine r_icmp_eq (tgt := 243) dX11_pairsBest_234 rfl (fun h => ?_) (fun h => ?_)
    · have k := k.1 h
      refine r_aload_n dX11_pairsBest_243 rfl ?_
      refine r_aload_n dX11_pairsBest_244 rfl ?_
      refine r_getRv dX11_pairsBest_245 fl_X11_53 rfl (k_125 hS) (f_125_33 hS) (by decide) ?_
      refine r_iload_n dX11_pairsBest_248 rfl ?_
      obtain ⟨⟨h0, h1⟩, k⟩ := k
      refine r_iald dX11_pairsBest_249 (Or.inl (k_139 hS)) h0 h1 ?_
      refine r_aload_n dX11_pairsBest_250 rfl ?_
      refine r_getRv dX11_pairsBest_251 fl_X11_53 rfl (k_125 hS) (f_125_33 hS) (by decide) ?_
      refine r_iload dX11_pairsBest_254 rfl ?_
      obtain ⟨⟨h0, h1⟩, k⟩ := k
      refine r_iald dX11_pairsBest_256 (Or.inl (k_139 hS)) h0 h1 ?_
      refine r_iload_n dX11_pairsBest_257 rfl ?_
      refine s_callVv (z := mX11_pairs) [vI (s224 139 v3.toNat), vI (s224 139 v4.toNat), vI v1] dX11_pairsBest_258 mv_X11_pairs lk_X11_267 rfl (by decide) (k_125 hS) (Nat.le_of_ble_eq_true rfl) (WPs.mono k (fun r258 s258 k => ?_))
      refine r_iload_n dX11_pairsBest_261 rfl ?_
      refine r_iconst dX11_pairsBest_262 ⟨by decide, by decide⟩ ?_
      refine r_iload_n dX11_pairsBest_263 rfl ?_
      refine r_ishl dX11_pairsBest_264 ?_
      refine r_iconst dX11_pairsBest_265 ⟨by decide, by decide⟩ ?_
      refine r_iload dX11_pairsBest_266 rfl ?_
      refine r_ishl dX11_pairsBest_268 ?_
      refine r_ior dX11_pairsBest_269 ?_
      refine r_iconst dX11_pairsBest_270 ⟨by decide, by decide⟩ ?_
      refine r_ixor dX11_pairsBest_271 ?_
      refine r_iand dX11_pairsBest_272 ?_
      refine r_gen (fun x273 hx273 => ?_)
      have k := k x273 hx273
      refine r_istore_n dX11_pairsBest_273 (by decide) rfl rfl ?_
      refine r_goto (tgt := 170) dX11_pairsBest_274 rfl ?_
      refine r_loc [0, 1, 2] rfl ?_
      exact k
    · have k := k.2 h
      obtain ⟨h, k⟩ := k
      refine r_iinc dX11_pairsBest_237 rfl (by decide) rfl rfl h ?_
      refine r_goto (tgt := 184) dX11_pairsBest_240 rfl ?_
      exact k
theorem e_X11_nextWay {v1 : Int} {S : ShT} {σ : StT} {Q : Int → StT → Prop} (hS : SHP S) (k : AWs mX11_nextWay 2 [(0, vR 125), (1, vI v1), (2, vI 0)] [] S σ Q) : WPs mX11_nextWay [vR 125, vI v1] S σ Q := by
  refine s_entry (by decide) (Nat.le_of_ble_eq_true rfl) rfl rfl ?_
  refine r_iconst dX11_nextWay_0 ⟨by decide, by decide⟩ ?_
  refine r_istore_n dX11_nextWay_1 (by decide) rfl rfl ?_
  exact k
theorem t_X11_nextWay_2 {v1 v2 : Int} {S : ShT} {σ : StT} {Q : Int → StT → Prop} (hS : SHP S) (k : (σ 127 2 ≤ v2 → AWs mX11_nextWay 74 [(0, vR 125), (1, vI v1), (2, vI 0)] [] S σ Q) ∧ (¬ (σ 127 2 ≤ v2) → (0 ≤ v2 ∧ v2 < 24) ∧ ((¬ σ 141 v2.toNat = 0 → AWs mX11_nextWay 37 [(0, vR 125), (1, vI v1), (2, vI v2)] [] S σ Q) ∧ (σ 141 v2.toNat = 0 → inR (2 * v2) ∧ ((0 ≤ 2 * v2 ∧ 2 * v2 < 48) ∧ ((¬ σ 131 (2 * v2).toNat = v1 → AWs mX11_nextWay 37 [(0, vR 125), (1, vI v1), (2, vI v2)] [] S σ Q) ∧ (σ 131 (2 * v2).toNat = v1 → inR (2 * v2) ∧ Q (2 * v2) σ))))))) : AWs mX11_nextWay 2 [(0, vR 125), (1, vI v1), (2, vI v2)] [] S σ Q := by
  refine r_iload_n dX11_nextWay_2 rfl ?_
  refine r_aload_n dX11_nextWay_3 rfl ?_
  refine r_getRv dX11_nextWay_4 fl_X11_17 rfl (k_125 hS) (f_125_6 hS) (by decide) ?_
  refine r_iconst dX11_nextWay_7 ⟨by decide, by decide⟩ ?_
  refine r_iald dX11_nextWay_8 (Or.inl (k_127 hS)) (by decide) (by decide) ?_
  refine r_icmp_ge (tgt := 72) dX11_nextWay_9 rfl (fun h => ?_) (fun h => ?_)
  · have k := k.1 h
    refine r_iconst dX11_nextWay_72 ⟨by decide, by decide⟩ ?_
    refine r_istore_n dX11_nextWay_73 (by decide) rfl rfl ?_
    exact k
  · have k := k.2 h
    refine r_aload_n dX11_nextWay_12 rfl ?_
    refine r_getRv dX11_nextWay_13 fl_X11_59 rfl (k_125 hS) (f_125_36 hS) (by decide) ?_
    refine r_iload_n dX11_nextWay_16 rfl ?_
    obtain ⟨⟨h0, h1⟩, k⟩ := k
    refine r_zald dX11_nextWay_17 (k_141 hS) h0 h1 ?_
    refine r_if_ne (tgt := 37) dX11_nextWay_18 rfl (fun h => ?_) (fun h => ?_)
    · have k := k.1 h
      exact k
    · have k := k.2 h
      refine r_aload_n dX11_nextWay_21 rfl ?_
      refine r_getRv dX11_nextWay_22 fl_X11_29 rfl (k_125 hS) (f_125_22 hS) (by decide) ?_
      refine r_iconst dX11_nextWay_25 ⟨by decide, by decide⟩ ?_
      refine r_iload_n dX11_nextWay_26 rfl ?_
      obtain ⟨h, k⟩ := k
      refine r_imul dX11_nextWay_27 h ?_
      obtain ⟨⟨h0, h1⟩, k⟩ := k
      refine r_iald dX11_nextWay_28 (Or.inl (k_131 hS)) h0 h1 ?_
      refine r_iload_n dX11_nextWay_29 rfl ?_
      refine r_icmp_ne (tgt := 37) dX11_nextWay_30 rfl (fun h => ?_) (fun h => ?_)
      · have k := k.1 h
        exact k
      · have k := k.2 h
        refine r_iconst dX11_nextWay_33 ⟨by decide, by decide⟩ ?_
        refine r_iload_n dX11_nextWay_34 rfl ?_
        obtain ⟨h, k⟩ := k
        refine r_imul dX11_nextWay_35 h ?_
        exact s_iret dX11_nextWay_36 rfl k
theorem t_X11_nextWay_37 {v1 v2 : Int} {S : ShT} {σ : StT} {Q : Int → StT → Prop} (hS : SHP S) (k : (0 ≤ v2 ∧ v2 < 24) ∧ ((¬ σ 141 v2.toNat = 0 → inR (v2 + 1) ∧ AWs mX11_nextWay 2 [(0, vR 125), (1, vI v1), (2, vI (v2 + 1))] [] S σ Q) ∧ (σ 141 v2.toNat = 0 → inR (2 * v2) ∧ inR ((2 * v2) + 1) ∧ ((0 ≤ (2 * v2) + 1 ∧ (2 * v2) + 1 < 48) ∧ ((¬ σ 131 ((2 * v2) + 1).toNat = v1 → inR (v2 + 1) ∧ AWs mX11_nextWay 2 [(0, vR 125), (1, vI v1), (2, vI (v2 + 1))] [] S σ Q) ∧ (σ 131 ((2 * v2) + 1).toNat = v1 → inR (2 * v2) ∧ inR ((2 * v2) + 1) ∧ Q ((2 * v2) + 1) σ)))))) : AWs mX11_nextWay 37 [(0, vR 125), (1, vI v1), (2, vI v2)] [] S σ Q := by
  refine r_aload_n dX11_nextWay_37 rfl ?_
  refine r_getRv dX11_nextWay_38 fl_X11_59 rfl (k_125 hS) (f_125_36 hS) (by decide) ?_
  refine r_iload_n dX11_nextWay_41 rfl ?_
  obtain ⟨⟨h0, h1⟩, k⟩ := k
  refine r_zald dX11_nextWay_42 (k_141 hS) h0 h1 ?_
  refine r_if_ne (tgt := 66) dX11_nextWay_43 rfl (fun h => ?_) (fun h => ?_)
  · have k := k.1 h
    obtain ⟨h, k⟩ := k
    refine r_iinc dX11_nextWay_66 rfl (by decide) rfl rfl h ?_
    refine r_goto (tgt := 2) dX11_nextWay_69 rfl ?_
    exact k
  · have k := k.2 h
    refine r_aload_n dX11_nextWay_46 rfl ?_
    refine r_getRv dX11_nextWay_47 fl_X11_29 rfl (k_125 hS) (f_125_22 hS) (by decide) ?_
    refine r_iconst dX11_nextWay_50 ⟨by decide, by decide⟩ ?_
    refine r_iload_n dX11_nextWay_51 rfl ?_
    obtain ⟨h, k⟩ := k
    refine r_imul dX11_nextWay_52 h ?_
    refine r_iconst dX11_nextWay_53 ⟨by decide, by decide⟩ ?_
    obtain ⟨h, k⟩ := k
    refine r_iadd dX11_nextWay_54 h ?_
    obtain ⟨⟨h0, h1⟩, k⟩ := k
    refine r_iald dX11_nextWay_55 (Or.inl (k_131 hS)) h0 h1 ?_
    refine r_iload_n dX11_nextWay_56 rfl ?_
    refine r_icmp_ne (tgt := 66) dX11_nextWay_57 rfl (fun h => ?_) (fun h => ?_)
    · have k := k.1 h
      obtain ⟨h, k⟩ := k
      refine r_iinc dX11_nextWay_66 rfl (by decide) rfl rfl h ?_
      refine r_goto (tgt := 2) dX11_nextWay_69 rfl ?_
      exact k
    · have k := k.2 h
      refine r_iconst dX11_nextWay_60 ⟨by decide, by decide⟩ ?_
      refine r_iload_n dX11_nextWay_61 rfl ?_
      obtain ⟨h, k⟩ := k
      refine r_imul dX11_nextWay_62 h ?_
      refine r_iconst dX11_nextWay_63 ⟨by decide, by decide⟩ ?_
      obtain ⟨h, k⟩ := k
      refine r_iadd dX11_nextWay_64 h ?_
      exact s_iret dX11_nextWay_65 rfl k
theorem t_X11_nextWay_74 {v1 v2 : Int} {S : ShT} {σ : StT} {Q : Int → StT → Prop} (hS : SHP S) (k : (σ 125 31 ≤ v2 → Q (-2) σ) ∧ (¬ (σ 125 31 ≤ v2) → (0 ≤ v2 ∧ v2 < 24) ∧ ((σ 135 v2.toNat = v1 → AWs mX11_nextWay 102 [(0, vR 125), (1, vI v1), (2, vI v2)] [] S σ Q) ∧ (¬ (σ 135 v2.toNat = v1) → (0 ≤ v2 ∧ v2 < 24) ∧ ((¬ σ 136 v2.toNat = v1 → inR (v2 + 1) ∧ AWs mX11_nextWay 74 [(0, vR 125), (1, vI v1), (2, vI (v2 + 1))] [] S σ Q) ∧ (σ 136 v2.toNat = v1 → AWs mX11_nextWay 102 [(0, vR 125), (1, vI v1), (2, vI v2)] [] S σ Q)))))) : AWs mX11_nextWay 74 [(0, vR 125), (1, vI v1), (2, vI v2)] [] S σ Q := by
  refine r_iload_n dX11_nextWay_74 rfl ?_
  refine r_aload_n dX11_nextWay_75 rfl ?_
  refine r_getIv dX11_nextWay_76 fl_X11_258 rfl (k_125 hS) ?_
  refine r_icmp_ge (tgt := 147) dX11_nextWay_79 rfl (fun h => ?_) (fun h => ?_)
  · have k := k.1 h
    refine r_bipush dX11_nextWay_147 (by decide +kernel) ⟨by decide, by decide⟩ ?_
    exact s_iret dX11_nextWay_149 rfl k
  · have k := k.2 h
    refine r_aload_n dX11_nextWay_82 rfl ?_
    refine r_getRv dX11_nextWay_83 fl_X11_41 rfl (k_125 hS) (f_125_28 hS) (by decide) ?_
    refine r_iload_n dX11_nextWay_86 rfl ?_
    obtain ⟨⟨h0, h1⟩, k⟩ := k
    refine r_iald dX11_nextWay_87 (Or.inl (k_135 hS)) h0 h1 ?_
    refine r_iload_n dX11_nextWay_88 rfl ?_
    refine r_icmp_eq (tgt := 102) dX11_nextWay_89 rfl (fun h => ?_) (fun h => ?_)
    · have k := k.1 h
      exact k
    · have k := k.2 h
      refine r_aload_n dX11_nextWay_92 rfl ?_
      refine r_getRv dX11_nextWay_93 fl_X11_44 rfl (k_125 hS) (f_125_29 hS) (by decide) ?_
      refine r_iload_n dX11_nextWay_96 rfl ?_
      obtain ⟨⟨h0, h1⟩, k⟩ := k
      refine r_iald dX11_nextWay_97 (Or.inl (k_136 hS)) h0 h1 ?_
      refine r_iload_n dX11_nextWay_98 rfl ?_
      refine r_icmp_ne (tgt := 106) dX11_nextWay_99 rfl (fun h => ?_) (fun h => ?_)
      · have k := k.1 h
        refine r_iconst dX11_nextWay_106 ⟨by decide, by decide⟩ ?_
        refine r_istore_n dX11_nextWay_107 (by decide) rfl rfl ?_
        refine r_iload_n dX11_nextWay_108 rfl ?_
        refine r_if_eq (tgt := 141) dX11_nextWay_109 rfl (fun h => ?_) (fun h => ?_)
        · skip
          obtain ⟨h, k⟩ := k
          refine r_iinc dX11_nextWay_141 rfl (by decide) rfl rfl h ?_
          refine r_goto (tgt := 74) dX11_nextWay_144 rfl ?_
          refine r_loc [0, 1, 2] rfl ?_
          exact k
        · exact absurd (by decide) h
      · have k := k.2 h
        exact k
theorem t_X11_nextWay_102 {v1 v2 : Int} {S : ShT} {σ : StT} {Q : Int → StT → Prop} (hS : SHP S) (k : (0 ≤ v2 ∧ v2 < 24) ∧ ((¬ σ 142 v2.toNat = 0 → inR (v2 + 1) ∧ AWs mX11_nextWay 74 [(0, vR 125), (1, vI v1), (2, vI (v2 + 1))] [] S σ Q) ∧ (σ 142 v2.toNat = 0 → (0 ≤ v2 ∧ v2 < 24) ∧ ((0 ≤ σ 137 v2.toNat ∧ σ 137 v2.toNat < 48) ∧ ((σ 138 (σ 137 v2.toNat).toNat = v2 → inR (v2 + 1) ∧ AWs mX11_nextWay 74 [(0, vR 125), (1, vI v1), (2, vI (v2 + 1))] [] S σ Q) ∧ (¬ (σ 138 (σ 137 v2.toNat).toNat = v2) → inR ((-3) - v2) ∧ Q ((-3) - v2) σ)))))) : AWs mX11_nextWay 102 [(0, vR 125), (1, vI v1), (2, vI v2)] [] S σ Q := by
  refine r_iconst dX11_nextWay_102 ⟨by decide, by decide⟩ ?_
  refine r_goto (tgt := 107) dX11_nextWay_103 rfl ?_
  refine r_istore_n dX11_nextWay_107 (by decide) rfl rfl ?_
  refine r_iload_n dX11_nextWay_108 rfl ?_
  refine r_if_eq (tgt := 141) dX11_nextWay_109 rfl (fun h => ?_) (fun h => ?_)
  · exact absurd h (by decide)
  · skip
    refine r_aload_n dX11_nextWay_112 rfl ?_
    refine r_getRv dX11_nextWay_113 fl_X11_63 rfl (k_125 hS) (f_125_37 hS) (by decide) ?_
    refine r_iload_n dX11_nextWay_116 rfl ?_
    obtain ⟨⟨h0, h1⟩, k⟩ := k
    refine r_zald dX11_nextWay_117 (k_142 hS) h0 h1 ?_
    refine r_if_ne (tgt := 141) dX11_nextWay_118 rfl (fun h => ?_) (fun h => ?_)
    · have k := k.1 h
      obtain ⟨h, k⟩ := k
      refine r_iinc dX11_nextWay_141 rfl (by decide) rfl rfl h ?_
      refine r_goto (tgt := 74) dX11_nextWay_144 rfl ?_
      refine r_loc [0, 1, 2] rfl ?_
      exact k
    · have k := k.2 h
      refine r_aload_n dX11_nextWay_121 rfl ?_
      refine r_getRv dX11_nextWay_122 fl_X11_50 rfl (k_125 hS) (f_125_32 hS) (by decide) ?_
      refine r_aload_n dX11_nextWay_125 rfl ?_
      refine r_getRv dX11_nextWay_126 fl_X11_47 rfl (k_125 hS) (f_125_30 hS) (by decide) ?_
      refine r_iload_n dX11_nextWay_129 rfl ?_
      obtain ⟨⟨h0, h1⟩, k⟩ := k
      refine r_iald dX11_nextWay_130 (Or.inl (k_137 hS)) h0 h1 ?_
      obtain ⟨⟨h0, h1⟩, k⟩ := k
      refine r_iald dX11_nextWay_131 (Or.inl (k_138 hS)) h0 h1 ?_
      refine r_iload_n dX11_nextWay_132 rfl ?_
      refine r_icmp_eq (tgt := 141) dX11_nextWay_133 rfl (fun h => ?_) (fun h => ?_)
      · have k := k.1 h
        obtain ⟨h, k⟩ := k
        refine r_iinc dX11_nextWay_141 rfl (by decide) rfl rfl h ?_
        refine r_goto (tgt := 74) dX11_nextWay_144 rfl ?_
        refine r_loc [0, 1, 2] rfl ?_
        exact k
      · have k := k.2 h
        refine r_bipush dX11_nextWay_136 (by decide +kernel) ⟨by decide, by decide⟩ ?_
        refine r_iload_n dX11_nextWay_138 rfl ?_
        obtain ⟨h, k⟩ := k
        refine r_isub dX11_nextWay_139 h ?_
        exact s_iret dX11_nextWay_140 rfl k
theorem e_X11_across {v1 v2 : Int} {S : ShT} {σ : StT} {Q : Int → StT → Prop} (hS : SHP S) (k : (v1 < 0 → inR ((-3) - v1) ∧ ((0 ≤ (-3) - v1 ∧ (-3) - v1 < 24) ∧ ((¬ σ 135 ((-3) - v1).toNat = v2 → (0 ≤ (-3) - v1 ∧ (-3) - v1 < 24) ∧ Q (σ 135 ((-3) - v1).toNat) σ) ∧ (σ 135 ((-3) - v1).toNat = v2 → (0 ≤ (-3) - v1 ∧ (-3) - v1 < 24) ∧ Q (σ 136 ((-3) - v1).toNat) σ)))) ∧ (¬ (v1 < 0) → 0 ≤ v1 ∧ ((¬ v1 % 2 = 0 → inR (v1 - 1) ∧ (0 ≤ v1 - 1 ∧ v1 - 1 < 48) ∧ Q (σ 131 (v1 - 1).toNat) σ) ∧ (v1 % 2 = 0 → inR (v1 + 1) ∧ (0 ≤ v1 + 1 ∧ v1 + 1 < 48) ∧ Q (σ 131 (v1 + 1).toNat) σ)))) : WPs mX11_across [vR 125, vI v1, vI v2] S σ Q := by
  refine s_entry (by decide) (Nat.le_of_ble_eq_true rfl) rfl rfl ?_
  refine r_iload_n dX11_across_0 rfl ?_
  refine r_if_lt (tgt := 25) dX11_across_1 rfl (fun h => ?_) (fun h => ?_)
  · have k := k.1 h
    refine r_bipush dX11_across_25 (by decide +kernel) ⟨by decide, by decide⟩ ?_
    refine r_iload_n dX11_across_27 rfl ?_
    obtain ⟨h, k⟩ := k
    refine r_isub dX11_across_28 h ?_
    refine r_istore_n dX11_across_29 (by decide) rfl rfl ?_
    refine r_aload_n dX11_across_30 rfl ?_
    refine r_getRv dX11_across_31 fl_X11_41 rfl (k_125 hS) (f_125_28 hS) (by decide) ?_
    refine r_iload_n dX11_across_34 rfl ?_
    obtain ⟨⟨h0, h1⟩, k⟩ := k
    refine r_iald dX11_across_35 (Or.inl (k_135 hS)) h0 h1 ?_
    refine r_iload_n dX11_across_36 rfl ?_
    refine r_icmp_ne (tgt := 49) dX11_across_37 rfl (fun h => ?_) (fun h => ?_)
    · have k := k.1 h
      refine r_aload_n dX11_across_49 rfl ?_
      refine r_getRv dX11_across_50 fl_X11_41 rfl (k_125 hS) (f_125_28 hS) (by decide) ?_
      refine r_iload_n dX11_across_53 rfl ?_
      obtain ⟨⟨h0, h1⟩, k⟩ := k
      refine r_iald dX11_across_54 (Or.inl (k_135 hS)) h0 h1 ?_
      exact s_iret dX11_across_55 rfl k
    · have k := k.2 h
      refine r_aload_n dX11_across_40 rfl ?_
      refine r_getRv dX11_across_41 fl_X11_44 rfl (k_125 hS) (f_125_29 hS) (by decide) ?_
      refine r_iload_n dX11_across_44 rfl ?_
      obtain ⟨⟨h0, h1⟩, k⟩ := k
      refine r_iald dX11_across_45 (Or.inl (k_136 hS)) h0 h1 ?_
      refine r_goto (tgt := 55) dX11_across_46 rfl ?_
      exact s_iret dX11_across_55 rfl k
  · have k := k.2 h
    refine r_aload_n dX11_across_4 rfl ?_
    refine r_getRv dX11_across_5 fl_X11_29 rfl (k_125 hS) (f_125_22 hS) (by decide) ?_
    refine r_iload_n dX11_across_8 rfl ?_
    refine r_iconst dX11_across_9 ⟨by decide, by decide⟩ ?_
    obtain ⟨h, k⟩ := k
    refine r_irem dX11_across_10 h (by decide) ?_
    refine r_if_ne (tgt := 20) dX11_across_11 rfl (fun h => ?_) (fun h => ?_)
    · have k := k.1 h
      refine r_iload_n dX11_across_20 rfl ?_
      refine r_iconst dX11_across_21 ⟨by decide, by decide⟩ ?_
      obtain ⟨h, k⟩ := k
      refine r_isub dX11_across_22 h ?_
      obtain ⟨⟨h0, h1⟩, k⟩ := k
      refine r_iald dX11_across_23 (Or.inl (k_131 hS)) h0 h1 ?_
      exact s_iret dX11_across_24 rfl k
    · have k := k.2 h
      refine r_iload_n dX11_across_14 rfl ?_
      refine r_iconst dX11_across_15 ⟨by decide, by decide⟩ ?_
      obtain ⟨h, k⟩ := k
      refine r_iadd dX11_across_16 h ?_
      refine r_goto (tgt := 23) dX11_across_17 rfl ?_
      obtain ⟨⟨h0, h1⟩, k⟩ := k
      refine r_iald dX11_across_23 (Or.inl (k_131 hS)) h0 h1 ?_
      exact s_iret dX11_across_24 rfl k
theorem e_X11_goesFrom {v1 : Int} {S : ShT} {σ : StT} {Q : Int → StT → Prop} (hS : SHP S) (k : (0 ≤ v1 ∧ v1 < 49) ∧ ∀ x6 : Int, x6 = σ 144 v1.toNat → WPs mX11_nextWay [vR 125, vI x6] S σ (fun r11 s11 => AWs mX11_goesFrom 16 [(0, vR 125), (1, vI v1), (2, vI x6), (3, vI 0), (4, vI r11)] [] S s11 Q)) : WPs mX11_goesFrom [vR 125, vI v1] S σ Q := by
  refine s_entry (by decide) (Nat.le_of_ble_eq_true rfl) rfl rfl ?_
  refine r_aload_n dX11_goesFrom_0 rfl ?_
  refine r_getRv dX11_goesFrom_1 fl_X11_69 rfl (k_125 hS) (f_125_39 hS) (by decide) ?_
  refine r_iload_n dX11_goesFrom_4 rfl ?_
  obtain ⟨⟨h0, h1⟩, k⟩ := k
  refine r_iald dX11_goesFrom_5 (Or.inl (k_144 hS)) h0 h1 ?_
  refine r_gen (fun x6 hx6 => ?_)
  have k := k x6 hx6
  refine r_istore_n dX11_goesFrom_6 (by decide) rfl rfl ?_
  refine r_iconst dX11_goesFrom_7 ⟨by decide, by decide⟩ ?_
  refine r_istore_n dX11_goesFrom_8 (by decide) rfl rfl ?_
  refine r_aload_n dX11_goesFrom_9 rfl ?_
  refine r_iload_n dX11_goesFrom_10 rfl ?_
  refine s_callVv (z := mX11_nextWay) [vI x6] dX11_goesFrom_11 mv_X11_nextWay lk_X11_284 rfl (by decide) (k_125 hS) (Nat.le_of_ble_eq_true rfl) (WPs.mono k (fun r11 s11 k => ?_))
  refine r_istore dX11_goesFrom_14 (by decide) rfl rfl ?_
  exact k
theorem t_X11_goesFrom_16 {v1 v2 v3 v4 : Int} {S : ShT} {σ : StT} {Q : Int → StT → Prop} (hS : SHP S) (k : (v4 = -2 → AWs mX11_goesFrom 94 [(0, vR 125), (1, vI v1), (2, vI v2), (3, vI v3), (5, vI (σ 125 40))] [] S σ Q) ∧ (¬ (v4 = -2) → (0 ≤ v3 ∧ v3 < 48) ∧ ((0 ≤ v3 ∧ v3 < 49) ∧ inR (v3 + 1) ∧ ((v4 < 0 → inR ((-3) - v4) ∧ (0 ≤ (-3) - v4 ∧ (-3) - v4 < 24) ∧ AWs mX11_goesFrom 70 [(0, vR 125), (1, vI v1), (2, vI v2), (3, vI (v3 + 1)), (4, vI v4)] [] S (up2 (up2 (up2 σ 145 v3.toNat v4) 146 v3.toNat v2) 142 ((-3) - v4).toNat 1) Q) ∧ (¬ (v4 < 0) → 0 ≤ v4 ∧ (0 ≤ v4 / 2 ∧ v4 / 2 < 24) ∧ AWs mX11_goesFrom 70 [(0, vR 125), (1, vI v1), (2, vI v2), (3, vI (v3 + 1)), (4, vI v4)] [] S (up2 (up2 (up2 σ 145 v3.toNat v4) 146 v3.toNat v2) 141 (v4 / 2).toNat 1) Q))))) : AWs mX11_goesFrom 16 [(0, vR 125), (1, vI v1), (2, vI v2), (3, vI v3), (4, vI v4)] [] S σ Q := by
  refine r_iload dX11_goesFrom_16 rfl ?_
  refine r_bipush dX11_goesFrom_18 (by decide +kernel) ⟨by decide, by decide⟩ ?_
  refine r_icmp_eq (tgt := 88) dX11_goesFrom_20 rfl (fun h => ?_) (fun h => ?_)
  · have k := k.1 h
    refine r_aload_n dX11_goesFrom_88 rfl ?_
    refine r_getIv dX11_goesFrom_89 fl_X11_290 rfl (k_125 hS) ?_
    refine r_istore dX11_goesFrom_92 (by decide) rfl rfl ?_
    refine r_loc [0, 1, 2, 3, 5] rfl ?_
    exact k
  · have k := k.2 h
    refine r_aload_n dX11_goesFrom_23 rfl ?_
    refine r_getRv dX11_goesFrom_24 fl_X11_72 rfl (k_125 hS) (f_125_41 hS) (by decide) ?_
    refine r_iload_n dX11_goesFrom_27 rfl ?_
    refine r_iload dX11_goesFrom_28 rfl ?_
    obtain ⟨⟨h0, h1⟩, k⟩ := k
    refine r_iast dX11_goesFrom_30 (k_145 hS) h0 h1 ?_
    refine r_aload_n dX11_goesFrom_31 rfl ?_
    refine r_getRv dX11_goesFrom_32 fl_X11_75 rfl (k_125 hS) (f_125_42 hS) (by decide) ?_
    refine r_iload_n dX11_goesFrom_35 rfl ?_
    refine r_iload_n dX11_goesFrom_36 rfl ?_
    obtain ⟨⟨h0, h1⟩, k⟩ := k
    refine r_iast dX11_goesFrom_37 (k_146 hS) h0 h1 ?_
    obtain ⟨h, k⟩ := k
    refine r_iinc dX11_goesFrom_38 rfl (by decide) rfl rfl h ?_
    refine r_iload dX11_goesFrom_41 rfl ?_
    refine r_if_lt (tgt := 59) dX11_goesFrom_43 rfl (fun h => ?_) (fun h => ?_)
    · have k := k.1 h
      refine r_aload_n dX11_goesFrom_59 rfl ?_
      refine r_getRv dX11_goesFrom_60 fl_X11_63 rfl (k_125 hS) (f_125_37 hS) (by decide) ?_
      refine r_bipush dX11_goesFrom_63 (by decide +kernel) ⟨by decide, by decide⟩ ?_
      refine r_iload dX11_goesFrom_65 rfl ?_
      obtain ⟨h, k⟩ := k
      refine r_isub dX11_goesFrom_67 h ?_
      refine r_iconst dX11_goesFrom_68 ⟨by decide, by decide⟩ ?_
      obtain ⟨⟨h0, h1⟩, k⟩ := k
      refine r_zast dX11_goesFrom_69 (k_142 hS) (by decide) h0 h1 ?_
      exact k
    · have k := k.2 h
      refine r_aload_n dX11_goesFrom_46 rfl ?_
      refine r_getRv dX11_goesFrom_47 fl_X11_59 rfl (k_125 hS) (f_125_36 hS) (by decide) ?_
      refine r_iload dX11_goesFrom_50 rfl ?_
      refine r_iconst dX11_goesFrom_52 ⟨by decide, by decide⟩ ?_
      obtain ⟨h, k⟩ := k
      refine r_idiv dX11_goesFrom_53 h (by decide) ?_
      refine r_iconst dX11_goesFrom_54 ⟨by decide, by decide⟩ ?_
      obtain ⟨⟨h0, h1⟩, k⟩ := k
      refine r_zast dX11_goesFrom_55 (k_141 hS) (by decide) h0 h1 ?_
      refine r_goto (tgt := 70) dX11_goesFrom_56 rfl ?_
      exact k
theorem t_X11_goesFrom_70 {v1 v2 v3 v4 : Int} {S : ShT} {σ : StT} {Q : Int → StT → Prop} (hS : SHP S) (k : WPs mX11_across [vR 125, vI v4, vI v2] S σ (fun r74 s74 => WPs mX11_nextWay [vR 125, vI r74] S s74 (fun r80 s80 => AWs mX11_goesFrom 16 [(0, vR 125), (1, vI v1), (2, vI r74), (3, vI v3), (4, vI r80)] [] S s80 Q))) : AWs mX11_goesFrom 70 [(0, vR 125), (1, vI v1), (2, vI v2), (3, vI v3), (4, vI v4)] [] S σ Q := by
  refine r_aload_n dX11_goesFrom_70 rfl ?_
  refine r_iload dX11_goesFrom_71 rfl ?_
  refine r_iload_n dX11_goesFrom_73 rfl ?_
  refine s_callVv (z := mX11_across) [vI v4, vI v2] dX11_goesFrom_74 mv_X11_across lk_X11_287 rfl (by decide) (k_125 hS) (Nat.le_of_ble_eq_true rfl) (WPs.mono k (fun r74 s74 k => ?_))
  refine r_istore_n dX11_goesFrom_77 (by decide) rfl rfl ?_
  refine r_aload_n dX11_goesFrom_78 rfl ?_
  refine r_iload_n dX11_goesFrom_79 rfl ?_
  refine s_callVv (z := mX11_nextWay) [vI r74] dX11_goesFrom_80 mv_X11_nextWay lk_X11_284 rfl (by decide) (k_125 hS) (Nat.le_of_ble_eq_true rfl) (WPs.mono k (fun r80 s80 k => ?_))
  refine r_istore dX11_goesFrom_83 (by decide) rfl rfl ?_
  refine r_goto (tgt := 16) dX11_goesFrom_85 rfl ?_
  exact k
theorem t_X11_goesFrom_94 {v1 v2 v3 v5 : Int} {S : ShT} {σ : StT} {Q : Int → StT → Prop} (hS : SHP S) (k : (v5 < v1 → inR ((σ 125 40) - 1) ∧ ∀ x128 : Int, x128 = (σ 125 40) - 1 → AWs mX11_goesFrom 130 [(0, vR 125), (1, vI v1), (2, vI v2), (3, vI v3), (5, vI x128)] [] S σ Q) ∧ (¬ (v5 < v1) → inR (v5 + v3) ∧ (0 ≤ v5 ∧ v5 < 49) ∧ (0 ≤ v5 + v3 ∧ v5 + v3 < 49) ∧ inR (v5 + -1) ∧ AWs mX11_goesFrom 94 [(0, vR 125), (1, vI v1), (2, vI v2), (3, vI v3), (5, vI (v5 + -1))] [] S (up2 σ 144 (v5 + v3).toNat (σ 144 v5.toNat)) Q)) : AWs mX11_goesFrom 94 [(0, vR 125), (1, vI v1), (2, vI v2), (3, vI v3), (5, vI v5)] [] S σ Q := by
  refine r_iload dX11_goesFrom_94 rfl ?_
  refine r_iload_n dX11_goesFrom_96 rfl ?_
  refine r_icmp_lt (tgt := 122) dX11_goesFrom_97 rfl (fun h => ?_) (fun h => ?_)
  · have k := k.1 h
    refine r_aload_n dX11_goesFrom_122 rfl ?_
    refine r_getIv dX11_goesFrom_123 fl_X11_290 rfl (k_125 hS) ?_
    refine r_iconst dX11_goesFrom_126 ⟨by decide, by decide⟩ ?_
    obtain ⟨h, k⟩ := k
    refine r_isub dX11_goesFrom_127 h ?_
    refine r_gen (fun x128 hx128 => ?_)
    have k := k x128 hx128
    refine r_istore dX11_goesFrom_128 (by decide) rfl rfl ?_
    exact k
  · have k := k.2 h
    refine r_aload_n dX11_goesFrom_100 rfl ?_
    refine r_getRv dX11_goesFrom_101 fl_X11_69 rfl (k_125 hS) (f_125_39 hS) (by decide) ?_
    refine r_iload dX11_goesFrom_104 rfl ?_
    refine r_iload_n dX11_goesFrom_106 rfl ?_
    obtain ⟨h, k⟩ := k
    refine r_iadd dX11_goesFrom_107 h ?_
    refine r_aload_n dX11_goesFrom_108 rfl ?_
    refine r_getRv dX11_goesFrom_109 fl_X11_69 rfl (k_125 hS) (f_125_39 hS) (by decide) ?_
    refine r_iload dX11_goesFrom_112 rfl ?_
    obtain ⟨⟨h0, h1⟩, k⟩ := k
    refine r_iald dX11_goesFrom_114 (Or.inl (k_144 hS)) h0 h1 ?_
    obtain ⟨⟨h0, h1⟩, k⟩ := k
    refine r_iast dX11_goesFrom_115 (k_144 hS) h0 h1 ?_
    obtain ⟨h, k⟩ := k
    refine r_iinc dX11_goesFrom_116 rfl (by decide) rfl rfl h ?_
    refine r_goto (tgt := 94) dX11_goesFrom_119 rfl ?_
    exact k
theorem t_X11_goesFrom_130 {v1 v2 v3 v5 : Int} {S : ShT} {σ : StT} {Q : Int → StT → Prop} (hS : SHP S) (k : (v5 < v1 → AWs mX11_goesFrom 161 [(0, vR 125), (1, vI v1), (2, vI v2), (3, vI v3), (5, vI 0)] [] S σ Q) ∧ (¬ (v5 < v1) → inR (v5 + v3) ∧ (0 ≤ v5 ∧ v5 < 48) ∧ (0 ≤ v5 + v3 ∧ v5 + v3 < 48) ∧ inR (v5 + -1) ∧ AWs mX11_goesFrom 130 [(0, vR 125), (1, vI v1), (2, vI v2), (3, vI v3), (5, vI (v5 + -1))] [] S (up2 σ 143 (v5 + v3).toNat (σ 143 v5.toNat)) Q)) : AWs mX11_goesFrom 130 [(0, vR 125), (1, vI v1), (2, vI v2), (3, vI v3), (5, vI v5)] [] S σ Q := by
  refine r_iload dX11_goesFrom_130 rfl ?_
  refine r_iload_n dX11_goesFrom_132 rfl ?_
  refine r_icmp_lt (tgt := 158) dX11_goesFrom_133 rfl (fun h => ?_) (fun h => ?_)
  · have k := k.1 h
    refine r_iconst dX11_goesFrom_158 ⟨by decide, by decide⟩ ?_
    refine r_istore dX11_goesFrom_159 (by decide) rfl rfl ?_
    exact k
  · have k := k.2 h
    refine r_aload_n dX11_goesFrom_136 rfl ?_
    refine r_getRv dX11_goesFrom_137 fl_X11_66 rfl (k_125 hS) (f_125_38 hS) (by decide) ?_
    refine r_iload dX11_goesFrom_140 rfl ?_
    refine r_iload_n dX11_goesFrom_142 rfl ?_
    obtain ⟨h, k⟩ := k
    refine r_iadd dX11_goesFrom_143 h ?_
    refine r_aload_n dX11_goesFrom_144 rfl ?_
    refine r_getRv dX11_goesFrom_145 fl_X11_66 rfl (k_125 hS) (f_125_38 hS) (by decide) ?_
    refine r_iload dX11_goesFrom_148 rfl ?_
    obtain ⟨⟨h0, h1⟩, k⟩ := k
    refine r_iald dX11_goesFrom_150 (Or.inl (k_143 hS)) h0 h1 ?_
    obtain ⟨⟨h0, h1⟩, k⟩ := k
    refine r_iast dX11_goesFrom_151 (k_143 hS) h0 h1 ?_
    obtain ⟨h, k⟩ := k
    refine r_iinc dX11_goesFrom_152 rfl (by decide) rfl rfl h ?_
    refine r_goto (tgt := 130) dX11_goesFrom_155 rfl ?_
    exact k
theorem t_X11_goesFrom_161 {v1 v2 v3 v5 : Int} {S : ShT} {σ : StT} {Q : Int → StT → Prop} (hS : SHP S) (k : (v3 ≤ v5 → inR ((σ 125 40) + v3) ∧ inR (v1 + v3) ∧ (0 ≤ v1 + v3 ∧ v1 + v3 < 49) ∧ Q 0 (up2 (up2 σ 125 40 ((σ 125 40) + v3)) 144 (v1 + v3).toNat v2)) ∧ (¬ (v3 ≤ v5) → inR (v1 + v5) ∧ (0 ≤ v5 ∧ v5 < 48) ∧ (0 ≤ v1 + v5 ∧ v1 + v5 < 48) ∧ inR (v1 + v5) ∧ (0 ≤ v5 ∧ v5 < 49) ∧ (0 ≤ v1 + v5 ∧ v1 + v5 < 49) ∧ inR (v5 + 1) ∧ AWs mX11_goesFrom 161 [(0, vR 125), (1, vI v1), (2, vI v2), (3, vI v3), (5, vI (v5 + 1))] [] S (up2 (up2 σ 143 (v1 + v5).toNat (σ 145 v5.toNat)) 144 (v1 + v5).toNat (σ 146 v5.toNat)) Q)) : AWs mX11_goesFrom 161 [(0, vR 125), (1, vI v1), (2, vI v2), (3, vI v3), (5, vI v5)] [] S σ Q := by
  refine r_iload dX11_goesFrom_161 rfl ?_
  refine r_iload_n dX11_goesFrom_163 rfl ?_
  refine r_icmp_ge (tgt := 205) dX11_goesFrom_164 rfl (fun h => ?_) (fun h => ?_)
  · have k := k.1 h
    refine r_aload_n dX11_goesFrom_205 rfl ?_
    refine r_dup dX11_goesFrom_206 rfl ?_
    refine r_getIv dX11_goesFrom_207 fl_X11_290 rfl (k_125 hS) ?_
    refine r_iload_n dX11_goesFrom_210 rfl ?_
    obtain ⟨h, k⟩ := k
    refine r_iadd dX11_goesFrom_211 h ?_
    refine r_putIv dX11_goesFrom_212 fl_X11_290 (fun _ h => by cases h; rfl) (Or.inl rfl) (k_125 hS) ?_
    refine r_aload_n dX11_goesFrom_215 rfl ?_
    refine r_getRv dX11_goesFrom_216 fl_X11_69 rfl (k_125 hS) (f_125_39 hS) (by decide) ?_
    refine r_iload_n dX11_goesFrom_219 rfl ?_
    refine r_iload_n dX11_goesFrom_220 rfl ?_
    obtain ⟨h, k⟩ := k
    refine r_iadd dX11_goesFrom_221 h ?_
    refine r_iload_n dX11_goesFrom_222 rfl ?_
    obtain ⟨⟨h0, h1⟩, k⟩ := k
    refine r_iast dX11_goesFrom_223 (k_144 hS) h0 h1 ?_
    exact s_vret dX11_goesFrom_224 rfl k
  · have k := k.2 h
    refine r_aload_n dX11_goesFrom_167 rfl ?_
    refine r_getRv dX11_goesFrom_168 fl_X11_66 rfl (k_125 hS) (f_125_38 hS) (by decide) ?_
    refine r_iload_n dX11_goesFrom_171 rfl ?_
    refine r_iload dX11_goesFrom_172 rfl ?_
    obtain ⟨h, k⟩ := k
    refine r_iadd dX11_goesFrom_174 h ?_
    refine r_aload_n dX11_goesFrom_175 rfl ?_
    refine r_getRv dX11_goesFrom_176 fl_X11_72 rfl (k_125 hS) (f_125_41 hS) (by decide) ?_
    refine r_iload dX11_goesFrom_179 rfl ?_
    obtain ⟨⟨h0, h1⟩, k⟩ := k
    refine r_iald dX11_goesFrom_181 (Or.inl (k_145 hS)) h0 h1 ?_
    obtain ⟨⟨h0, h1⟩, k⟩ := k
    refine r_iast dX11_goesFrom_182 (k_143 hS) h0 h1 ?_
    refine r_aload_n dX11_goesFrom_183 rfl ?_
    refine r_getRv dX11_goesFrom_184 fl_X11_69 rfl (k_125 hS) (f_125_39 hS) (by decide) ?_
    refine r_iload_n dX11_goesFrom_187 rfl ?_
    refine r_iload dX11_goesFrom_188 rfl ?_
    obtain ⟨h, k⟩ := k
    refine r_iadd dX11_goesFrom_190 h ?_
    refine r_aload_n dX11_goesFrom_191 rfl ?_
    refine r_getRv dX11_goesFrom_192 fl_X11_75 rfl (k_125 hS) (f_125_42 hS) (by decide) ?_
    refine r_iload dX11_goesFrom_195 rfl ?_
    obtain ⟨⟨h0, h1⟩, k⟩ := k
    refine r_iald dX11_goesFrom_197 (Or.inl (k_146 hS)) h0 h1 ?_
    refine r_top (up2_a (by decide)) ?_
    obtain ⟨⟨h0, h1⟩, k⟩ := k
    refine r_iast dX11_goesFrom_198 (k_144 hS) h0 h1 ?_
    obtain ⟨h, k⟩ := k
    refine r_iinc dX11_goesFrom_199 rfl (by decide) rfl rfl h ?_
    refine r_goto (tgt := 161) dX11_goesFrom_202 rfl ?_
    exact k
theorem e_X11_walksPart {v1 : Int} {S : ShT} {σ : StT} {Q : Int → StT → Prop} (hS : SHP S) (k : (0 ≤ v1 ∧ v1 < 48) ∧ ((¬ σ 138 v1.toNat = -1 → (0 ≤ v1 ∧ v1 < 48) ∧ ((0 ≤ σ 138 v1.toNat ∧ σ 138 v1.toNat < 24) ∧ ∀ x25 : Int, x25 = σ 135 (σ 138 v1.toNat).toNat → AWs mX11_walksPart 28 [(0, vR 125), (1, vI v1), (2, vI x25), (3, vI 0)] [] S σ Q)) ∧ (σ 138 v1.toNat = -1 → AWs mX11_walksPart 28 [(0, vR 125), (1, vI v1), (2, vI (-1)), (3, vI 0)] [] S σ Q))) : WPs mX11_walksPart [vR 125, vI v1] S σ Q := by
  refine s_entry (by decide) (Nat.le_of_ble_eq_true rfl) rfl rfl ?_
  refine r_aload_n dX11_walksPart_0 rfl ?_
  refine r_getRv dX11_walksPart_1 fl_X11_50 rfl (k_125 hS) (f_125_32 hS) (by decide) ?_
  refine r_iload_n dX11_walksPart_4 rfl ?_
  obtain ⟨⟨h0, h1⟩, k⟩ := k
  refine r_iald dX11_walksPart_5 (Or.inl (k_138 hS)) h0 h1 ?_
  refine r_iconst dX11_walksPart_6 ⟨by decide, by decide⟩ ?_
  refine r_icmp_ne (tgt := 14) dX11_walksPart_7 rfl (fun h => ?_) (fun h => ?_)
  · have k := k.1 h
    refine r_aload_n dX11_walksPart_14 rfl ?_
    refine r_getRv dX11_walksPart_15 fl_X11_41 rfl (k_125 hS) (f_125_28 hS) (by decide) ?_
    refine r_aload_n dX11_walksPart_18 rfl ?_
    refine r_getRv dX11_walksPart_19 fl_X11_50 rfl (k_125 hS) (f_125_32 hS) (by decide) ?_
    refine r_iload_n dX11_walksPart_22 rfl ?_
    obtain ⟨⟨h0, h1⟩, k⟩ := k
    refine r_iald dX11_walksPart_23 (Or.inl (k_138 hS)) h0 h1 ?_
    obtain ⟨⟨h0, h1⟩, k⟩ := k
    refine r_iald dX11_walksPart_24 (Or.inl (k_135 hS)) h0 h1 ?_
    refine r_gen (fun x25 hx25 => ?_)
    have k := k x25 hx25
    refine r_istore_n dX11_walksPart_25 (by decide) rfl rfl ?_
    refine r_iconst dX11_walksPart_26 ⟨by decide, by decide⟩ ?_
    refine r_istore_n dX11_walksPart_27 (by decide) rfl rfl ?_
    exact k
  · have k := k.2 h
    refine r_iconst dX11_walksPart_10 ⟨by decide, by decide⟩ ?_
    refine r_goto (tgt := 25) dX11_walksPart_11 rfl ?_
    refine r_istore_n dX11_walksPart_25 (by decide) rfl rfl ?_
    refine r_iconst dX11_walksPart_26 ⟨by decide, by decide⟩ ?_
    refine r_istore_n dX11_walksPart_27 (by decide) rfl rfl ?_
    exact k
theorem t_X11_walksPart_28 {v1 v2 v3 : Int} {S : ShT} {σ : StT} {Q : Int → StT → Prop} (hS : SHP S) (k : (σ 125 26 ≤ v3 → AWs mX11_walksPart 63 [(0, vR 125), (2, vI v2)] [] S σ Q) ∧ (¬ (σ 125 26 ≤ v3) → (¬ v2 = -1 → AWs mX11_walksPart 63 [(0, vR 125), (2, vI v2)] [] S σ Q) ∧ (v2 = -1 → (0 ≤ v3 ∧ v3 < 48) ∧ ((¬ σ 134 v3.toNat = v1 → inR (v3 + 1) ∧ AWs mX11_walksPart 28 [(0, vR 125), (1, vI v1), (2, vI v2), (3, vI (v3 + 1))] [] S σ Q) ∧ (σ 134 v3.toNat = v1 → inR (v3 + 1) ∧ AWs mX11_walksPart 28 [(0, vR 125), (1, vI v1), (2, vI v3), (3, vI (v3 + 1))] [] S σ Q))))) : AWs mX11_walksPart 28 [(0, vR 125), (1, vI v1), (2, vI v2), (3, vI v3)] [] S σ Q := by
  refine r_iload_n dX11_walksPart_28 rfl ?_
  refine r_aload_n dX11_walksPart_29 rfl ?_
  refine r_getIv dX11_walksPart_30 fl_X11_249 rfl (k_125 hS) ?_
  refine r_icmp_ge (tgt := 63) dX11_walksPart_33 rfl (fun h => ?_) (fun h => ?_)
  · have k := k.1 h
    refine r_loc [0, 2] rfl ?_
    exact k
  · have k := k.2 h
    refine r_iload_n dX11_walksPart_36 rfl ?_
    refine r_iconst dX11_walksPart_37 ⟨by decide, by decide⟩ ?_
    refine r_icmp_ne (tgt := 63) dX11_walksPart_38 rfl (fun h => ?_) (fun h => ?_)
    · have k := k.1 h
      refine r_loc [0, 2] rfl ?_
      exact k
    · have k := k.2 h
      refine r_aload_n dX11_walksPart_41 rfl ?_
      refine r_getRv dX11_walksPart_42 fl_X11_38 rfl (k_125 hS) (f_125_25 hS) (by decide) ?_
      refine r_iload_n dX11_walksPart_45 rfl ?_
      obtain ⟨⟨h0, h1⟩, k⟩ := k
      refine r_iald dX11_walksPart_46 (Or.inl (k_134 hS)) h0 h1 ?_
      refine r_iload_n dX11_walksPart_47 rfl ?_
      refine r_icmp_ne (tgt := 55) dX11_walksPart_48 rfl (fun h => ?_) (fun h => ?_)
      · have k := k.1 h
        refine r_iload_n dX11_walksPart_55 rfl ?_
        refine r_istore_n dX11_walksPart_56 (by decide) rfl rfl ?_
        obtain ⟨h, k⟩ := k
        refine r_iinc dX11_walksPart_57 rfl (by decide) rfl rfl h ?_
        refine r_goto (tgt := 28) dX11_walksPart_60 rfl ?_
        exact k
      · have k := k.2 h
        refine r_iload_n dX11_walksPart_51 rfl ?_
        refine r_goto (tgt := 56) dX11_walksPart_52 rfl ?_
        refine r_istore_n dX11_walksPart_56 (by decide) rfl rfl ?_
        obtain ⟨h, k⟩ := k
        refine r_iinc dX11_walksPart_57 rfl (by decide) rfl rfl h ?_
        refine r_goto (tgt := 28) dX11_walksPart_60 rfl ?_
        exact k
theorem t_X11_walksPart_63 {v2 : Int} {S : ShT} {σ : StT} {Q : Int → StT → Prop} (hS : SHP S) (k : AWs mX11_walksPart 77 [(0, vR 125), (3, vI 0)] [] S (up2 (up2 σ 125 40 0) 144 0 v2) Q) : AWs mX11_walksPart 63 [(0, vR 125), (2, vI v2)] [] S σ Q := by
  refine r_aload_n dX11_walksPart_63 rfl ?_
  refine r_iconst dX11_walksPart_64 ⟨by decide, by decide⟩ ?_
  refine r_putIv dX11_walksPart_65 fl_X11_290 (fun _ h => by cases h; rfl) (Or.inl rfl) (k_125 hS) ?_
  refine r_aload_n dX11_walksPart_68 rfl ?_
  refine r_getRv dX11_walksPart_69 fl_X11_69 rfl (k_125 hS) (f_125_39 hS) (by decide) ?_
  refine r_iconst dX11_walksPart_72 ⟨by decide, by decide⟩ ?_
  refine r_iload_n dX11_walksPart_73 rfl ?_
  refine r_iast dX11_walksPart_74 (k_144 hS) (by decide) (by decide) ?_
  refine r_iconst dX11_walksPart_75 ⟨by decide, by decide⟩ ?_
  refine r_istore_n dX11_walksPart_76 (by decide) rfl rfl ?_
  refine r_loc [0, 2] rfl ?_
  exact k
theorem t_X11_walksPart_77 {v3 : Int} {S : ShT} {σ : StT} {Q : Int → StT → Prop} (hS : SHP S) (k : (σ 125 40 < v3 → Q 0 σ) ∧ (¬ (σ 125 40 < v3) → (0 ≤ v3 ∧ v3 < 49) ∧ WPs mX11_nextWay [vR 125, vI (σ 144 v3.toNat)] S σ (fun r92 s92 => (r92 = -2 → inR (v3 + 1) ∧ AWs mX11_walksPart 77 [(0, vR 125), (3, vI (v3 + 1))] [] S s92 Q) ∧ (¬ (r92 = -2) → WPs mX11_goesFrom [vR 125, vI v3] S s92 (fun r102 s102 => AWs mX11_walksPart 77 [(0, vR 125), (3, vI v3)] [] S s102 Q))))) : AWs mX11_walksPart 77 [(0, vR 125), (3, vI v3)] [] S σ Q := by
  refine r_iload_n dX11_walksPart_77 rfl ?_
  refine r_aload_n dX11_walksPart_78 rfl ?_
  refine r_getIv dX11_walksPart_79 fl_X11_290 rfl (k_125 hS) ?_
  refine r_icmp_gt (tgt := 114) dX11_walksPart_82 rfl (fun h => ?_) (fun h => ?_)
  · have k := k.1 h
    exact s_vret dX11_walksPart_114 rfl k
  · have k := k.2 h
    refine r_aload_n dX11_walksPart_85 rfl ?_
    refine r_aload_n dX11_walksPart_86 rfl ?_
    refine r_getRv dX11_walksPart_87 fl_X11_69 rfl (k_125 hS) (f_125_39 hS) (by decide) ?_
    refine r_iload_n dX11_walksPart_90 rfl ?_
    obtain ⟨⟨h0, h1⟩, k⟩ := k
    refine r_iald dX11_walksPart_91 (Or.inl (k_144 hS)) h0 h1 ?_
    refine s_callVv (z := mX11_nextWay) [vI (σ 144 v3.toNat)] dX11_walksPart_92 mv_X11_nextWay lk_X11_284 rfl (by decide) (k_125 hS) (Nat.le_of_ble_eq_true rfl) (WPs.mono k (fun r92 s92 k => ?_))
    refine r_bipush dX11_walksPart_95 (by decide +kernel) ⟨by decide, by decide⟩ ?_
    refine r_icmp_eq (tgt := 108) dX11_walksPart_97 rfl (fun h => ?_) (fun h => ?_)
    · have k := k.1 h
      obtain ⟨h, k⟩ := k
      refine r_iinc dX11_walksPart_108 rfl (by decide) rfl rfl h ?_
      refine r_goto (tgt := 77) dX11_walksPart_111 rfl ?_
      exact k
    · have k := k.2 h
      refine r_aload_n dX11_walksPart_100 rfl ?_
      refine r_iload_n dX11_walksPart_101 rfl ?_
      refine s_callVv (z := mX11_goesFrom) [vI v3] dX11_walksPart_102 mv_X11_goesFrom lk_X11_293 rfl (by decide) (k_125 hS) (Nat.le_of_ble_eq_true rfl) (WPs.mono k (fun r102 s102 k => ?_))
      refine r_goto (tgt := 77) dX11_walksPart_105 rfl ?_
      exact k
theorem e_X11_laysTrails {v1 : Int} {S : ShT} {σ : StT} {Q : Int → StT → Prop} (hS : SHP S) (k : (0 ≤ v1 ∧ v1 < 49) ∧ ∀ x6 : Int, x6 = σ 147 v1.toNat → AWs mX11_laysTrails 12 [(0, vR 125), (1, vI v1), (2, vI x6), (3, vI 0), (4, vI 0)] [] S σ Q) : WPs mX11_laysTrails [vR 125, vI v1] S σ Q := by
  refine s_entry (by decide) (Nat.le_of_ble_eq_true rfl) rfl rfl ?_
  refine r_aload_n dX11_laysTrails_0 rfl ?_
  refine r_getRv dX11_laysTrails_1 fl_X11_78 rfl (k_125 hS) (f_125_43 hS) (by decide) ?_
  refine r_iload_n dX11_laysTrails_4 rfl ?_
  obtain ⟨⟨h0, h1⟩, k⟩ := k
  refine r_iald dX11_laysTrails_5 (Or.inl (k_147 hS)) h0 h1 ?_
  refine r_gen (fun x6 hx6 => ?_)
  have k := k x6 hx6
  refine r_istore_n dX11_laysTrails_6 (by decide) rfl rfl ?_
  refine r_iconst dX11_laysTrails_7 ⟨by decide, by decide⟩ ?_
  refine r_istore_n dX11_laysTrails_8 (by decide) rfl rfl ?_
  refine r_iconst dX11_laysTrails_9 ⟨by decide, by decide⟩ ?_
  refine r_istore dX11_laysTrails_10 (by decide) rfl rfl ?_
  exact k
theorem t_X11_laysTrails_12 {v1 v2 v3 v4 : Int} {S : ShT} {σ : StT} {Q : Int → StT → Prop} (hS : SHP S) (k : (σ 125 40 ≤ v4 → inR (v1 + 1) ∧ inR (v2 + (σ 125 40)) ∧ (0 ≤ v1 + 1 ∧ v1 + 1 < 49) ∧ Q 0 (up2 σ 147 (v1 + 1).toNat (v2 + (σ 125 40)))) ∧ (¬ (σ 125 40 ≤ v4) → inR (v2 + v4) ∧ ((0 ≤ v4 ∧ v4 < 48) ∧ ((0 ≤ v2 + v4 ∧ v2 + v4 < 48) ∧ ((0 ≤ v4 ∧ v4 < 48) ∧ ((0 ≤ σ 143 v4.toNat → (¬ v3 = 0 → AWs mX11_laysTrails 117 [(0, vR 125), (1, vI v1), (2, vI v2), (3, vI v3), (4, vI v4)] [] S (up2 σ 148 (v2 + v4).toNat (σ 143 v4.toNat)) Q) ∧ (v3 = 0 → (0 ≤ σ 125 50 ∧ σ 125 50 < 24) ∧ inR (v2 + v4) ∧ (0 ≤ σ 125 50 ∧ σ 125 50 < 24) ∧ (0 ≤ σ 125 50 ∧ σ 125 50 < 24) ∧ (0 ≤ v4 ∧ v4 < 49) ∧ (0 ≤ σ 125 50 ∧ σ 125 50 < 24) ∧ inR ((σ 125 50) + 1) ∧ AWs mX11_laysTrails 117 [(0, vR 125), (1, vI v1), (2, vI v2), (3, vI 1), (4, vI v4)] [] S (up2 (up2 (up2 (up2 (up2 (up2 σ 148 (v2 + v4).toNat (σ 143 v4.toNat)) 149 (σ 125 50).toNat v1) 150 (σ 125 50).toNat (v2 + v4)) 151 (σ 125 50).toNat 0) 152 (σ 125 50).toNat (σ 144 v4.toNat)) 125 50 ((σ 125 50) + 1)) Q)) ∧ (¬ (0 ≤ σ 143 v4.toNat) → inR (v4 + 1) ∧ AWs mX11_laysTrails 12 [(0, vR 125), (1, vI v1), (2, vI v2), (3, vI 0), (4, vI (v4 + 1))] [] S (up2 σ 148 (v2 + v4).toNat (σ 143 v4.toNat)) Q))))))) : AWs mX11_laysTrails 12 [(0, vR 125), (1, vI v1), (2, vI v2), (3, vI v3), (4, vI v4)] [] S σ Q := by
  refine r_iload dX11_laysTrails_12 rfl ?_
  refine r_aload_n dX11_laysTrails_14 rfl ?_
  refine r_getIv dX11_laysTrails_15 fl_X11_290 rfl (k_125 hS) ?_
  refine r_icmp_ge (tgt := 158) dX11_laysTrails_18 rfl (fun h => ?_) (fun h => ?_)
  · have k := k.1 h
    refine r_aload_n dX11_laysTrails_158 rfl ?_
    refine r_getRv dX11_laysTrails_159 fl_X11_78 rfl (k_125 hS) (f_125_43 hS) (by decide) ?_
    refine r_iload_n dX11_laysTrails_162 rfl ?_
    refine r_iconst dX11_laysTrails_163 ⟨by decide, by decide⟩ ?_
    obtain ⟨h, k⟩ := k
    refine r_iadd dX11_laysTrails_164 h ?_
    refine r_iload_n dX11_laysTrails_165 rfl ?_
    refine r_aload_n dX11_laysTrails_166 rfl ?_
    refine r_getIv dX11_laysTrails_167 fl_X11_290 rfl (k_125 hS) ?_
    obtain ⟨h, k⟩ := k
    refine r_iadd dX11_laysTrails_170 h ?_
    obtain ⟨⟨h0, h1⟩, k⟩ := k
    refine r_iast dX11_laysTrails_171 (k_147 hS) h0 h1 ?_
    exact s_vret dX11_laysTrails_172 rfl k
  · have k := k.2 h
    refine r_aload_n dX11_laysTrails_21 rfl ?_
    refine r_getRv dX11_laysTrails_22 fl_X11_81 rfl (k_125 hS) (f_125_44 hS) (by decide) ?_
    refine r_iload_n dX11_laysTrails_25 rfl ?_
    refine r_iload dX11_laysTrails_26 rfl ?_
    obtain ⟨h, k⟩ := k
    refine r_iadd dX11_laysTrails_28 h ?_
    refine r_aload_n dX11_laysTrails_29 rfl ?_
    refine r_getRv dX11_laysTrails_30 fl_X11_66 rfl (k_125 hS) (f_125_38 hS) (by decide) ?_
    refine r_iload dX11_laysTrails_33 rfl ?_
    obtain ⟨⟨h0, h1⟩, k⟩ := k
    refine r_iald dX11_laysTrails_35 (Or.inl (k_143 hS)) h0 h1 ?_
    obtain ⟨⟨h0, h1⟩, k⟩ := k
    refine r_iast dX11_laysTrails_36 (k_148 hS) h0 h1 ?_
    refine r_aload_n dX11_laysTrails_37 rfl ?_
    refine r_getRv dX11_laysTrails_38 fl_X11_66 rfl (k_125 hS) (f_125_38 hS) (by decide) ?_
    refine r_iload dX11_laysTrails_41 rfl ?_
    obtain ⟨⟨h0, h1⟩, k⟩ := k
    refine r_iald dX11_laysTrails_43 (Or.inl (k_143 hS)) h0 h1 ?_
    refine r_top (up2_a (by decide)) ?_
    refine r_if_ge (tgt := 52) dX11_laysTrails_44 rfl (fun h => ?_) (fun h => ?_)
    · have k := k.1 h
      refine r_iload_n dX11_laysTrails_52 rfl ?_
      refine r_if_ne (tgt := 117) dX11_laysTrails_53 rfl (fun h => ?_) (fun h => ?_)
      · have k := k.1 h
        exact k
      · have k := k.2 h
        refine r_aload_n dX11_laysTrails_56 rfl ?_
        refine r_getRv dX11_laysTrails_57 fl_X11_84 rfl (k_125 hS) (f_125_45 hS) (by decide) ?_
        refine r_aload_n dX11_laysTrails_60 rfl ?_
        refine r_getIv dX11_laysTrails_61 fl_X11_296 rfl (k_125 hS) ?_
        refine r_top (up2_a (by decide)) ?_
        refine r_iload_n dX11_laysTrails_64 rfl ?_
        obtain ⟨⟨h0, h1⟩, k⟩ := k
        refine r_iast dX11_laysTrails_65 (k_149 hS) h0 h1 ?_
        refine r_aload_n dX11_laysTrails_66 rfl ?_
        refine r_getRv dX11_laysTrails_67 fl_X11_87 rfl (k_125 hS) (f_125_46 hS) (by decide) ?_
        refine r_aload_n dX11_laysTrails_70 rfl ?_
        refine r_getIv dX11_laysTrails_71 fl_X11_296 rfl (k_125 hS) ?_
        refine r_top ((up2_a (by decide)).trans (up2_a (by decide))) ?_
        refine r_iload_n dX11_laysTrails_74 rfl ?_
        refine r_iload dX11_laysTrails_75 rfl ?_
        obtain ⟨h, k⟩ := k
        refine r_iadd dX11_laysTrails_77 h ?_
        obtain ⟨⟨h0, h1⟩, k⟩ := k
        refine r_iast dX11_laysTrails_78 (k_150 hS) h0 h1 ?_
        refine r_aload_n dX11_laysTrails_79 rfl ?_
        refine r_getRv dX11_laysTrails_80 fl_X11_90 rfl (k_125 hS) (f_125_47 hS) (by decide) ?_
        refine r_aload_n dX11_laysTrails_83 rfl ?_
        refine r_getIv dX11_laysTrails_84 fl_X11_296 rfl (k_125 hS) ?_
        refine r_top ((up2_a (by decide)).trans ((up2_a (by decide)).trans (up2_a (by decide)))) ?_
        refine r_iconst dX11_laysTrails_87 ⟨by decide, by decide⟩ ?_
        obtain ⟨⟨h0, h1⟩, k⟩ := k
        refine r_iast dX11_laysTrails_88 (k_151 hS) h0 h1 ?_
        refine r_aload_n dX11_laysTrails_89 rfl ?_
        refine r_getRv dX11_laysTrails_90 fl_X11_93 rfl (k_125 hS) (f_125_48 hS) (by decide) ?_
        refine r_aload_n dX11_laysTrails_93 rfl ?_
        refine r_getIv dX11_laysTrails_94 fl_X11_296 rfl (k_125 hS) ?_
        refine r_top ((up2_a (by decide)).trans ((up2_a (by decide)).trans ((up2_a (by decide)).trans (up2_a (by decide))))) ?_
        refine r_aload_n dX11_laysTrails_97 rfl ?_
        refine r_getRv dX11_laysTrails_98 fl_X11_69 rfl (k_125 hS) (f_125_39 hS) (by decide) ?_
        refine r_iload dX11_laysTrails_101 rfl ?_
        obtain ⟨⟨h0, h1⟩, k⟩ := k
        refine r_iald dX11_laysTrails_103 (Or.inl (k_144 hS)) h0 h1 ?_
        refine r_top ((up2_a (by decide)).trans ((up2_a (by decide)).trans ((up2_a (by decide)).trans (up2_a (by decide))))) ?_
        obtain ⟨⟨h0, h1⟩, k⟩ := k
        refine r_iast dX11_laysTrails_104 (k_152 hS) h0 h1 ?_
        refine r_aload_n dX11_laysTrails_105 rfl ?_
        refine r_dup dX11_laysTrails_106 rfl ?_
        refine r_getIv dX11_laysTrails_107 fl_X11_296 rfl (k_125 hS) ?_
        refine r_top ((up2_a (by decide)).trans ((up2_a (by decide)).trans ((up2_a (by decide)).trans ((up2_a (by decide)).trans (up2_a (by decide)))))) ?_
        refine r_iconst dX11_laysTrails_110 ⟨by decide, by decide⟩ ?_
        obtain ⟨h, k⟩ := k
        refine r_iadd dX11_laysTrails_111 h ?_
        refine r_putIv dX11_laysTrails_112 fl_X11_296 (fun _ h => by cases h; rfl) (Or.inl rfl) (k_125 hS) ?_
        refine r_iconst dX11_laysTrails_115 ⟨by decide, by decide⟩ ?_
        refine r_istore_n dX11_laysTrails_116 (by decide) rfl rfl ?_
        exact k
    · have k := k.2 h
      refine r_iconst dX11_laysTrails_47 ⟨by decide, by decide⟩ ?_
      refine r_istore_n dX11_laysTrails_48 (by decide) rfl rfl ?_
      refine r_goto (tgt := 152) dX11_laysTrails_49 rfl ?_
      obtain ⟨h, k⟩ := k
      refine r_iinc dX11_laysTrails_152 rfl (by decide) rfl rfl h ?_
      refine r_goto (tgt := 12) dX11_laysTrails_155 rfl ?_
      exact k
theorem t_X11_laysTrails_117 {v1 v2 v3 v4 : Int} {S : ShT} {σ : StT} {Q : Int → StT → Prop} (hS : SHP S) (k : inR ((σ 125 50) - 1) ∧ (0 ≤ (σ 125 50) - 1 ∧ (σ 125 50) - 1 < 24) ∧ inR ((σ 151 ((σ 125 50) - 1).toNat) + 1) ∧ (0 ≤ (σ 125 50) - 1 ∧ (σ 125 50) - 1 < 24) ∧ inR ((σ 125 50) - 1) ∧ inR (v4 + 1) ∧ (0 ≤ v4 + 1 ∧ v4 + 1 < 49) ∧ (0 ≤ (σ 125 50) - 1 ∧ (σ 125 50) - 1 < 24) ∧ inR (v4 + 1) ∧ AWs mX11_laysTrails 12 [(0, vR 125), (1, vI v1), (2, vI v2), (3, vI v3), (4, vI (v4 + 1))] [] S (up2 (up2 σ 151 ((σ 125 50) - 1).toNat ((σ 151 ((σ 125 50) - 1).toNat) + 1)) 153 ((σ 125 50) - 1).toNat (σ 144 (v4 + 1).toNat)) Q) : AWs mX11_laysTrails 117 [(0, vR 125), (1, vI v1), (2, vI v2), (3, vI v3), (4, vI v4)] [] S σ Q := by
  refine r_aload_n dX11_laysTrails_117 rfl ?_
  refine r_getRv dX11_laysTrails_118 fl_X11_90 rfl (k_125 hS) (f_125_47 hS) (by decide) ?_
  refine r_aload_n dX11_laysTrails_121 rfl ?_
  refine r_getIv dX11_laysTrails_122 fl_X11_296 rfl (k_125 hS) ?_
  refine r_iconst dX11_laysTrails_125 ⟨by decide, by decide⟩ ?_
  obtain ⟨h, k⟩ := k
  refine r_isub dX11_laysTrails_126 h ?_
  refine r_dup2 dX11_laysTrails_127 rfl rfl ?_
  obtain ⟨⟨h0, h1⟩, k⟩ := k
  refine r_iald dX11_laysTrails_128 (Or.inl (k_151 hS)) h0 h1 ?_
  refine r_iconst dX11_laysTrails_129 ⟨by decide, by decide⟩ ?_
  obtain ⟨h, k⟩ := k
  refine r_iadd dX11_laysTrails_130 h ?_
  obtain ⟨⟨h0, h1⟩, k⟩ := k
  refine r_iast dX11_laysTrails_131 (k_151 hS) h0 h1 ?_
  refine r_aload_n dX11_laysTrails_132 rfl ?_
  refine r_getRv dX11_laysTrails_133 fl_X11_96 rfl (k_125 hS) (f_125_49 hS) (by decide) ?_
  refine r_aload_n dX11_laysTrails_136 rfl ?_
  refine r_getIv dX11_laysTrails_137 fl_X11_296 rfl (k_125 hS) ?_
  refine r_top (up2_a (by decide)) ?_
  refine r_iconst dX11_laysTrails_140 ⟨by decide, by decide⟩ ?_
  obtain ⟨h, k⟩ := k
  refine r_isub dX11_laysTrails_141 h ?_
  refine r_aload_n dX11_laysTrails_142 rfl ?_
  refine r_getRv dX11_laysTrails_143 fl_X11_69 rfl (k_125 hS) (f_125_39 hS) (by decide) ?_
  refine r_iload dX11_laysTrails_146 rfl ?_
  refine r_iconst dX11_laysTrails_148 ⟨by decide, by decide⟩ ?_
  obtain ⟨h, k⟩ := k
  refine r_iadd dX11_laysTrails_149 h ?_
  obtain ⟨⟨h0, h1⟩, k⟩ := k
  refine r_iald dX11_laysTrails_150 (Or.inl (k_144 hS)) h0 h1 ?_
  refine r_top (up2_a (by decide)) ?_
  obtain ⟨⟨h0, h1⟩, k⟩ := k
  refine r_iast dX11_laysTrails_151 (k_153 hS) h0 h1 ?_
  obtain ⟨h, k⟩ := k
  refine r_iinc dX11_laysTrails_152 rfl (by decide) rfl rfl h ?_
  refine r_goto (tgt := 12) dX11_laysTrails_155 rfl ?_
  exact k
theorem e_X11_reckons {S : ShT} {σ : StT} {Q : Int → StT → Prop} (hS : SHP S) (k : WPs mX11_laysMeetings [vR 125] S σ (fun r1 s1 => WPs mX11_laysPairs [vR 125] S s1 (fun r5 s5 => AWs mX11_reckons 10 [(0, vR 125), (1, vI 0)] [] S s5 Q))) : WPs mX11_reckons [vR 125] S σ Q := by
  refine s_entry (by decide) (Nat.le_of_ble_eq_true rfl) rfl rfl ?_
  refine r_aload_n dX11_reckons_0 rfl ?_
  refine s_callVv (z := mX11_laysMeetings) [] dX11_reckons_1 mv_X11_laysMeetings lk_X11_299 rfl (by decide) (k_125 hS) (Nat.le_of_ble_eq_true rfl) (WPs.mono k (fun r1 s1 k => ?_))
  refine r_aload_n dX11_reckons_4 rfl ?_
  refine s_callVv (z := mX11_laysPairs) [] dX11_reckons_5 mv_X11_laysPairs lk_X11_302 rfl (by decide) (k_125 hS) (Nat.le_of_ble_eq_true rfl) (WPs.mono k (fun r5 s5 k => ?_))
  refine r_iconst dX11_reckons_8 ⟨by decide, by decide⟩ ?_
  refine r_istore_n dX11_reckons_9 (by decide) rfl rfl ?_
  exact k
theorem t_X11_reckons_10 {v1 : Int} {S : ShT} {σ : StT} {Q : Int → StT → Prop} (hS : SHP S) (k : (24 ≤ v1 → AWs mX11_reckons 31 [(0, vR 125), (1, vI 0)] [] S σ Q) ∧ (¬ (24 ≤ v1) → (0 ≤ v1 ∧ v1 < 24) ∧ inR (v1 + 1) ∧ AWs mX11_reckons 10 [(0, vR 125), (1, vI (v1 + 1))] [] S (up2 σ 141 v1.toNat 0) Q)) : AWs mX11_reckons 10 [(0, vR 125), (1, vI v1)] [] S σ Q := by
  refine r_iload_n dX11_reckons_10 rfl ?_
  refine r_bipush dX11_reckons_11 (by decide +kernel) ⟨by decide, by decide⟩ ?_
  refine r_icmp_ge (tgt := 29) dX11_reckons_13 rfl (fun h => ?_) (fun h => ?_)
  · have k := k.1 h
    refine r_iconst dX11_reckons_29 ⟨by decide, by decide⟩ ?_
    refine r_istore_n dX11_reckons_30 (by decide) rfl rfl ?_
    exact k
  · have k := k.2 h
    refine r_aload_n dX11_reckons_16 rfl ?_
    refine r_getRv dX11_reckons_17 fl_X11_59 rfl (k_125 hS) (f_125_36 hS) (by decide) ?_
    refine r_iload_n dX11_reckons_20 rfl ?_
    refine r_iconst dX11_reckons_21 ⟨by decide, by decide⟩ ?_
    obtain ⟨⟨h0, h1⟩, k⟩ := k
    refine r_zast dX11_reckons_22 (k_141 hS) (by decide) h0 h1 ?_
    obtain ⟨h, k⟩ := k
    refine r_iinc dX11_reckons_23 rfl (by decide) rfl rfl h ?_
    refine r_goto (tgt := 10) dX11_reckons_26 rfl ?_
    exact k
theorem t_X11_reckons_31 {v1 : Int} {S : ShT} {σ : StT} {Q : Int → StT → Prop} (hS : SHP S) (k : (24 ≤ v1 → AWs mX11_reckons 64 [(0, vR 125), (1, vI 0)] [] S (up2 (up2 σ 125 50 0) 147 0 0) Q) ∧ (¬ (24 ≤ v1) → (0 ≤ v1 ∧ v1 < 24) ∧ inR (v1 + 1) ∧ AWs mX11_reckons 31 [(0, vR 125), (1, vI (v1 + 1))] [] S (up2 σ 142 v1.toNat 0) Q)) : AWs mX11_reckons 31 [(0, vR 125), (1, vI v1)] [] S σ Q := by
  refine r_iload_n dX11_reckons_31 rfl ?_
  refine r_bipush dX11_reckons_32 (by decide +kernel) ⟨by decide, by decide⟩ ?_
  refine r_icmp_ge (tgt := 50) dX11_reckons_34 rfl (fun h => ?_) (fun h => ?_)
  · have k := k.1 h
    refine r_aload_n dX11_reckons_50 rfl ?_
    refine r_iconst dX11_reckons_51 ⟨by decide, by decide⟩ ?_
    refine r_putIv dX11_reckons_52 fl_X11_296 (fun _ h => by cases h; rfl) (Or.inl rfl) (k_125 hS) ?_
    refine r_aload_n dX11_reckons_55 rfl ?_
    refine r_getRv dX11_reckons_56 fl_X11_78 rfl (k_125 hS) (f_125_43 hS) (by decide) ?_
    refine r_iconst dX11_reckons_59 ⟨by decide, by decide⟩ ?_
    refine r_iconst dX11_reckons_60 ⟨by decide, by decide⟩ ?_
    refine r_iast dX11_reckons_61 (k_147 hS) (by decide) (by decide) ?_
    refine r_iconst dX11_reckons_62 ⟨by decide, by decide⟩ ?_
    refine r_istore_n dX11_reckons_63 (by decide) rfl rfl ?_
    exact k
  · have k := k.2 h
    refine r_aload_n dX11_reckons_37 rfl ?_
    refine r_getRv dX11_reckons_38 fl_X11_63 rfl (k_125 hS) (f_125_37 hS) (by decide) ?_
    refine r_iload_n dX11_reckons_41 rfl ?_
    refine r_iconst dX11_reckons_42 ⟨by decide, by decide⟩ ?_
    obtain ⟨⟨h0, h1⟩, k⟩ := k
    refine r_zast dX11_reckons_43 (k_142 hS) (by decide) h0 h1 ?_
    obtain ⟨h, k⟩ := k
    refine r_iinc dX11_reckons_44 rfl (by decide) rfl rfl h ?_
    refine r_goto (tgt := 31) dX11_reckons_47 rfl ?_
    exact k
theorem t_X11_reckons_64 {v1 : Int} {S : ShT} {σ : StT} {Q : Int → StT → Prop} (hS : SHP S) (k : (σ 125 27 ≤ v1 → Q 0 σ) ∧ (¬ (σ 125 27 ≤ v1) → WPs mX11_walksPart [vR 125, vI v1] S σ (fun r74 s74 => WPs mX11_laysTrails [vR 125, vI v1] S s74 (fun r79 s79 => inR (v1 + 1) ∧ AWs mX11_reckons 64 [(0, vR 125), (1, vI (v1 + 1))] [] S s79 Q)))) : AWs mX11_reckons 64 [(0, vR 125), (1, vI v1)] [] S σ Q := by
  refine r_iload_n dX11_reckons_64 rfl ?_
  refine r_aload_n dX11_reckons_65 rfl ?_
  refine r_getIv dX11_reckons_66 fl_X11_255 rfl (k_125 hS) ?_
  refine r_icmp_ge (tgt := 88) dX11_reckons_69 rfl (fun h => ?_) (fun h => ?_)
  · have k := k.1 h
    exact s_vret dX11_reckons_88 rfl k
  · have k := k.2 h
    refine r_aload_n dX11_reckons_72 rfl ?_
    refine r_iload_n dX11_reckons_73 rfl ?_
    refine s_callVv (z := mX11_walksPart) [vI v1] dX11_reckons_74 mv_X11_walksPart lk_X11_305 rfl (by decide) (k_125 hS) (Nat.le_of_ble_eq_true rfl) (WPs.mono k (fun r74 s74 k => ?_))
    refine r_aload_n dX11_reckons_77 rfl ?_
    refine r_iload_n dX11_reckons_78 rfl ?_
    refine s_callVv (z := mX11_laysTrails) [vI v1] dX11_reckons_79 mv_X11_laysTrails lk_X11_308 rfl (by decide) (k_125 hS) (Nat.le_of_ble_eq_true rfl) (WPs.mono k (fun r79 s79 k => ?_))
    obtain ⟨h, k⟩ := k
    refine r_iinc dX11_reckons_82 rfl (by decide) rfl rfl h ?_
    refine r_goto (tgt := 64) dX11_reckons_85 rfl ?_
    exact k
theorem e_X11_plansAnew {S : ShT} {σ : StT} {Q : Int → StT → Prop} (hS : SHP S) (k : WPs mX11_reckons [vR 125] S σ (fun r1 s1 => AWs mX11_plansAnew 17 [(0, vR 125), (1, vI 0)] [] S (up2 s1 127 103 (s1 125 50)) Q)) : WPs mX11_plansAnew [vR 125] S σ Q := by
  refine s_entry (by decide) (Nat.le_of_ble_eq_true rfl) rfl rfl ?_
  refine r_aload_n dX11_plansAnew_0 rfl ?_
  refine s_callVv (z := mX11_reckons) [] dX11_plansAnew_1 mv_X11_reckons lk_X11_311 rfl (by decide) (k_125 hS) (Nat.le_of_ble_eq_true rfl) (WPs.mono k (fun r1 s1 k => ?_))
  refine r_aload_n dX11_plansAnew_4 rfl ?_
  refine r_getRv dX11_plansAnew_5 fl_X11_17 rfl (k_125 hS) (f_125_6 hS) (by decide) ?_
  refine r_bipush dX11_plansAnew_8 (by decide +kernel) ⟨by decide, by decide⟩ ?_
  refine r_aload_n dX11_plansAnew_10 rfl ?_
  refine r_getIv dX11_plansAnew_11 fl_X11_296 rfl (k_125 hS) ?_
  refine r_iast dX11_plansAnew_14 (k_127 hS) (by decide) (by decide) ?_
  refine r_iconst dX11_plansAnew_15 ⟨by decide, by decide⟩ ?_
  refine r_istore_n dX11_plansAnew_16 (by decide) rfl rfl ?_
  exact k
theorem t_X11_plansAnew_17 {v1 : Int} {S : ShT} {σ : StT} {Q : Int → StT → Prop} (hS : SHP S) (k : (σ 125 50 ≤ v1 → Q 0 σ) ∧ (¬ (σ 125 50 ≤ v1) → inR (104 + v1) ∧ (0 ≤ 104 + v1 ∧ 104 + v1 < 152) ∧ inR (128 + v1) ∧ (0 ≤ 128 + v1 ∧ 128 + v1 < 152) ∧ inR (v1 + 1) ∧ AWs mX11_plansAnew 17 [(0, vR 125), (1, vI (v1 + 1))] [] S (up2 (up2 σ 127 (104 + v1).toNat v1) 127 (128 + v1).toNat 0) Q)) : AWs mX11_plansAnew 17 [(0, vR 125), (1, vI v1)] [] S σ Q := by
  refine r_iload_n dX11_plansAnew_17 rfl ?_
  refine r_aload_n dX11_plansAnew_18 rfl ?_
  refine r_getIv dX11_plansAnew_19 fl_X11_296 rfl (k_125 hS) ?_
  refine r_icmp_ge (tgt := 52) dX11_plansAnew_22 rfl (fun h => ?_) (fun h => ?_)
  · have k := k.1 h
    exact s_vret dX11_plansAnew_52 rfl k
  · have k := k.2 h
    refine r_aload_n dX11_plansAnew_25 rfl ?_
    refine r_getRv dX11_plansAnew_26 fl_X11_17 rfl (k_125 hS) (f_125_6 hS) (by decide) ?_
    refine r_bipush dX11_plansAnew_29 (by decide +kernel) ⟨by decide, by decide⟩ ?_
    refine r_iload_n dX11_plansAnew_31 rfl ?_
    obtain ⟨h, k⟩ := k
    refine r_iadd dX11_plansAnew_32 h ?_
    refine r_iload_n dX11_plansAnew_33 rfl ?_
    obtain ⟨⟨h0, h1⟩, k⟩ := k
    refine r_iast dX11_plansAnew_34 (k_127 hS) h0 h1 ?_
    refine r_aload_n dX11_plansAnew_35 rfl ?_
    refine r_getRv dX11_plansAnew_36 fl_X11_17 rfl (k_125 hS) (f_125_6 hS) (by decide) ?_
    refine r_sipush dX11_plansAnew_39 (by decide +kernel) ⟨by decide, by decide⟩ ?_
    refine r_iload_n dX11_plansAnew_42 rfl ?_
    obtain ⟨h, k⟩ := k
    refine r_iadd dX11_plansAnew_43 h ?_
    refine r_iconst dX11_plansAnew_44 ⟨by decide, by decide⟩ ?_
    obtain ⟨⟨h0, h1⟩, k⟩ := k
    refine r_iast dX11_plansAnew_45 (k_127 hS) h0 h1 ?_
    obtain ⟨h, k⟩ := k
    refine r_iinc dX11_plansAnew_46 rfl (by decide) rfl rfl h ?_
    refine r_goto (tgt := 17) dX11_plansAnew_49 rfl ?_
    exact k
theorem e_X11_isAsked {v1 : Int} {S : ShT} {σ : StT} {Q : Int → StT → Prop} (hS : SHP S) (k : (σ 125 11 = 0 → WPs mX11_unless [vI 0] S σ (fun r17 s17 => WPs mX11_isRefused [vR 125, vI r17] S s17 (fun r20 s20 => (r20 = 0 → WPs mX11_reckons [vR 125] S s20 (fun r29 s29 => Q 1 s29)) ∧ (¬ (r20 = 0) → Q 0 s20)))) ∧ (¬ (σ 125 11 = 0) → (v1 = 0 → WPs mX11_unless [vI 0] S σ (fun r17 s17 => WPs mX11_isRefused [vR 125, vI r17] S s17 (fun r20 s20 => (r20 = 0 → WPs mX11_reckons [vR 125] S s20 (fun r29 s29 => Q 1 s29)) ∧ (¬ (r20 = 0) → Q 0 s20)))) ∧ (¬ (v1 = 0) → WPs mX11_unless [vI 1] S σ (fun r17 s17 => WPs mX11_isRefused [vR 125, vI r17] S s17 (fun r20 s20 => (r20 = 0 → WPs mX11_reckons [vR 125] S s20 (fun r29 s29 => Q 1 s29)) ∧ (¬ (r20 = 0) → Q 0 s20)))))) : WPs mX11_isAsked [vR 125, vI v1] S σ Q := by
  refine s_entry (by decide) (Nat.le_of_ble_eq_true rfl) rfl rfl ?_
  refine r_aload_n dX11_isAsked_0 rfl ?_
  refine r_aload_n dX11_isAsked_1 rfl ?_
  refine r_getIv dX11_isAsked_2 fl_X11_223 rfl (k_125 hS) ?_
  refine r_if_eq (tgt := 16) dX11_isAsked_5 rfl (fun h => ?_) (fun h => ?_)
  · have k := k.1 h
    refine r_iconst dX11_isAsked_16 ⟨by decide, by decide⟩ ?_
    refine s_callS (z := mX11_unless) [vI 0] dX11_isAsked_17 ms_X11_unless lk_X11_314 rfl (by decide) (Nat.le_of_ble_eq_true rfl) (WPs.mono k (fun r17 s17 k => ?_))
    refine s_callVv (z := mX11_isRefused) [vI r17] dX11_isAsked_20 mv_X11_isRefused lk_X11_207 rfl (by decide) (k_125 hS) (Nat.le_of_ble_eq_true rfl) (WPs.mono k (fun r20 s20 k => ?_))
    refine r_if_eq (tgt := 28) dX11_isAsked_23 rfl (fun h => ?_) (fun h => ?_)
    · have k := k.1 h
      refine r_aload_n dX11_isAsked_28 rfl ?_
      refine s_callVv (z := mX11_reckons) [] dX11_isAsked_29 mv_X11_reckons lk_X11_311 rfl (by decide) (k_125 hS) (Nat.le_of_ble_eq_true rfl) (WPs.mono k (fun r29 s29 k => ?_))
      refine r_iconst dX11_isAsked_32 ⟨by decide, by decide⟩ ?_
      exact s_zret dX11_isAsked_33 rfl (by decide) k
    · have k := k.2 h
      refine r_iconst dX11_isAsked_26 ⟨by decide, by decide⟩ ?_
      exact s_zret dX11_isAsked_27 rfl (by decide) k
  · have k := k.2 h
    refine r_iload_n dX11_isAsked_8 rfl ?_
    refine r_if_eq (tgt := 16) dX11_isAsked_9 rfl (fun h => ?_) (fun h => ?_)
    · have k := k.1 h
      refine r_iconst dX11_isAsked_16 ⟨by decide, by decide⟩ ?_
      refine s_callS (z := mX11_unless) [vI 0] dX11_isAsked_17 ms_X11_unless lk_X11_314 rfl (by decide) (Nat.le_of_ble_eq_true rfl) (WPs.mono k (fun r17 s17 k => ?_))
      refine s_callVv (z := mX11_isRefused) [vI r17] dX11_isAsked_20 mv_X11_isRefused lk_X11_207 rfl (by decide) (k_125 hS) (Nat.le_of_ble_eq_true rfl) (WPs.mono k (fun r20 s20 k => ?_))
      refine r_if_eq (tgt := 28) dX11_isAsked_23 rfl (fun h => ?_) (fun h => ?_)
      · have k := k.1 h
        refine r_aload_n dX11_isAsked_28 rfl ?_
        refine s_callVv (z := mX11_reckons) [] dX11_isAsked_29 mv_X11_reckons lk_X11_311 rfl (by decide) (k_125 hS) (Nat.le_of_ble_eq_true rfl) (WPs.mono k (fun r29 s29 k => ?_))
        refine r_iconst dX11_isAsked_32 ⟨by decide, by decide⟩ ?_
        exact s_zret dX11_isAsked_33 rfl (by decide) k
      · have k := k.2 h
        refine r_iconst dX11_isAsked_26 ⟨by decide, by decide⟩ ?_
        exact s_zret dX11_isAsked_27 rfl (by decide) k
    · have k := k.2 h
      refine r_iconst dX11_isAsked_12 ⟨by decide, by decide⟩ ?_
      refine r_goto (tgt := 17) dX11_isAsked_13 rfl ?_
      refine s_callS (z := mX11_unless) [vI 1] dX11_isAsked_17 ms_X11_unless lk_X11_314 rfl (by decide) (Nat.le_of_ble_eq_true rfl) (WPs.mono k (fun r17 s17 k => ?_))
      refine s_callVv (z := mX11_isRefused) [vI r17] dX11_isAsked_20 mv_X11_isRefused lk_X11_207 rfl (by decide) (k_125 hS) (Nat.le_of_ble_eq_true rfl) (WPs.mono k (fun r20 s20 k => ?_))
      refine r_if_eq (tgt := 28) dX11_isAsked_23 rfl (fun h => ?_) (fun h => ?_)
      · have k := k.1 h
        refine r_aload_n dX11_isAsked_28 rfl ?_
        refine s_callVv (z := mX11_reckons) [] dX11_isAsked_29 mv_X11_reckons lk_X11_311 rfl (by decide) (k_125 hS) (Nat.le_of_ble_eq_true rfl) (WPs.mono k (fun r29 s29 k => ?_))
        refine r_iconst dX11_isAsked_32 ⟨by decide, by decide⟩ ?_
        exact s_zret dX11_isAsked_33 rfl (by decide) k
      · have k := k.2 h
        refine r_iconst dX11_isAsked_26 ⟨by decide, by decide⟩ ?_
        exact s_zret dX11_isAsked_27 rfl (by decide) k
theorem e_X11_oddAll {S : ShT} {σ : StT} {Q : Int → StT → Prop} (hS : SHP S) (k : AWs mX11_oddAll 4 [(0, vR 125), (1, vI 0), (2, vI 0)] [] S σ Q) : WPs mX11_oddAll [vR 125] S σ Q := by
  refine s_entry (by decide) (Nat.le_of_ble_eq_true rfl) rfl rfl ?_
  refine r_iconst dX11_oddAll_0 ⟨by decide, by decide⟩ ?_
  refine r_istore_n dX11_oddAll_1 (by decide) rfl rfl ?_
  refine r_iconst dX11_oddAll_2 ⟨by decide, by decide⟩ ?_
  refine r_istore_n dX11_oddAll_3 (by decide) rfl rfl ?_
  exact k
theorem t_X11_oddAll_4 {v1 v2 : Int} {S : ShT} {σ : StT} {Q : Int → StT → Prop} (hS : SHP S) (k : (σ 125 26 ≤ v2 → Q v1 σ) ∧ (¬ (σ 125 26 ≤ v2) → WPs mX11_isOdd [vR 125, vI v2] S σ (fun r15 s15 => (r15 = 0 → inR (v1 + 0) ∧ inR (v2 + 1) ∧ AWs mX11_oddAll 4 [(0, vR 125), (1, vI (v1 + 0)), (2, vI (v2 + 1))] [] S s15 Q) ∧ (¬ (r15 = 0) → inR (v1 + 1) ∧ inR (v2 + 1) ∧ AWs mX11_oddAll 4 [(0, vR 125), (1, vI (v1 + 1)), (2, vI (v2 + 1))] [] S s15 Q)))) : AWs mX11_oddAll 4 [(0, vR 125), (1, vI v1), (2, vI v2)] [] S σ Q := by
  refine r_iload_n dX11_oddAll_4 rfl ?_
  refine r_aload_n dX11_oddAll_5 rfl ?_
  refine r_getIv dX11_oddAll_6 fl_X11_249 rfl (k_125 hS) ?_
  refine r_icmp_ge (tgt := 34) dX11_oddAll_9 rfl (fun h => ?_) (fun h => ?_)
  · have k := k.1 h
    refine r_iload_n dX11_oddAll_34 rfl ?_
    exact s_iret dX11_oddAll_35 rfl k
  · have k := k.2 h
    refine r_iload_n dX11_oddAll_12 rfl ?_
    refine r_aload_n dX11_oddAll_13 rfl ?_
    refine r_iload_n dX11_oddAll_14 rfl ?_
    refine s_callVv (z := mX11_isOdd) [vI v2] dX11_oddAll_15 mv_X11_isOdd lk_X11_264 rfl (by decide) (k_125 hS) (Nat.le_of_ble_eq_true rfl) (WPs.mono k (fun r15 s15 k => ?_))
    refine r_if_eq (tgt := 25) dX11_oddAll_18 rfl (fun h => ?_) (fun h => ?_)
    · have k := k.1 h
      refine r_iconst dX11_oddAll_25 ⟨by decide, by decide⟩ ?_
      obtain ⟨h, k⟩ := k
      refine r_iadd dX11_oddAll_26 h ?_
      refine r_istore_n dX11_oddAll_27 (by decide) rfl rfl ?_
      obtain ⟨h, k⟩ := k
      refine r_iinc dX11_oddAll_28 rfl (by decide) rfl rfl h ?_
      refine r_goto (tgt := 4) dX11_oddAll_31 rfl ?_
      exact k
    · have k := k.2 h
      refine r_iconst dX11_oddAll_21 ⟨by decide, by decide⟩ ?_
      refine r_goto (tgt := 26) dX11_oddAll_22 rfl ?_
      obtain ⟨h, k⟩ := k
      refine r_iadd dX11_oddAll_26 h ?_
      refine r_istore_n dX11_oddAll_27 (by decide) rfl rfl ?_
      obtain ⟨h, k⟩ := k
      refine r_iinc dX11_oddAll_28 rfl (by decide) rfl rfl h ?_
      refine r_goto (tgt := 4) dX11_oddAll_31 rfl ?_
      exact k
theorem e_X11_about {v1 : Int} {S : ShT} {σ : StT} {Q : Int → StT → Prop} (hS : SHP S) (k : WPs mX11_in [vI v1, vI 0, vI 10] S σ (fun r5 s5 => WPs mX11_isAsked [vR 125, vI r5] S s5 (fun r8 s8 => (¬ r8 = 0 → (v1 < 7 ∨ 10 < v1 → (0 ≤ v1 ∧ v1 < 152) ∧ Q (s8 127 v1.toNat) s8) ∧ (v1 = 7 → Q (s8 125 26) s8) ∧ (v1 = 8 → Q (s8 125 27) s8) ∧ (v1 = 9 → WPs mX11_oddAll [vR 125] S s8 (fun r59 s59 => Q r59 s59)) ∧ (v1 = 10 → Q (s8 125 50) s8)) ∧ (r8 = 0 → Q (-1) s8)))) : WPs mX11_about [vR 125, vI v1] S σ Q := by
  refine s_entry (by decide) (Nat.le_of_ble_eq_true rfl) rfl rfl ?_
  refine r_aload_n dX11_about_0 rfl ?_
  refine r_iload_n dX11_about_1 rfl ?_
  refine r_iconst dX11_about_2 ⟨by decide, by decide⟩ ?_
  refine r_bipush dX11_about_3 (by decide +kernel) ⟨by decide, by decide⟩ ?_
  refine s_callS (z := mX11_in) [vI v1, vI 0, vI 10] dX11_about_5 ms_X11_in lk_X11_128 rfl (by decide) (Nat.le_of_ble_eq_true rfl) (WPs.mono k (fun r5 s5 k => ?_))
  refine s_callVv (z := mX11_isAsked) [vI r5] dX11_about_8 mv_X11_isAsked lk_X11_318 rfl (by decide) (k_125 hS) (Nat.le_of_ble_eq_true rfl) (WPs.mono k (fun r8 s8 k => ?_))
  refine r_if_ne (tgt := 16) dX11_about_11 rfl (fun h => ?_) (fun h => ?_)
  · have k := k.1 h
    refine r_iload_n dX11_about_16 rfl ?_
    refine r_tsw (dt := 68) [48, 53, 58, 63] dX11_about_17 rfl (by decide +kernel) rfl (fun h => ?_) ⟨fun h => ?_, fun h => ?_, fun h => ?_, fun h => ?_, trivial⟩
    · have k := k.1 h
      refine r_aload_n dX11_about_68 rfl ?_
      refine r_getRv dX11_about_69 fl_X11_17 rfl (k_125 hS) (f_125_6 hS) (by decide) ?_
      refine r_iload_n dX11_about_72 rfl ?_
      obtain ⟨⟨h0, h1⟩, k⟩ := k
      refine r_iald dX11_about_73 (Or.inl (k_127 hS)) h0 h1 ?_
      exact s_iret dX11_about_74 rfl k
    · have k := k.2.1 h
      refine r_aload_n dX11_about_48 rfl ?_
      refine r_getIv dX11_about_49 fl_X11_249 rfl (k_125 hS) ?_
      exact s_iret dX11_about_52 rfl k
    · have k := k.2.2.1 h
      refine r_aload_n dX11_about_53 rfl ?_
      refine r_getIv dX11_about_54 fl_X11_255 rfl (k_125 hS) ?_
      exact s_iret dX11_about_57 rfl k
    · have k := k.2.2.2.1 h
      refine r_aload_n dX11_about_58 rfl ?_
      refine s_callVv (z := mX11_oddAll) [] dX11_about_59 mv_X11_oddAll lk_X11_322 rfl (by decide) (k_125 hS) (Nat.le_of_ble_eq_true rfl) (WPs.mono k (fun r59 s59 k => ?_))
      exact s_iret dX11_about_62 rfl k
    · have k := k.2.2.2.2 h
      refine r_aload_n dX11_about_63 rfl ?_
      refine r_getIv dX11_about_64 fl_X11_296 rfl (k_125 hS) ?_
      exact s_iret dX11_about_67 rfl k
  · have k := k.2 h
    refine r_iconst dX11_about_14 ⟨by decide, by decide⟩ ?_
    exact s_iret dX11_about_15 rfl k
theorem e_X11_stroke {v1 v2 : Int} {S : ShT} {σ : StT} {Q : Int → StT → Prop} (hS : SHP S) (k : (σ 125 11 = 0 → WPs mX11_isAsked [vR 125, vI 0] S σ (fun r39 s39 => (¬ r39 = 0 → (4 ≤ v2 → (¬ v2 = 4 → inR (2 * v1) ∧ inR ((2 * v1) + v2) ∧ inR (((2 * v1) + v2) - 5) ∧ (0 ≤ ((2 * v1) + v2) - 5 ∧ ((2 * v1) + v2) - 5 < 48) ∧ Q (s39 131 (((2 * v1) + v2) - 5).toNat) s39) ∧ (v2 = 4 → inR (2 * v1) ∧ inR (2 * v1) ∧ inR ((2 * v1) + 1) ∧ WPs mX11_apart [vR 125, vI (2 * v1), vI ((2 * v1) + 1)] S s39 (fun r82 s82 => Q r82 s82))) ∧ (¬ (4 ≤ v2) → inR (4 * v1) ∧ inR (7 + (4 * v1)) ∧ inR ((7 + (4 * v1)) + v2) ∧ (0 ≤ (7 + (4 * v1)) + v2 ∧ (7 + (4 * v1)) + v2 < 152) ∧ Q (s39 127 ((7 + (4 * v1)) + v2).toNat) s39)) ∧ (r39 = 0 → Q (-1) s39))) ∧ (¬ (σ 125 11 = 0) → inR ((σ 127 2) - 1) ∧ WPs mX11_in [vI v1, vI 0, vI ((σ 127 2) - 1)] S σ (fun r18 s18 => (r18 = 0 → WPs mX11_isAsked [vR 125, vI 0] S s18 (fun r39 s39 => (¬ r39 = 0 → (4 ≤ v2 → (¬ v2 = 4 → inR (2 * v1) ∧ inR ((2 * v1) + v2) ∧ inR (((2 * v1) + v2) - 5) ∧ (0 ≤ ((2 * v1) + v2) - 5 ∧ ((2 * v1) + v2) - 5 < 48) ∧ Q (s39 131 (((2 * v1) + v2) - 5).toNat) s39) ∧ (v2 = 4 → inR (2 * v1) ∧ inR (2 * v1) ∧ inR ((2 * v1) + 1) ∧ WPs mX11_apart [vR 125, vI (2 * v1), vI ((2 * v1) + 1)] S s39 (fun r82 s82 => Q r82 s82))) ∧ (¬ (4 ≤ v2) → inR (4 * v1) ∧ inR (7 + (4 * v1)) ∧ inR ((7 + (4 * v1)) + v2) ∧ (0 ≤ (7 + (4 * v1)) + v2 ∧ (7 + (4 * v1)) + v2 < 152) ∧ Q (s39 127 ((7 + (4 * v1)) + v2).toNat) s39)) ∧ (r39 = 0 → Q (-1) s39))) ∧ (¬ (r18 = 0) → WPs mX11_in [vI v2, vI 0, vI 6] S s18 (fun r28 s28 => (r28 = 0 → WPs mX11_isAsked [vR 125, vI 0] S s28 (fun r39 s39 => (¬ r39 = 0 → (4 ≤ v2 → (¬ v2 = 4 → inR (2 * v1) ∧ inR ((2 * v1) + v2) ∧ inR (((2 * v1) + v2) - 5) ∧ (0 ≤ ((2 * v1) + v2) - 5 ∧ ((2 * v1) + v2) - 5 < 48) ∧ Q (s39 131 (((2 * v1) + v2) - 5).toNat) s39) ∧ (v2 = 4 → inR (2 * v1) ∧ inR (2 * v1) ∧ inR ((2 * v1) + 1) ∧ WPs mX11_apart [vR 125, vI (2 * v1), vI ((2 * v1) + 1)] S s39 (fun r82 s82 => Q r82 s82))) ∧ (¬ (4 ≤ v2) → inR (4 * v1) ∧ inR (7 + (4 * v1)) ∧ inR ((7 + (4 * v1)) + v2) ∧ (0 ≤ (7 + (4 * v1)) + v2 ∧ (7 + (4 * v1)) + v2 < 152) ∧ Q (s39 127 ((7 + (4 * v1)) + v2).toNat) s39)) ∧ (r39 = 0 → Q (-1) s39))) ∧ (¬ (r28 = 0) → WPs mX11_isAsked [vR 125, vI 1] S s28 (fun r39 s39 => (¬ r39 = 0 → (4 ≤ v2 → (¬ v2 = 4 → inR (2 * v1) ∧ inR ((2 * v1) + v2) ∧ inR (((2 * v1) + v2) - 5) ∧ (0 ≤ ((2 * v1) + v2) - 5 ∧ ((2 * v1) + v2) - 5 < 48) ∧ Q (s39 131 (((2 * v1) + v2) - 5).toNat) s39) ∧ (v2 = 4 → inR (2 * v1) ∧ inR (2 * v1) ∧ inR ((2 * v1) + 1) ∧ WPs mX11_apart [vR 125, vI (2 * v1), vI ((2 * v1) + 1)] S s39 (fun r82 s82 => Q r82 s82))) ∧ (¬ (4 ≤ v2) → inR (4 * v1) ∧ inR (7 + (4 * v1)) ∧ inR ((7 + (4 * v1)) + v2) ∧ (0 ≤ (7 + (4 * v1)) + v2 ∧ (7 + (4 * v1)) + v2 < 152) ∧ Q (s39 127 ((7 + (4 * v1)) + v2).toNat) s39)) ∧ (r39 = 0 → Q (-1) s39)))))))) : WPs mX11_stroke [vR 125, vI v1, vI v2] S σ Q := by
  refine s_entry (by decide) (Nat.le_of_ble_eq_true rfl) rfl rfl ?_
  refine r_aload_n dX11_stroke_0 rfl ?_
  refine r_aload_n dX11_stroke_1 rfl ?_
  refine r_getIv dX11_stroke_2 fl_X11_223 rfl (k_125 hS) ?_
  refine r_if_eq (tgt := 38) dX11_stroke_5 rfl (fun h => ?_) (fun h => ?_)
  · have k := k.1 h
    refine r_iconst dX11_stroke_38 ⟨by decide, by decide⟩ ?_
    refine s_callVv (z := mX11_isAsked) [vI 0] dX11_stroke_39 mv_X11_isAsked lk_X11_318 rfl (by decide) (k_125 hS) (Nat.le_of_ble_eq_true rfl) (WPs.mono k (fun r39 s39 k => ?_))
    refine r_if_ne (tgt := 47) dX11_stroke_42 rfl (fun h => ?_) (fun h => ?_)
    · have k := k.1 h
      refine r_iload_n dX11_stroke_47 rfl ?_
      refine r_iconst dX11_stroke_48 ⟨by decide, by decide⟩ ?_
      refine r_icmp_ge (tgt := 68) dX11_stroke_49 rfl (fun h => ?_) (fun h => ?_)
      · have k := k.1 h
        refine r_iload_n dX11_stroke_68 rfl ?_
        refine r_iconst dX11_stroke_69 ⟨by decide, by decide⟩ ?_
        refine r_icmp_ne (tgt := 88) dX11_stroke_70 rfl (fun h => ?_) (fun h => ?_)
        · have k := k.1 h
          refine r_aload_n dX11_stroke_88 rfl ?_
          refine r_getRv dX11_stroke_89 fl_X11_29 rfl (k_125 hS) (f_125_22 hS) (by decide) ?_
          refine r_iconst dX11_stroke_92 ⟨by decide, by decide⟩ ?_
          refine r_iload_n dX11_stroke_93 rfl ?_
          obtain ⟨h, k⟩ := k
          refine r_imul dX11_stroke_94 h ?_
          refine r_iload_n dX11_stroke_95 rfl ?_
          obtain ⟨h, k⟩ := k
          refine r_iadd dX11_stroke_96 h ?_
          refine r_iconst dX11_stroke_97 ⟨by decide, by decide⟩ ?_
          obtain ⟨h, k⟩ := k
          refine r_isub dX11_stroke_98 h ?_
          obtain ⟨⟨h0, h1⟩, k⟩ := k
          refine r_iald dX11_stroke_99 (Or.inl (k_131 hS)) h0 h1 ?_
          exact s_iret dX11_stroke_100 rfl k
        · have k := k.2 h
          refine r_aload_n dX11_stroke_73 rfl ?_
          refine r_iconst dX11_stroke_74 ⟨by decide, by decide⟩ ?_
          refine r_iload_n dX11_stroke_75 rfl ?_
          obtain ⟨h, k⟩ := k
          refine r_imul dX11_stroke_76 h ?_
          refine r_iconst dX11_stroke_77 ⟨by decide, by decide⟩ ?_
          refine r_iload_n dX11_stroke_78 rfl ?_
          obtain ⟨h, k⟩ := k
          refine r_imul dX11_stroke_79 h ?_
          refine r_iconst dX11_stroke_80 ⟨by decide, by decide⟩ ?_
          obtain ⟨h, k⟩ := k
          refine r_iadd dX11_stroke_81 h ?_
          refine s_callVv (z := mX11_apart) [vI (2 * v1), vI ((2 * v1) + 1)] dX11_stroke_82 mv_X11_apart lk_X11_241 rfl (by decide) (k_125 hS) (Nat.le_of_ble_eq_true rfl) (WPs.mono k (fun r82 s82 k => ?_))
          refine r_goto (tgt := 100) dX11_stroke_85 rfl ?_
          exact s_iret dX11_stroke_100 rfl k
      · have k := k.2 h
        refine r_aload_n dX11_stroke_52 rfl ?_
        refine r_getRv dX11_stroke_53 fl_X11_17 rfl (k_125 hS) (f_125_6 hS) (by decide) ?_
        refine r_bipush dX11_stroke_56 (by decide +kernel) ⟨by decide, by decide⟩ ?_
        refine r_iconst dX11_stroke_58 ⟨by decide, by decide⟩ ?_
        refine r_iload_n dX11_stroke_59 rfl ?_
        obtain ⟨h, k⟩ := k
        refine r_imul dX11_stroke_60 h ?_
        obtain ⟨h, k⟩ := k
        refine r_iadd dX11_stroke_61 h ?_
        refine r_iload_n dX11_stroke_62 rfl ?_
        obtain ⟨h, k⟩ := k
        refine r_iadd dX11_stroke_63 h ?_
        obtain ⟨⟨h0, h1⟩, k⟩ := k
        refine r_iald dX11_stroke_64 (Or.inl (k_127 hS)) h0 h1 ?_
        refine r_goto (tgt := 100) dX11_stroke_65 rfl ?_
        exact s_iret dX11_stroke_100 rfl k
    · have k := k.2 h
      refine r_iconst dX11_stroke_45 ⟨by decide, by decide⟩ ?_
      exact s_iret dX11_stroke_46 rfl k
  · have k := k.2 h
    refine r_iload_n dX11_stroke_8 rfl ?_
    refine r_iconst dX11_stroke_9 ⟨by decide, by decide⟩ ?_
    refine r_aload_n dX11_stroke_10 rfl ?_
    refine r_getRv dX11_stroke_11 fl_X11_17 rfl (k_125 hS) (f_125_6 hS) (by decide) ?_
    refine r_iconst dX11_stroke_14 ⟨by decide, by decide⟩ ?_
    refine r_iald dX11_stroke_15 (Or.inl (k_127 hS)) (by decide) (by decide) ?_
    refine r_iconst dX11_stroke_16 ⟨by decide, by decide⟩ ?_
    obtain ⟨h, k⟩ := k
    refine r_isub dX11_stroke_17 h ?_
    refine s_callS (z := mX11_in) [vI v1, vI 0, vI ((σ 127 2) - 1)] dX11_stroke_18 ms_X11_in lk_X11_128 rfl (by decide) (Nat.le_of_ble_eq_true rfl) (WPs.mono k (fun r18 s18 k => ?_))
    refine r_if_eq (tgt := 38) dX11_stroke_21 rfl (fun h => ?_) (fun h => ?_)
    · have k := k.1 h
      refine r_iconst dX11_stroke_38 ⟨by decide, by decide⟩ ?_
      refine s_callVv (z := mX11_isAsked) [vI 0] dX11_stroke_39 mv_X11_isAsked lk_X11_318 rfl (by decide) (k_125 hS) (Nat.le_of_ble_eq_true rfl) (WPs.mono k (fun r39 s39 k => ?_))
      refine r_if_ne (tgt := 47) dX11_stroke_42 rfl (fun h => ?_) (fun h => ?_)
      · have k := k.1 h
        refine r_iload_n dX11_stroke_47 rfl ?_
        refine r_iconst dX11_stroke_48 ⟨by decide, by decide⟩ ?_
        refine r_icmp_ge (tgt := 68) dX11_stroke_49 rfl (fun h => ?_) (fun h => ?_)
        · have k := k.1 h
          refine r_iload_n dX11_stroke_68 rfl ?_
          refine r_iconst dX11_stroke_69 ⟨by decide, by decide⟩ ?_
          refine r_icmp_ne (tgt := 88) dX11_stroke_70 rfl (fun h => ?_) (fun h => ?_)
          · have k := k.1 h
            refine r_aload_n dX11_stroke_88 rfl ?_
            refine r_getRv dX11_stroke_89 fl_X11_29 rfl (k_125 hS) (f_125_22 hS) (by decide) ?_
            refine r_iconst dX11_stroke_92 ⟨by decide, by decide⟩ ?_
            refine r_iload_n dX11_stroke_93 rfl ?_
            obtain ⟨h, k⟩ := k
            refine r_imul dX11_stroke_94 h ?_
            refine r_iload_n dX11_stroke_95 rfl ?_
            obtain ⟨h, k⟩ := k
            refine r_iadd dX11_stroke_96 h ?_
            refine r_iconst dX11_stroke_97 ⟨by decide, by decide⟩ ?_
            obtain ⟨h, k⟩ := k
            refine r_isub dX11_stroke_98 h ?_
            obtain ⟨⟨h0, h1⟩, k⟩ := k
            refine r_iald dX11_stroke_99 (Or.inl (k_131 hS)) h0 h1 ?_
            exact s_iret dX11_stroke_100 rfl k
          · have k := k.2 h
            refine r_aload_n dX11_stroke_73 rfl ?_
            refine r_iconst dX11_stroke_74 ⟨by decide, by decide⟩ ?_
            refine r_iload_n dX11_stroke_75 rfl ?_
            obtain ⟨h, k⟩ := k
            refine r_imul dX11_stroke_76 h ?_
            refine r_iconst dX11_stroke_77 ⟨by decide, by decide⟩ ?_
            refine r_iload_n dX11_stroke_78 rfl ?_
            obtain ⟨h, k⟩ := k
            refine r_imul dX11_stroke_79 h ?_
            refine r_iconst dX11_stroke_80 ⟨by decide, by decide⟩ ?_
            obtain ⟨h, k⟩ := k
            refine r_iadd dX11_stroke_81 h ?_
            refine s_callVv (z := mX11_apart) [vI (2 * v1), vI ((2 * v1) + 1)] dX11_stroke_82 mv_X11_apart lk_X11_241 rfl (by decide) (k_125 hS) (Nat.le_of_ble_eq_true rfl) (WPs.mono k (fun r82 s82 k => ?_))
            refine r_goto (tgt := 100) dX11_stroke_85 rfl ?_
            exact s_iret dX11_stroke_100 rfl k
        · have k := k.2 h
          refine r_aload_n dX11_stroke_52 rfl ?_
          refine r_getRv dX11_stroke_53 fl_X11_17 rfl (k_125 hS) (f_125_6 hS) (by decide) ?_
          refine r_bipush dX11_stroke_56 (by decide +kernel) ⟨by decide, by decide⟩ ?_
          refine r_iconst dX11_stroke_58 ⟨by decide, by decide⟩ ?_
          refine r_iload_n dX11_stroke_59 rfl ?_
          obtain ⟨h, k⟩ := k
          refine r_imul dX11_stroke_60 h ?_
          obtain ⟨h, k⟩ := k
          refine r_iadd dX11_stroke_61 h ?_
          refine r_iload_n dX11_stroke_62 rfl ?_
          obtain ⟨h, k⟩ := k
          refine r_iadd dX11_stroke_63 h ?_
          obtain ⟨⟨h0, h1⟩, k⟩ := k
          refine r_iald dX11_stroke_64 (Or.inl (k_127 hS)) h0 h1 ?_
          refine r_goto (tgt := 100) dX11_stroke_65 rfl ?_
          exact s_iret dX11_stroke_100 rfl k
      · have k := k.2 h
        refine r_iconst dX11_stroke_45 ⟨by decide, by decide⟩ ?_
        exact s_iret dX11_stroke_46 rfl k
    · have k := k.2 h
      refine r_iload_n dX11_stroke_24 rfl ?_
      refine r_iconst dX11_stroke_25 ⟨by decide, by decide⟩ ?_
      refine r_bipush dX11_stroke_26 (by decide +kernel) ⟨by decide, by decide⟩ ?_
      refine s_callS (z := mX11_in) [vI v2, vI 0, vI 6] dX11_stroke_28 ms_X11_in lk_X11_128 rfl (by decide) (Nat.le_of_ble_eq_true rfl) (WPs.mono k (fun r28 s28 k => ?_))
      refine r_if_eq (tgt := 38) dX11_stroke_31 rfl (fun h => ?_) (fun h => ?_)
      · have k := k.1 h
        refine r_iconst dX11_stroke_38 ⟨by decide, by decide⟩ ?_
        refine s_callVv (z := mX11_isAsked) [vI 0] dX11_stroke_39 mv_X11_isAsked lk_X11_318 rfl (by decide) (k_125 hS) (Nat.le_of_ble_eq_true rfl) (WPs.mono k (fun r39 s39 k => ?_))
        refine r_if_ne (tgt := 47) dX11_stroke_42 rfl (fun h => ?_) (fun h => ?_)
        · have k := k.1 h
          refine r_iload_n dX11_stroke_47 rfl ?_
          refine r_iconst dX11_stroke_48 ⟨by decide, by decide⟩ ?_
          refine r_icmp_ge (tgt := 68) dX11_stroke_49 rfl (fun h => ?_) (fun h => ?_)
          · have k := k.1 h
            refine r_iload_n dX11_stroke_68 rfl ?_
            refine r_iconst dX11_stroke_69 ⟨by decide, by decide⟩ ?_
            refine r_icmp_ne (tgt := 88) dX11_stroke_70 rfl (fun h => ?_) (fun h => ?_)
            · have k := k.1 h
              refine r_aload_n dX11_stroke_88 rfl ?_
              refine r_getRv dX11_stroke_89 fl_X11_29 rfl (k_125 hS) (f_125_22 hS) (by decide) ?_
              refine r_iconst dX11_stroke_92 ⟨by decide, by decide⟩ ?_
              refine r_iload_n dX11_stroke_93 rfl ?_
              obtain ⟨h, k⟩ := k
              refine r_imul dX11_stroke_94 h ?_
              refine r_iload_n dX11_stroke_95 rfl ?_
              obtain ⟨h, k⟩ := k
              refine r_iadd dX11_stroke_96 h ?_
              refine r_iconst dX11_stroke_97 ⟨by decide, by decide⟩ ?_
              obtain ⟨h, k⟩ := k
              refine r_isub dX11_stroke_98 h ?_
              obtain ⟨⟨h0, h1⟩, k⟩ := k
              refine r_iald dX11_stroke_99 (Or.inl (k_131 hS)) h0 h1 ?_
              exact s_iret dX11_stroke_100 rfl k
            · have k := k.2 h
              refine r_aload_n dX11_stroke_73 rfl ?_
              refine r_iconst dX11_stroke_74 ⟨by decide, by decide⟩ ?_
              refine r_iload_n dX11_stroke_75 rfl ?_
              obtain ⟨h, k⟩ := k
              refine r_imul dX11_stroke_76 h ?_
              refine r_iconst dX11_stroke_77 ⟨by decide, by decide⟩ ?_
              refine r_iload_n dX11_stroke_78 rfl ?_
              obtain ⟨h, k⟩ := k
              refine r_imul dX11_stroke_79 h ?_
              refine r_iconst dX11_stroke_80 ⟨by decide, by decide⟩ ?_
              obtain ⟨h, k⟩ := k
              refine r_iadd dX11_stroke_81 h ?_
              refine s_callVv (z := mX11_apart) [vI (2 * v1), vI ((2 * v1) + 1)] dX11_stroke_82 mv_X11_apart lk_X11_241 rfl (by decide) (k_125 hS) (Nat.le_of_ble_eq_true rfl) (WPs.mono k (fun r82 s82 k => ?_))
              refine r_goto (tgt := 100) dX11_stroke_85 rfl ?_
              exact s_iret dX11_stroke_100 rfl k
          · have k := k.2 h
            refine r_aload_n dX11_stroke_52 rfl ?_
            refine r_getRv dX11_stroke_53 fl_X11_17 rfl (k_125 hS) (f_125_6 hS) (by decide) ?_
            refine r_bipush dX11_stroke_56 (by decide +kernel) ⟨by decide, by decide⟩ ?_
            refine r_iconst dX11_stroke_58 ⟨by decide, by decide⟩ ?_
            refine r_iload_n dX11_stroke_59 rfl ?_
            obtain ⟨h, k⟩ := k
            refine r_imul dX11_stroke_60 h ?_
            obtain ⟨h, k⟩ := k
            refine r_iadd dX11_stroke_61 h ?_
            refine r_iload_n dX11_stroke_62 rfl ?_
            obtain ⟨h, k⟩ := k
            refine r_iadd dX11_stroke_63 h ?_
            obtain ⟨⟨h0, h1⟩, k⟩ := k
            refine r_iald dX11_stroke_64 (Or.inl (k_127 hS)) h0 h1 ?_
            refine r_goto (tgt := 100) dX11_stroke_65 rfl ?_
            exact s_iret dX11_stroke_100 rfl k
        · have k := k.2 h
          refine r_iconst dX11_stroke_45 ⟨by decide, by decide⟩ ?_
          exact s_iret dX11_stroke_46 rfl k
      · have k := k.2 h
        refine r_iconst dX11_stroke_34 ⟨by decide, by decide⟩ ?_
        refine r_goto (tgt := 39) dX11_stroke_35 rfl ?_
        refine s_callVv (z := mX11_isAsked) [vI 1] dX11_stroke_39 mv_X11_isAsked lk_X11_318 rfl (by decide) (k_125 hS) (Nat.le_of_ble_eq_true rfl) (WPs.mono k (fun r39 s39 k => ?_))
        refine r_if_ne (tgt := 47) dX11_stroke_42 rfl (fun h => ?_) (fun h => ?_)
        · have k := k.1 h
          refine r_iload_n dX11_stroke_47 rfl ?_
          refine r_iconst dX11_stroke_48 ⟨by decide, by decide⟩ ?_
          refine r_icmp_ge (tgt := 68) dX11_stroke_49 rfl (fun h => ?_) (fun h => ?_)
          · have k := k.1 h
            refine r_iload_n dX11_stroke_68 rfl ?_
            refine r_iconst dX11_stroke_69 ⟨by decide, by decide⟩ ?_
            refine r_icmp_ne (tgt := 88) dX11_stroke_70 rfl (fun h => ?_) (fun h => ?_)
            · have k := k.1 h
              refine r_aload_n dX11_stroke_88 rfl ?_
              refine r_getRv dX11_stroke_89 fl_X11_29 rfl (k_125 hS) (f_125_22 hS) (by decide) ?_
              refine r_iconst dX11_stroke_92 ⟨by decide, by decide⟩ ?_
              refine r_iload_n dX11_stroke_93 rfl ?_
              obtain ⟨h, k⟩ := k
              refine r_imul dX11_stroke_94 h ?_
              refine r_iload_n dX11_stroke_95 rfl ?_
              obtain ⟨h, k⟩ := k
              refine r_iadd dX11_stroke_96 h ?_
              refine r_iconst dX11_stroke_97 ⟨by decide, by decide⟩ ?_
              obtain ⟨h, k⟩ := k
              refine r_isub dX11_stroke_98 h ?_
              obtain ⟨⟨h0, h1⟩, k⟩ := k
              refine r_iald dX11_stroke_99 (Or.inl (k_131 hS)) h0 h1 ?_
              exact s_iret dX11_stroke_100 rfl k
            · have k := k.2 h
              refine r_aload_n dX11_stroke_73 rfl ?_
              refine r_iconst dX11_stroke_74 ⟨by decide, by decide⟩ ?_
              refine r_iload_n dX11_stroke_75 rfl ?_
              obtain ⟨h, k⟩ := k
              refine r_imul dX11_stroke_76 h ?_
              refine r_iconst dX11_stroke_77 ⟨by decide, by decide⟩ ?_
              refine r_iload_n dX11_stroke_78 rfl ?_
              obtain ⟨h, k⟩ := k
              refine r_imul dX11_stroke_79 h ?_
              refine r_iconst dX11_stroke_80 ⟨by decide, by decide⟩ ?_
              obtain ⟨h, k⟩ := k
              refine r_iadd dX11_stroke_81 h ?_
              refine s_callVv (z := mX11_apart) [vI (2 * v1), vI ((2 * v1) + 1)] dX11_stroke_82 mv_X11_apart lk_X11_241 rfl (by decide) (k_125 hS) (Nat.le_of_ble_eq_true rfl) (WPs.mono k (fun r82 s82 k => ?_))
              refine r_goto (tgt := 100) dX11_stroke_85 rfl ?_
              exact s_iret dX11_stroke_100 rfl k
          · have k := k.2 h
            refine r_aload_n dX11_stroke_52 rfl ?_
            refine r_getRv dX11_stroke_53 fl_X11_17 rfl (k_125 hS) (f_125_6 hS) (by decide) ?_
            refine r_bipush dX11_stroke_56 (by decide +kernel) ⟨by decide, by decide⟩ ?_
            refine r_iconst dX11_stroke_58 ⟨by decide, by decide⟩ ?_
            refine r_iload_n dX11_stroke_59 rfl ?_
            obtain ⟨h, k⟩ := k
            refine r_imul dX11_stroke_60 h ?_
            obtain ⟨h, k⟩ := k
            refine r_iadd dX11_stroke_61 h ?_
            refine r_iload_n dX11_stroke_62 rfl ?_
            obtain ⟨h, k⟩ := k
            refine r_iadd dX11_stroke_63 h ?_
            obtain ⟨⟨h0, h1⟩, k⟩ := k
            refine r_iald dX11_stroke_64 (Or.inl (k_127 hS)) h0 h1 ?_
            refine r_goto (tgt := 100) dX11_stroke_65 rfl ?_
            exact s_iret dX11_stroke_100 rfl k
        · have k := k.2 h
          refine r_iconst dX11_stroke_45 ⟨by decide, by decide⟩ ?_
          exact s_iret dX11_stroke_46 rfl k
theorem e_X11_meeting {v1 v2 : Int} {S : ShT} {σ : StT} {Q : Int → StT → Prop} (hS : SHP S) (k : WPs mX11_in [vI v2, vI 0, vI 4] S σ (fun r4 s4 => WPs mX11_isAsked [vR 125, vI r4] S s4 (fun r7 s7 => (¬ r7 = 0 → inR ((s7 125 26) - 1) ∧ WPs mX11_in [vI v1, vI 0, vI ((s7 125 26) - 1)] S s7 (fun r23 s23 => (¬ r23 = 0 → (v2 < 0 ∨ 3 < v2 → (0 ≤ v1 ∧ v1 < 48) ∧ Q (s23 132 v1.toNat) s23) ∧ (v2 = 0 → (0 ≤ v1 ∧ v1 < 48) ∧ WPs mX11_endX [vR 125, vI (s23 132 v1.toNat)] S s23 (fun r75 s75 => Q r75 s75)) ∧ (v2 = 1 → (0 ≤ v1 ∧ v1 < 48) ∧ WPs mX11_endY [vR 125, vI (s23 132 v1.toNat)] S s23 (fun r86 s86 => Q r86 s86)) ∧ (v2 = 2 → (0 ≤ v1 ∧ v1 < 48) ∧ Q (s23 133 v1.toNat) s23) ∧ (v2 = 3 → (0 ≤ v1 ∧ v1 < 48) ∧ Q (s23 134 v1.toNat) s23)) ∧ (r23 = 0 → WPs mX11_no [vR 125, vI 1] S s23 (fun r31 s31 => Q r31 s31)))) ∧ (r7 = 0 → Q (-1) s7)))) : WPs mX11_meeting [vR 125, vI v1, vI v2] S σ Q := by
  refine s_entry (by decide) (Nat.le_of_ble_eq_true rfl) rfl rfl ?_
  refine r_aload_n dX11_meeting_0 rfl ?_
  refine r_iload_n dX11_meeting_1 rfl ?_
  refine r_iconst dX11_meeting_2 ⟨by decide, by decide⟩ ?_
  refine r_iconst dX11_meeting_3 ⟨by decide, by decide⟩ ?_
  refine s_callS (z := mX11_in) [vI v2, vI 0, vI 4] dX11_meeting_4 ms_X11_in lk_X11_128 rfl (by decide) (Nat.le_of_ble_eq_true rfl) (WPs.mono k (fun r4 s4 k => ?_))
  refine s_callVv (z := mX11_isAsked) [vI r4] dX11_meeting_7 mv_X11_isAsked lk_X11_318 rfl (by decide) (k_125 hS) (Nat.le_of_ble_eq_true rfl) (WPs.mono k (fun r7 s7 k => ?_))
  refine r_if_ne (tgt := 15) dX11_meeting_10 rfl (fun h => ?_) (fun h => ?_)
  · have k := k.1 h
    refine r_iload_n dX11_meeting_15 rfl ?_
    refine r_iconst dX11_meeting_16 ⟨by decide, by decide⟩ ?_
    refine r_aload_n dX11_meeting_17 rfl ?_
    refine r_getIv dX11_meeting_18 fl_X11_249 rfl (k_125 hS) ?_
    refine r_iconst dX11_meeting_21 ⟨by decide, by decide⟩ ?_
    obtain ⟨h, k⟩ := k
    refine r_isub dX11_meeting_22 h ?_
    refine s_callS (z := mX11_in) [vI v1, vI 0, vI ((s7 125 26) - 1)] dX11_meeting_23 ms_X11_in lk_X11_128 rfl (by decide) (Nat.le_of_ble_eq_true rfl) (WPs.mono k (fun r23 s23 k => ?_))
    refine r_if_ne (tgt := 35) dX11_meeting_26 rfl (fun h => ?_) (fun h => ?_)
    · have k := k.1 h
      refine r_iload_n dX11_meeting_35 rfl ?_
      refine r_tsw (dt := 104) [68, 79, 90, 97] dX11_meeting_36 rfl (by decide +kernel) rfl (fun h => ?_) ⟨fun h => ?_, fun h => ?_, fun h => ?_, fun h => ?_, trivial⟩
      · have k := k.1 h
        refine r_aload_n dX11_meeting_104 rfl ?_
        refine r_getRv dX11_meeting_105 fl_X11_32 rfl (k_125 hS) (f_125_23 hS) (by decide) ?_
        refine r_iload_n dX11_meeting_108 rfl ?_
        obtain ⟨⟨h0, h1⟩, k⟩ := k
        refine r_iald dX11_meeting_109 (Or.inl (k_132 hS)) h0 h1 ?_
        exact s_iret dX11_meeting_110 rfl k
      · have k := k.2.1 h
        refine r_aload_n dX11_meeting_68 rfl ?_
        refine r_aload_n dX11_meeting_69 rfl ?_
        refine r_getRv dX11_meeting_70 fl_X11_32 rfl (k_125 hS) (f_125_23 hS) (by decide) ?_
        refine r_iload_n dX11_meeting_73 rfl ?_
        obtain ⟨⟨h0, h1⟩, k⟩ := k
        refine r_iald dX11_meeting_74 (Or.inl (k_132 hS)) h0 h1 ?_
        refine s_callVv (z := mX11_endX) [vI (s23 132 v1.toNat)] dX11_meeting_75 mv_X11_endX lk_X11_232 rfl (by decide) (k_125 hS) (Nat.le_of_ble_eq_true rfl) (WPs.mono k (fun r75 s75 k => ?_))
        exact s_iret dX11_meeting_78 rfl k
      · have k := k.2.2.1 h
        refine r_aload_n dX11_meeting_79 rfl ?_
        refine r_aload_n dX11_meeting_80 rfl ?_
        refine r_getRv dX11_meeting_81 fl_X11_32 rfl (k_125 hS) (f_125_23 hS) (by decide) ?_
        refine r_iload_n dX11_meeting_84 rfl ?_
        obtain ⟨⟨h0, h1⟩, k⟩ := k
        refine r_iald dX11_meeting_85 (Or.inl (k_132 hS)) h0 h1 ?_
        refine s_callVv (z := mX11_endY) [vI (s23 132 v1.toNat)] dX11_meeting_86 mv_X11_endY lk_X11_238 rfl (by decide) (k_125 hS) (Nat.le_of_ble_eq_true rfl) (WPs.mono k (fun r86 s86 k => ?_))
        exact s_iret dX11_meeting_89 rfl k
      · have k := k.2.2.2.1 h
        refine r_aload_n dX11_meeting_90 rfl ?_
        refine r_getRv dX11_meeting_91 fl_X11_35 rfl (k_125 hS) (f_125_24 hS) (by decide) ?_
        refine r_iload_n dX11_meeting_94 rfl ?_
        obtain ⟨⟨h0, h1⟩, k⟩ := k
        refine r_iald dX11_meeting_95 (Or.inl (k_133 hS)) h0 h1 ?_
        exact s_iret dX11_meeting_96 rfl k
      · have k := k.2.2.2.2 h
        refine r_aload_n dX11_meeting_97 rfl ?_
        refine r_getRv dX11_meeting_98 fl_X11_38 rfl (k_125 hS) (f_125_25 hS) (by decide) ?_
        refine r_iload_n dX11_meeting_101 rfl ?_
        obtain ⟨⟨h0, h1⟩, k⟩ := k
        refine r_iald dX11_meeting_102 (Or.inl (k_134 hS)) h0 h1 ?_
        exact s_iret dX11_meeting_103 rfl k
    · have k := k.2 h
      refine r_aload_n dX11_meeting_29 rfl ?_
      refine r_iconst dX11_meeting_30 ⟨by decide, by decide⟩ ?_
      refine s_callVv (z := mX11_no) [vI 1] dX11_meeting_31 mv_X11_no lk_X11_216 rfl (by decide) (k_125 hS) (Nat.le_of_ble_eq_true rfl) (WPs.mono k (fun r31 s31 k => ?_))
      exact s_iret dX11_meeting_34 rfl k
  · have k := k.2 h
    refine r_iconst dX11_meeting_13 ⟨by decide, by decide⟩ ?_
    exact s_iret dX11_meeting_14 rfl k
theorem e_X11_strokesOf {v1 : Int} {S : ShT} {σ : StT} {Q : Int → StT → Prop} (hS : SHP S) (k : AWs mX11_strokesOf 4 [(0, vR 125), (1, vI v1), (2, vI 0), (3, vI 0)] [] S σ Q) : WPs mX11_strokesOf [vR 125, vI v1] S σ Q := by
  refine s_entry (by decide) (Nat.le_of_ble_eq_true rfl) rfl rfl ?_
  refine r_iconst dX11_strokesOf_0 ⟨by decide, by decide⟩ ?_
  refine r_istore_n dX11_strokesOf_1 (by decide) rfl rfl ?_
  refine r_iconst dX11_strokesOf_2 ⟨by decide, by decide⟩ ?_
  refine r_istore_n dX11_strokesOf_3 (by decide) rfl rfl ?_
  exact k
theorem t_X11_strokesOf_4 {v1 v2 v3 : Int} {S : ShT} {σ : StT} {Q : Int → StT → Prop} (hS : SHP S) (k : (σ 127 2 ≤ v3 → Q v2 σ) ∧ (¬ (σ 127 2 ≤ v3) → inR (2 * v3) ∧ ((0 ≤ 2 * v3 ∧ 2 * v3 < 48) ∧ ((0 ≤ σ 131 (2 * v3).toNat ∧ σ 131 (2 * v3).toNat < 48) ∧ ((¬ σ 134 (σ 131 (2 * v3).toNat).toNat = v1 → inR (v2 + 0) ∧ inR (v3 + 1) ∧ AWs mX11_strokesOf 4 [(0, vR 125), (1, vI v1), (2, vI (v2 + 0)), (3, vI (v3 + 1))] [] S σ Q) ∧ (σ 134 (σ 131 (2 * v3).toNat).toNat = v1 → inR (v2 + 1) ∧ inR (v3 + 1) ∧ AWs mX11_strokesOf 4 [(0, vR 125), (1, vI v1), (2, vI (v2 + 1)), (3, vI (v3 + 1))] [] S σ Q)))))) : AWs mX11_strokesOf 4 [(0, vR 125), (1, vI v1), (2, vI v2), (3, vI v3)] [] S σ Q := by
  refine r_iload_n dX11_strokesOf_4 rfl ?_
  refine r_aload_n dX11_strokesOf_5 rfl ?_
  refine r_getRv dX11_strokesOf_6 fl_X11_17 rfl (k_125 hS) (f_125_6 hS) (by decide) ?_
  refine r_iconst dX11_strokesOf_9 ⟨by decide, by decide⟩ ?_
  refine r_iald dX11_strokesOf_10 (Or.inl (k_127 hS)) (by decide) (by decide) ?_
  refine r_icmp_ge (tgt := 45) dX11_strokesOf_11 rfl (fun h => ?_) (fun h => ?_)
  · have k := k.1 h
    refine r_iload_n dX11_strokesOf_45 rfl ?_
    exact s_iret dX11_strokesOf_46 rfl k
  · have k := k.2 h
    refine r_iload_n dX11_strokesOf_14 rfl ?_
    refine r_aload_n dX11_strokesOf_15 rfl ?_
    refine r_getRv dX11_strokesOf_16 fl_X11_38 rfl (k_125 hS) (f_125_25 hS) (by decide) ?_
    refine r_aload_n dX11_strokesOf_19 rfl ?_
    refine r_getRv dX11_strokesOf_20 fl_X11_29 rfl (k_125 hS) (f_125_22 hS) (by decide) ?_
    refine r_iconst dX11_strokesOf_23 ⟨by decide, by decide⟩ ?_
    refine r_iload_n dX11_strokesOf_24 rfl ?_
    obtain ⟨h, k⟩ := k
    refine r_imul dX11_strokesOf_25 h ?_
    obtain ⟨⟨h0, h1⟩, k⟩ := k
    refine r_iald dX11_strokesOf_26 (Or.inl (k_131 hS)) h0 h1 ?_
    obtain ⟨⟨h0, h1⟩, k⟩ := k
    refine r_iald dX11_strokesOf_27 (Or.inl (k_134 hS)) h0 h1 ?_
    refine r_iload_n dX11_strokesOf_28 rfl ?_
    refine r_icmp_ne (tgt := 36) dX11_strokesOf_29 rfl (fun h => ?_) (fun h => ?_)
    · have k := k.1 h
      refine r_iconst dX11_strokesOf_36 ⟨by decide, by decide⟩ ?_
      obtain ⟨h, k⟩ := k
      refine r_iadd dX11_strokesOf_37 h ?_
      refine r_istore_n dX11_strokesOf_38 (by decide) rfl rfl ?_
      obtain ⟨h, k⟩ := k
      refine r_iinc dX11_strokesOf_39 rfl (by decide) rfl rfl h ?_
      refine r_goto (tgt := 4) dX11_strokesOf_42 rfl ?_
      exact k
    · have k := k.2 h
      refine r_iconst dX11_strokesOf_32 ⟨by decide, by decide⟩ ?_
      refine r_goto (tgt := 37) dX11_strokesOf_33 rfl ?_
      obtain ⟨h, k⟩ := k
      refine r_iadd dX11_strokesOf_37 h ?_
      refine r_istore_n dX11_strokesOf_38 (by decide) rfl rfl ?_
      obtain ⟨h, k⟩ := k
      refine r_iinc dX11_strokesOf_39 rfl (by decide) rfl rfl h ?_
      refine r_goto (tgt := 4) dX11_strokesOf_42 rfl ?_
      exact k
theorem e_X11_meetingsOf {v1 v2 : Int} {S : ShT} {σ : StT} {Q : Int → StT → Prop} (hS : SHP S) (k : AWs mX11_meetingsOf 8 [(0, vR 125), (1, vI v1), (2, vI v2), (3, vI 0), (4, vI (-1)), (5, vI 0)] [] S σ Q) : WPs mX11_meetingsOf [vR 125, vI v1, vI v2] S σ Q := by
  refine s_entry (by decide) (Nat.le_of_ble_eq_true rfl) rfl rfl ?_
  refine r_iconst dX11_meetingsOf_0 ⟨by decide, by decide⟩ ?_
  refine r_istore_n dX11_meetingsOf_1 (by decide) rfl rfl ?_
  refine r_iconst dX11_meetingsOf_2 ⟨by decide, by decide⟩ ?_
  refine r_istore dX11_meetingsOf_3 (by decide) rfl rfl ?_
  refine r_iconst dX11_meetingsOf_5 ⟨by decide, by decide⟩ ?_
  refine r_istore dX11_meetingsOf_6 (by decide) rfl rfl ?_
  exact k
theorem t_X11_meetingsOf_8 {v1 v2 v3 v4 v5 : Int} {S : ShT} {σ : StT} {Q : Int → StT → Prop} (hS : SHP S) (k : (σ 125 26 ≤ v5 → (¬ v2 = 2 → Q v3 σ) ∧ (v2 = 2 → Q v4 σ)) ∧ (¬ (σ 125 26 ≤ v5) → (0 ≤ v5 ∧ v5 < 48) ∧ ((¬ σ 134 v5.toNat = v1 → inR (v3 + 0) ∧ inR (v5 + 1) ∧ AWs mX11_meetingsOf 8 [(0, vR 125), (1, vI v1), (2, vI v2), (3, vI (v3 + 0)), (4, vI v4), (5, vI (v5 + 1))] [] S σ Q) ∧ (σ 134 v5.toNat = v1 → (v2 = 0 → inR (v3 + 1) ∧ ((¬ v4 = -1 → inR (v5 + 1) ∧ AWs mX11_meetingsOf 8 [(0, vR 125), (1, vI v1), (2, vI v2), (3, vI (v3 + 1)), (4, vI v4), (5, vI (v5 + 1))] [] S σ Q) ∧ (v4 = -1 → inR (v5 + 1) ∧ AWs mX11_meetingsOf 8 [(0, vR 125), (1, vI v1), (2, vI v2), (3, vI (v3 + 1)), (4, vI v5), (5, vI (v5 + 1))] [] S σ Q))) ∧ (¬ (v2 = 0) → WPs mX11_isOdd [vR 125, vI v5] S σ (fun r48 s48 => (r48 = 0 → inR (v3 + 0) ∧ ((¬ v4 = -1 → inR (v5 + 1) ∧ AWs mX11_meetingsOf 8 [(0, vR 125), (1, vI v1), (2, vI v2), (3, vI (v3 + 0)), (4, vI v4), (5, vI (v5 + 1))] [] S s48 Q) ∧ (v4 = -1 → inR (v5 + 1) ∧ AWs mX11_meetingsOf 8 [(0, vR 125), (1, vI v1), (2, vI v2), (3, vI (v3 + 0)), (4, vI v5), (5, vI (v5 + 1))] [] S s48 Q))) ∧ (¬ (r48 = 0) → inR (v3 + 1) ∧ ((¬ v4 = -1 → inR (v5 + 1) ∧ AWs mX11_meetingsOf 8 [(0, vR 125), (1, vI v1), (2, vI v2), (3, vI (v3 + 1)), (4, vI v4), (5, vI (v5 + 1))] [] S s48 Q) ∧ (v4 = -1 → inR (v5 + 1) ∧ AWs mX11_meetingsOf 8 [(0, vR 125), (1, vI v1), (2, vI v2), (3, vI (v3 + 1)), (4, vI v5), (5, vI (v5 + 1))] [] S s48 Q))))))))) : AWs mX11_meetingsOf 8 [(0, vR 125), (1, vI v1), (2, vI v2), (3, vI v3), (4, vI v4), (5, vI v5)] [] S σ Q := by
  refine r_iload dX11_meetingsOf_8 rfl ?_
  refine r_aload_n dX11_meetingsOf_10 rfl ?_
  refine r_getIv dX11_meetingsOf_11 fl_X11_249 rfl (k_125 hS) ?_
  refine r_icmp_ge (tgt := 87) dX11_meetingsOf_14 rfl (fun h => ?_) (fun h => ?_)
  · have k := k.1 h
    refine r_iload_n dX11_meetingsOf_87 rfl ?_
    refine r_iconst dX11_meetingsOf_88 ⟨by decide, by decide⟩ ?_
    refine r_icmp_ne (tgt := 97) dX11_meetingsOf_89 rfl (fun h => ?_) (fun h => ?_)
    · have k := k.1 h
      refine r_iload_n dX11_meetingsOf_97 rfl ?_
      exact s_iret dX11_meetingsOf_98 rfl k
    · have k := k.2 h
      refine r_iload dX11_meetingsOf_92 rfl ?_
      refine r_goto (tgt := 98) dX11_meetingsOf_94 rfl ?_
      exact s_iret dX11_meetingsOf_98 rfl k
  · have k := k.2 h
    refine r_aload_n dX11_meetingsOf_17 rfl ?_
    refine r_getRv dX11_meetingsOf_18 fl_X11_38 rfl (k_125 hS) (f_125_25 hS) (by decide) ?_
    refine r_iload dX11_meetingsOf_21 rfl ?_
    obtain ⟨⟨h0, h1⟩, k⟩ := k
    refine r_iald dX11_meetingsOf_23 (Or.inl (k_134 hS)) h0 h1 ?_
    refine r_iload_n dX11_meetingsOf_24 rfl ?_
    refine r_icmp_ne (tgt := 32) dX11_meetingsOf_25 rfl (fun h => ?_) (fun h => ?_)
    · have k := k.1 h
      refine r_iconst dX11_meetingsOf_32 ⟨by decide, by decide⟩ ?_
      refine r_istore dX11_meetingsOf_33 (by decide) rfl rfl ?_
      refine r_iload_n dX11_meetingsOf_35 rfl ?_
      refine r_iload dX11_meetingsOf_36 rfl ?_
      refine r_if_eq (tgt := 58) dX11_meetingsOf_38 rfl (fun h => ?_) (fun h => ?_)
      · skip
        refine r_iconst dX11_meetingsOf_58 ⟨by decide, by decide⟩ ?_
        obtain ⟨h, k⟩ := k
        refine r_iadd dX11_meetingsOf_59 h ?_
        refine r_istore_n dX11_meetingsOf_60 (by decide) rfl rfl ?_
        refine r_iload dX11_meetingsOf_61 rfl ?_
        refine r_if_eq (tgt := 77) dX11_meetingsOf_63 rfl (fun h => ?_) (fun h => ?_)
        · skip
          refine r_iload dX11_meetingsOf_77 rfl ?_
          refine r_istore dX11_meetingsOf_79 (by decide) rfl rfl ?_
          obtain ⟨h, k⟩ := k
          refine r_iinc dX11_meetingsOf_81 rfl (by decide) rfl rfl h ?_
          refine r_goto (tgt := 8) dX11_meetingsOf_84 rfl ?_
          refine r_loc [0, 1, 2, 3, 4, 5] rfl ?_
          exact k
        · exact absurd (by decide) h
      · exact absurd (by decide) h
    · have k := k.2 h
      refine r_iconst dX11_meetingsOf_28 ⟨by decide, by decide⟩ ?_
      refine r_goto (tgt := 33) dX11_meetingsOf_29 rfl ?_
      refine r_istore dX11_meetingsOf_33 (by decide) rfl rfl ?_
      refine r_iload_n dX11_meetingsOf_35 rfl ?_
      refine r_iload dX11_meetingsOf_36 rfl ?_
      refine r_if_eq (tgt := 58) dX11_meetingsOf_38 rfl (fun h => ?_) (fun h => ?_)
      · exact absurd h (by decide)
      · skip
        refine r_iload_n dX11_meetingsOf_41 rfl ?_
        refine r_if_eq (tgt := 54) dX11_meetingsOf_42 rfl (fun h => ?_) (fun h => ?_)
        · have k := k.1 h
          refine r_iconst dX11_meetingsOf_54 ⟨by decide, by decide⟩ ?_
          refine r_goto (tgt := 59) dX11_meetingsOf_55 rfl ?_
          obtain ⟨h, k⟩ := k
          refine r_iadd dX11_meetingsOf_59 h ?_
          refine r_istore_n dX11_meetingsOf_60 (by decide) rfl rfl ?_
          refine r_iload dX11_meetingsOf_61 rfl ?_
          refine r_if_eq (tgt := 77) dX11_meetingsOf_63 rfl (fun h => ?_) (fun h => ?_)
          · exact absurd h (by decide)
          · skip
            refine r_iload dX11_meetingsOf_66 rfl ?_
            refine r_iconst dX11_meetingsOf_68 ⟨by decide, by decide⟩ ?_
            refine r_icmp_ne (tgt := 77) dX11_meetingsOf_69 rfl (fun h => ?_) (fun h => ?_)
            · have k := k.1 h
              refine r_iload dX11_meetingsOf_77 rfl ?_
              refine r_istore dX11_meetingsOf_79 (by decide) rfl rfl ?_
              obtain ⟨h, k⟩ := k
              refine r_iinc dX11_meetingsOf_81 rfl (by decide) rfl rfl h ?_
              refine r_goto (tgt := 8) dX11_meetingsOf_84 rfl ?_
              refine r_loc [0, 1, 2, 3, 4, 5] rfl ?_
              exact k
            · have k := k.2 h
              refine r_iload dX11_meetingsOf_72 rfl ?_
              refine r_goto (tgt := 79) dX11_meetingsOf_74 rfl ?_
              refine r_istore dX11_meetingsOf_79 (by decide) rfl rfl ?_
              obtain ⟨h, k⟩ := k
              refine r_iinc dX11_meetingsOf_81 rfl (by decide) rfl rfl h ?_
              refine r_goto (tgt := 8) dX11_meetingsOf_84 rfl ?_
              refine r_loc [0, 1, 2, 3, 4, 5] rfl ?_
              exact k
        · have k := k.2 h
          refine r_aload_n dX11_meetingsOf_45 rfl ?_
          refine r_iload dX11_meetingsOf_46 rfl ?_
          refine s_callVv (z := mX11_isOdd) [vI v5] dX11_meetingsOf_48 mv_X11_isOdd lk_X11_264 rfl (by decide) (k_125 hS) (Nat.le_of_ble_eq_true rfl) (WPs.mono k (fun r48 s48 k => ?_))
          refine r_if_eq (tgt := 58) dX11_meetingsOf_51 rfl (fun h => ?_) (fun h => ?_)
          · have k := k.1 h
            refine r_iconst dX11_meetingsOf_58 ⟨by decide, by decide⟩ ?_
            obtain ⟨h, k⟩ := k
            refine r_iadd dX11_meetingsOf_59 h ?_
            refine r_istore_n dX11_meetingsOf_60 (by decide) rfl rfl ?_
            refine r_iload dX11_meetingsOf_61 rfl ?_
            refine r_if_eq (tgt := 77) dX11_meetingsOf_63 rfl (fun h => ?_) (fun h => ?_)
            · exact absurd h (by decide)
            · skip
              refine r_iload dX11_meetingsOf_66 rfl ?_
              refine r_iconst dX11_meetingsOf_68 ⟨by decide, by decide⟩ ?_
              refine r_icmp_ne (tgt := 77) dX11_meetingsOf_69 rfl (fun h => ?_) (fun h => ?_)
              · have k := k.1 h
                refine r_iload dX11_meetingsOf_77 rfl ?_
                refine r_istore dX11_meetingsOf_79 (by decide) rfl rfl ?_
                obtain ⟨h, k⟩ := k
                refine r_iinc dX11_meetingsOf_81 rfl (by decide) rfl rfl h ?_
                refine r_goto (tgt := 8) dX11_meetingsOf_84 rfl ?_
                refine r_loc [0, 1, 2, 3, 4, 5] rfl ?_
                exact k
              · have k := k.2 h
                refine r_iload dX11_meetingsOf_72 rfl ?_
                refine r_goto (tgt := 79) dX11_meetingsOf_74 rfl ?_
                refine r_istore dX11_meetingsOf_79 (by decide) rfl rfl ?_
                obtain ⟨h, k⟩ := k
                refine r_iinc dX11_meetingsOf_81 rfl (by decide) rfl rfl h ?_
                refine r_goto (tgt := 8) dX11_meetingsOf_84 rfl ?_
                refine r_loc [0, 1, 2, 3, 4, 5] rfl ?_
                exact k
          · have k := k.2 h
            refine r_iconst dX11_meetingsOf_54 ⟨by decide, by decide⟩ ?_
            refine r_goto (tgt := 59) dX11_meetingsOf_55 rfl ?_
            obtain ⟨h, k⟩ := k
            refine r_iadd dX11_meetingsOf_59 h ?_
            refine r_istore_n dX11_meetingsOf_60 (by decide) rfl rfl ?_
            refine r_iload dX11_meetingsOf_61 rfl ?_
            refine r_if_eq (tgt := 77) dX11_meetingsOf_63 rfl (fun h => ?_) (fun h => ?_)
            · exact absurd h (by decide)
            · skip
              refine r_iload dX11_meetingsOf_66 rfl ?_
              refine r_iconst dX11_meetingsOf_68 ⟨by decide, by decide⟩ ?_
              refine r_icmp_ne (tgt := 77) dX11_meetingsOf_69 rfl (fun h => ?_) (fun h => ?_)
              · have k := k.1 h
                refine r_iload dX11_meetingsOf_77 rfl ?_
                refine r_istore dX11_meetingsOf_79 (by decide) rfl rfl ?_
                obtain ⟨h, k⟩ := k
                refine r_iinc dX11_meetingsOf_81 rfl (by decide) rfl rfl h ?_
                refine r_goto (tgt := 8) dX11_meetingsOf_84 rfl ?_
                refine r_loc [0, 1, 2, 3, 4, 5] rfl ?_
                exact k
              · have k := k.2 h
                refine r_iload dX11_meetingsOf_72 rfl ?_
                refine r_goto (tgt := 79) dX11_meetingsOf_74 rfl ?_
                refine r_istore dX11_meetingsOf_79 (by decide) rfl rfl ?_
                obtain ⟨h, k⟩ := k
                refine r_iinc dX11_meetingsOf_81 rfl (by decide) rfl rfl h ?_
                refine r_goto (tgt := 8) dX11_meetingsOf_84 rfl ?_
                refine r_loc [0, 1, 2, 3, 4, 5] rfl ?_
                exact k
theorem e_X11_trailsOf {v1 : Int} {S : ShT} {σ : StT} {Q : Int → StT → Prop} (hS : SHP S) (k : AWs mX11_trailsOf 4 [(0, vR 125), (1, vI v1), (2, vI 0), (3, vI 0)] [] S σ Q) : WPs mX11_trailsOf [vR 125, vI v1] S σ Q := by
  refine s_entry (by decide) (Nat.le_of_ble_eq_true rfl) rfl rfl ?_
  refine r_iconst dX11_trailsOf_0 ⟨by decide, by decide⟩ ?_
  refine r_istore_n dX11_trailsOf_1 (by decide) rfl rfl ?_
  refine r_iconst dX11_trailsOf_2 ⟨by decide, by decide⟩ ?_
  refine r_istore_n dX11_trailsOf_3 (by decide) rfl rfl ?_
  exact k
theorem t_X11_trailsOf_4 {v1 v2 v3 : Int} {S : ShT} {σ : StT} {Q : Int → StT → Prop} (hS : SHP S) (k : (σ 125 50 ≤ v3 → Q v2 σ) ∧ (¬ (σ 125 50 ≤ v3) → (0 ≤ v3 ∧ v3 < 24) ∧ ((¬ σ 149 v3.toNat = v1 → inR (v2 + 0) ∧ inR (v3 + 1) ∧ AWs mX11_trailsOf 4 [(0, vR 125), (1, vI v1), (2, vI (v2 + 0)), (3, vI (v3 + 1))] [] S σ Q) ∧ (σ 149 v3.toNat = v1 → inR (v2 + 1) ∧ inR (v3 + 1) ∧ AWs mX11_trailsOf 4 [(0, vR 125), (1, vI v1), (2, vI (v2 + 1)), (3, vI (v3 + 1))] [] S σ Q)))) : AWs mX11_trailsOf 4 [(0, vR 125), (1, vI v1), (2, vI v2), (3, vI v3)] [] S σ Q := by
  refine r_iload_n dX11_trailsOf_4 rfl ?_
  refine r_aload_n dX11_trailsOf_5 rfl ?_
  refine r_getIv dX11_trailsOf_6 fl_X11_296 rfl (k_125 hS) ?_
  refine r_icmp_ge (tgt := 36) dX11_trailsOf_9 rfl (fun h => ?_) (fun h => ?_)
  · have k := k.1 h
    refine r_iload_n dX11_trailsOf_36 rfl ?_
    exact s_iret dX11_trailsOf_37 rfl k
  · have k := k.2 h
    refine r_iload_n dX11_trailsOf_12 rfl ?_
    refine r_aload_n dX11_trailsOf_13 rfl ?_
    refine r_getRv dX11_trailsOf_14 fl_X11_84 rfl (k_125 hS) (f_125_45 hS) (by decide) ?_
    refine r_iload_n dX11_trailsOf_17 rfl ?_
    obtain ⟨⟨h0, h1⟩, k⟩ := k
    refine r_iald dX11_trailsOf_18 (Or.inl (k_149 hS)) h0 h1 ?_
    refine r_iload_n dX11_trailsOf_19 rfl ?_
    refine r_icmp_ne (tgt := 27) dX11_trailsOf_20 rfl (fun h => ?_) (fun h => ?_)
    · have k := k.1 h
      refine r_iconst dX11_trailsOf_27 ⟨by decide, by decide⟩ ?_
      obtain ⟨h, k⟩ := k
      refine r_iadd dX11_trailsOf_28 h ?_
      refine r_istore_n dX11_trailsOf_29 (by decide) rfl rfl ?_
      obtain ⟨h, k⟩ := k
      refine r_iinc dX11_trailsOf_30 rfl (by decide) rfl rfl h ?_
      refine r_goto (tgt := 4) dX11_trailsOf_33 rfl ?_
      exact k
    · have k := k.2 h
      refine r_iconst dX11_trailsOf_23 ⟨by decide, by decide⟩ ?_
      refine r_goto (tgt := 28) dX11_trailsOf_24 rfl ?_
      obtain ⟨h, k⟩ := k
      refine r_iadd dX11_trailsOf_28 h ?_
      refine r_istore_n dX11_trailsOf_29 (by decide) rfl rfl ?_
      obtain ⟨h, k⟩ := k
      refine r_iinc dX11_trailsOf_30 rfl (by decide) rfl rfl h ?_
      refine r_goto (tgt := 4) dX11_trailsOf_33 rfl ?_
      exact k
theorem e_X11_pairsOf {v1 : Int} {S : ShT} {σ : StT} {Q : Int → StT → Prop} (hS : SHP S) (k : AWs mX11_pairsOf 4 [(0, vR 125), (1, vI v1), (2, vI 0), (3, vI 0)] [] S σ Q) : WPs mX11_pairsOf [vR 125, vI v1] S σ Q := by
  refine s_entry (by decide) (Nat.le_of_ble_eq_true rfl) rfl rfl ?_
  refine r_iconst dX11_pairsOf_0 ⟨by decide, by decide⟩ ?_
  refine r_istore_n dX11_pairsOf_1 (by decide) rfl rfl ?_
  refine r_iconst dX11_pairsOf_2 ⟨by decide, by decide⟩ ?_
  refine r_istore_n dX11_pairsOf_3 (by decide) rfl rfl ?_
  exact k
theorem t_X11_pairsOf_4 {v1 v2 v3 : Int} {S : ShT} {σ : StT} {Q : Int → StT → Prop} (hS : SHP S) (k : (σ 125 31 ≤ v3 → Q v2 σ) ∧ (¬ (σ 125 31 ≤ v3) → (0 ≤ v3 ∧ v3 < 24) ∧ ((¬ σ 137 v3.toNat = v1 → inR (v2 + 0) ∧ inR (v3 + 1) ∧ AWs mX11_pairsOf 4 [(0, vR 125), (1, vI v1), (2, vI (v2 + 0)), (3, vI (v3 + 1))] [] S σ Q) ∧ (σ 137 v3.toNat = v1 → WPs mX11_farOf [vR 125, vI v3] S σ (fun r25 s25 => inR (v2 + r25) ∧ inR (v3 + 1) ∧ AWs mX11_pairsOf 4 [(0, vR 125), (1, vI v1), (2, vI (v2 + r25)), (3, vI (v3 + 1))] [] S s25 Q))))) : AWs mX11_pairsOf 4 [(0, vR 125), (1, vI v1), (2, vI v2), (3, vI v3)] [] S σ Q := by
  refine r_iload_n dX11_pairsOf_4 rfl ?_
  refine r_aload_n dX11_pairsOf_5 rfl ?_
  refine r_getIv dX11_pairsOf_6 fl_X11_258 rfl (k_125 hS) ?_
  refine r_icmp_ge (tgt := 40) dX11_pairsOf_9 rfl (fun h => ?_) (fun h => ?_)
  · have k := k.1 h
    refine r_iload_n dX11_pairsOf_40 rfl ?_
    exact s_iret dX11_pairsOf_41 rfl k
  · have k := k.2 h
    refine r_iload_n dX11_pairsOf_12 rfl ?_
    refine r_aload_n dX11_pairsOf_13 rfl ?_
    refine r_getRv dX11_pairsOf_14 fl_X11_47 rfl (k_125 hS) (f_125_30 hS) (by decide) ?_
    refine r_iload_n dX11_pairsOf_17 rfl ?_
    obtain ⟨⟨h0, h1⟩, k⟩ := k
    refine r_iald dX11_pairsOf_18 (Or.inl (k_137 hS)) h0 h1 ?_
    refine r_iload_n dX11_pairsOf_19 rfl ?_
    refine r_icmp_ne (tgt := 31) dX11_pairsOf_20 rfl (fun h => ?_) (fun h => ?_)
    · have k := k.1 h
      refine r_iconst dX11_pairsOf_31 ⟨by decide, by decide⟩ ?_
      obtain ⟨h, k⟩ := k
      refine r_iadd dX11_pairsOf_32 h ?_
      refine r_istore_n dX11_pairsOf_33 (by decide) rfl rfl ?_
      obtain ⟨h, k⟩ := k
      refine r_iinc dX11_pairsOf_34 rfl (by decide) rfl rfl h ?_
      refine r_goto (tgt := 4) dX11_pairsOf_37 rfl ?_
      exact k
    · have k := k.2 h
      refine r_aload_n dX11_pairsOf_23 rfl ?_
      refine r_iload_n dX11_pairsOf_24 rfl ?_
      refine s_callVv (z := mX11_farOf) [vI v3] dX11_pairsOf_25 mv_X11_farOf lk_X11_274 rfl (by decide) (k_125 hS) (Nat.le_of_ble_eq_true rfl) (WPs.mono k (fun r25 s25 k => ?_))
      refine r_goto (tgt := 32) dX11_pairsOf_28 rfl ?_
      obtain ⟨h, k⟩ := k
      refine r_iadd dX11_pairsOf_32 h ?_
      refine r_istore_n dX11_pairsOf_33 (by decide) rfl rfl ?_
      obtain ⟨h, k⟩ := k
      refine r_iinc dX11_pairsOf_34 rfl (by decide) rfl rfl h ?_
      refine r_goto (tgt := 4) dX11_pairsOf_37 rfl ?_
      exact k
theorem e_X11_part {v1 v2 : Int} {S : ShT} {σ : StT} {Q : Int → StT → Prop} (hS : SHP S) (k : WPs mX11_in [vI v2, vI 0, vI 5] S σ (fun r4 s4 => WPs mX11_isAsked [vR 125, vI r4] S s4 (fun r7 s7 => (¬ r7 = 0 → inR ((s7 125 27) - 1) ∧ WPs mX11_in [vI v1, vI 0, vI ((s7 125 27) - 1)] S s7 (fun r23 s23 => (¬ r23 = 0 → (v2 < 0 ∨ 4 < v2 → WPs mX11_pairsOf [vR 125, vI v1] S s23 (fun r107 s107 => Q r107 s107)) ∧ (v2 = 0 → WPs mX11_meetingsOf [vR 125, vI v1, vI 0] S s23 (fun r75 s75 => Q r75 s75)) ∧ (v2 = 1 → WPs mX11_strokesOf [vR 125, vI v1] S s23 (fun r81 s81 => Q r81 s81)) ∧ (v2 = 2 → WPs mX11_meetingsOf [vR 125, vI v1, vI 1] S s23 (fun r88 s88 => Q r88 s88)) ∧ (v2 = 3 → WPs mX11_trailsOf [vR 125, vI v1] S s23 (fun r94 s94 => Q r94 s94)) ∧ (v2 = 4 → WPs mX11_meetingsOf [vR 125, vI v1, vI 2] S s23 (fun r101 s101 => Q r101 s101))) ∧ (r23 = 0 → WPs mX11_no [vR 125, vI 1] S s23 (fun r31 s31 => Q r31 s31)))) ∧ (r7 = 0 → Q (-1) s7)))) : WPs mX11_part [vR 125, vI v1, vI v2] S σ Q := by
  refine s_entry (by decide) (Nat.le_of_ble_eq_true rfl) rfl rfl ?_
  refine r_aload_n dX11_part_0 rfl ?_
  refine r_iload_n dX11_part_1 rfl ?_
  refine r_iconst dX11_part_2 ⟨by decide, by decide⟩ ?_
  refine r_iconst dX11_part_3 ⟨by decide, by decide⟩ ?_
  refine s_callS (z := mX11_in) [vI v2, vI 0, vI 5] dX11_part_4 ms_X11_in lk_X11_128 rfl (by decide) (Nat.le_of_ble_eq_true rfl) (WPs.mono k (fun r4 s4 k => ?_))
  refine s_callVv (z := mX11_isAsked) [vI r4] dX11_part_7 mv_X11_isAsked lk_X11_318 rfl (by decide) (k_125 hS) (Nat.le_of_ble_eq_true rfl) (WPs.mono k (fun r7 s7 k => ?_))
  refine r_if_ne (tgt := 15) dX11_part_10 rfl (fun h => ?_) (fun h => ?_)
  · have k := k.1 h
    refine r_iload_n dX11_part_15 rfl ?_
    refine r_iconst dX11_part_16 ⟨by decide, by decide⟩ ?_
    refine r_aload_n dX11_part_17 rfl ?_
    refine r_getIv dX11_part_18 fl_X11_255 rfl (k_125 hS) ?_
    refine r_iconst dX11_part_21 ⟨by decide, by decide⟩ ?_
    obtain ⟨h, k⟩ := k
    refine r_isub dX11_part_22 h ?_
    refine s_callS (z := mX11_in) [vI v1, vI 0, vI ((s7 125 27) - 1)] dX11_part_23 ms_X11_in lk_X11_128 rfl (by decide) (Nat.le_of_ble_eq_true rfl) (WPs.mono k (fun r23 s23 k => ?_))
    refine r_if_ne (tgt := 35) dX11_part_26 rfl (fun h => ?_) (fun h => ?_)
    · have k := k.1 h
      refine r_iload_n dX11_part_35 rfl ?_
      refine r_tsw (dt := 105) [72, 79, 85, 92, 98] dX11_part_36 rfl (by decide +kernel) rfl (fun h => ?_) ⟨fun h => ?_, fun h => ?_, fun h => ?_, fun h => ?_, fun h => ?_, trivial⟩
      · have k := k.1 h
        refine r_aload_n dX11_part_105 rfl ?_
        refine r_iload_n dX11_part_106 rfl ?_
        refine s_callVv (z := mX11_pairsOf) [vI v1] dX11_part_107 mv_X11_pairsOf lk_X11_334 rfl (by decide) (k_125 hS) (Nat.le_of_ble_eq_true rfl) (WPs.mono k (fun r107 s107 k => ?_))
        exact s_iret dX11_part_110 rfl k
      · have k := k.2.1 h
        refine r_aload_n dX11_part_72 rfl ?_
        refine r_iload_n dX11_part_73 rfl ?_
        refine r_iconst dX11_part_74 ⟨by decide, by decide⟩ ?_
        refine s_callVv (z := mX11_meetingsOf) [vI v1, vI 0] dX11_part_75 mv_X11_meetingsOf lk_X11_325 rfl (by decide) (k_125 hS) (Nat.le_of_ble_eq_true rfl) (WPs.mono k (fun r75 s75 k => ?_))
        exact s_iret dX11_part_78 rfl k
      · have k := k.2.2.1 h
        refine r_aload_n dX11_part_79 rfl ?_
        refine r_iload_n dX11_part_80 rfl ?_
        refine s_callVv (z := mX11_strokesOf) [vI v1] dX11_part_81 mv_X11_strokesOf lk_X11_328 rfl (by decide) (k_125 hS) (Nat.le_of_ble_eq_true rfl) (WPs.mono k (fun r81 s81 k => ?_))
        exact s_iret dX11_part_84 rfl k
      · have k := k.2.2.2.1 h
        refine r_aload_n dX11_part_85 rfl ?_
        refine r_iload_n dX11_part_86 rfl ?_
        refine r_iconst dX11_part_87 ⟨by decide, by decide⟩ ?_
        refine s_callVv (z := mX11_meetingsOf) [vI v1, vI 1] dX11_part_88 mv_X11_meetingsOf lk_X11_325 rfl (by decide) (k_125 hS) (Nat.le_of_ble_eq_true rfl) (WPs.mono k (fun r88 s88 k => ?_))
        exact s_iret dX11_part_91 rfl k
      · have k := k.2.2.2.2.1 h
        refine r_aload_n dX11_part_92 rfl ?_
        refine r_iload_n dX11_part_93 rfl ?_
        refine s_callVv (z := mX11_trailsOf) [vI v1] dX11_part_94 mv_X11_trailsOf lk_X11_331 rfl (by decide) (k_125 hS) (Nat.le_of_ble_eq_true rfl) (WPs.mono k (fun r94 s94 k => ?_))
        exact s_iret dX11_part_97 rfl k
      · have k := k.2.2.2.2.2 h
        refine r_aload_n dX11_part_98 rfl ?_
        refine r_iload_n dX11_part_99 rfl ?_
        refine r_iconst dX11_part_100 ⟨by decide, by decide⟩ ?_
        refine s_callVv (z := mX11_meetingsOf) [vI v1, vI 2] dX11_part_101 mv_X11_meetingsOf lk_X11_325 rfl (by decide) (k_125 hS) (Nat.le_of_ble_eq_true rfl) (WPs.mono k (fun r101 s101 k => ?_))
        exact s_iret dX11_part_104 rfl k
    · have k := k.2 h
      refine r_aload_n dX11_part_29 rfl ?_
      refine r_iconst dX11_part_30 ⟨by decide, by decide⟩ ?_
      refine s_callVv (z := mX11_no) [vI 1] dX11_part_31 mv_X11_no lk_X11_216 rfl (by decide) (k_125 hS) (Nat.le_of_ble_eq_true rfl) (WPs.mono k (fun r31 s31 k => ?_))
      exact s_iret dX11_part_34 rfl k
  · have k := k.2 h
    refine r_iconst dX11_part_13 ⟨by decide, by decide⟩ ?_
    exact s_iret dX11_part_14 rfl k
theorem e_X11_pair {v1 v2 : Int} {S : ShT} {σ : StT} {Q : Int → StT → Prop} (hS : SHP S) (k : WPs mX11_in [vI v2, vI 0, vI 3] S σ (fun r4 s4 => WPs mX11_isAsked [vR 125, vI r4] S s4 (fun r7 s7 => (¬ r7 = 0 → inR ((s7 125 31) - 1) ∧ WPs mX11_in [vI v1, vI 0, vI ((s7 125 31) - 1)] S s7 (fun r23 s23 => (¬ r23 = 0 → (v2 < 0 ∨ 2 < v2 → (0 ≤ v1 ∧ v1 < 24) ∧ ((0 ≤ s23 137 v1.toNat ∧ s23 137 v1.toNat < 48) ∧ ((¬ s23 138 (s23 137 v1.toNat).toNat = v1 → Q 0 s23) ∧ (s23 138 (s23 137 v1.toNat).toNat = v1 → Q 1 s23)))) ∧ (v2 = 0 → (0 ≤ v1 ∧ v1 < 24) ∧ Q (s23 135 v1.toNat) s23) ∧ (v2 = 1 → (0 ≤ v1 ∧ v1 < 24) ∧ Q (s23 136 v1.toNat) s23) ∧ (v2 = 2 → WPs mX11_farOf [vR 125, vI v1] S s23 (fun r80 s80 => Q r80 s80))) ∧ (r23 = 0 → WPs mX11_no [vR 125, vI 1] S s23 (fun r31 s31 => Q r31 s31)))) ∧ (r7 = 0 → Q (-1) s7)))) : WPs mX11_pair [vR 125, vI v1, vI v2] S σ Q := by
  refine s_entry (by decide) (Nat.le_of_ble_eq_true rfl) rfl rfl ?_
  refine r_aload_n dX11_pair_0 rfl ?_
  refine r_iload_n dX11_pair_1 rfl ?_
  refine r_iconst dX11_pair_2 ⟨by decide, by decide⟩ ?_
  refine r_iconst dX11_pair_3 ⟨by decide, by decide⟩ ?_
  refine s_callS (z := mX11_in) [vI v2, vI 0, vI 3] dX11_pair_4 ms_X11_in lk_X11_128 rfl (by decide) (Nat.le_of_ble_eq_true rfl) (WPs.mono k (fun r4 s4 k => ?_))
  refine s_callVv (z := mX11_isAsked) [vI r4] dX11_pair_7 mv_X11_isAsked lk_X11_318 rfl (by decide) (k_125 hS) (Nat.le_of_ble_eq_true rfl) (WPs.mono k (fun r7 s7 k => ?_))
  refine r_if_ne (tgt := 15) dX11_pair_10 rfl (fun h => ?_) (fun h => ?_)
  · have k := k.1 h
    refine r_iload_n dX11_pair_15 rfl ?_
    refine r_iconst dX11_pair_16 ⟨by decide, by decide⟩ ?_
    refine r_aload_n dX11_pair_17 rfl ?_
    refine r_getIv dX11_pair_18 fl_X11_258 rfl (k_125 hS) ?_
    refine r_iconst dX11_pair_21 ⟨by decide, by decide⟩ ?_
    obtain ⟨h, k⟩ := k
    refine r_isub dX11_pair_22 h ?_
    refine s_callS (z := mX11_in) [vI v1, vI 0, vI ((s7 125 31) - 1)] dX11_pair_23 ms_X11_in lk_X11_128 rfl (by decide) (Nat.le_of_ble_eq_true rfl) (WPs.mono k (fun r23 s23 k => ?_))
    refine r_if_ne (tgt := 35) dX11_pair_26 rfl (fun h => ?_) (fun h => ?_)
    · have k := k.1 h
      refine r_iload_n dX11_pair_35 rfl ?_
      refine r_tsw (dt := 84) [64, 71, 78] dX11_pair_36 rfl (by decide +kernel) rfl (fun h => ?_) ⟨fun h => ?_, fun h => ?_, fun h => ?_, trivial⟩
      · have k := k.1 h
        refine r_aload_n dX11_pair_84 rfl ?_
        refine r_getRv dX11_pair_85 fl_X11_50 rfl (k_125 hS) (f_125_32 hS) (by decide) ?_
        refine r_aload_n dX11_pair_88 rfl ?_
        refine r_getRv dX11_pair_89 fl_X11_47 rfl (k_125 hS) (f_125_30 hS) (by decide) ?_
        refine r_iload_n dX11_pair_92 rfl ?_
        obtain ⟨⟨h0, h1⟩, k⟩ := k
        refine r_iald dX11_pair_93 (Or.inl (k_137 hS)) h0 h1 ?_
        obtain ⟨⟨h0, h1⟩, k⟩ := k
        refine r_iald dX11_pair_94 (Or.inl (k_138 hS)) h0 h1 ?_
        refine r_iload_n dX11_pair_95 rfl ?_
        refine r_icmp_ne (tgt := 103) dX11_pair_96 rfl (fun h => ?_) (fun h => ?_)
        · have k := k.1 h
          refine r_iconst dX11_pair_103 ⟨by decide, by decide⟩ ?_
          exact s_iret dX11_pair_104 rfl k
        · have k := k.2 h
          refine r_iconst dX11_pair_99 ⟨by decide, by decide⟩ ?_
          refine r_goto (tgt := 104) dX11_pair_100 rfl ?_
          exact s_iret dX11_pair_104 rfl k
      · have k := k.2.1 h
        refine r_aload_n dX11_pair_64 rfl ?_
        refine r_getRv dX11_pair_65 fl_X11_41 rfl (k_125 hS) (f_125_28 hS) (by decide) ?_
        refine r_iload_n dX11_pair_68 rfl ?_
        obtain ⟨⟨h0, h1⟩, k⟩ := k
        refine r_iald dX11_pair_69 (Or.inl (k_135 hS)) h0 h1 ?_
        exact s_iret dX11_pair_70 rfl k
      · have k := k.2.2.1 h
        refine r_aload_n dX11_pair_71 rfl ?_
        refine r_getRv dX11_pair_72 fl_X11_44 rfl (k_125 hS) (f_125_29 hS) (by decide) ?_
        refine r_iload_n dX11_pair_75 rfl ?_
        obtain ⟨⟨h0, h1⟩, k⟩ := k
        refine r_iald dX11_pair_76 (Or.inl (k_136 hS)) h0 h1 ?_
        exact s_iret dX11_pair_77 rfl k
      · have k := k.2.2.2 h
        refine r_aload_n dX11_pair_78 rfl ?_
        refine r_iload_n dX11_pair_79 rfl ?_
        refine s_callVv (z := mX11_farOf) [vI v1] dX11_pair_80 mv_X11_farOf lk_X11_274 rfl (by decide) (k_125 hS) (Nat.le_of_ble_eq_true rfl) (WPs.mono k (fun r80 s80 k => ?_))
        exact s_iret dX11_pair_83 rfl k
    · have k := k.2 h
      refine r_aload_n dX11_pair_29 rfl ?_
      refine r_iconst dX11_pair_30 ⟨by decide, by decide⟩ ?_
      refine s_callVv (z := mX11_no) [vI 1] dX11_pair_31 mv_X11_no lk_X11_216 rfl (by decide) (k_125 hS) (Nat.le_of_ble_eq_true rfl) (WPs.mono k (fun r31 s31 k => ?_))
      exact s_iret dX11_pair_34 rfl k
  · have k := k.2 h
    refine r_iconst dX11_pair_13 ⟨by decide, by decide⟩ ?_
    exact s_iret dX11_pair_14 rfl k
theorem e_X11_walk {v1 v2 : Int} {S : ShT} {σ : StT} {Q : Int → StT → Prop} (hS : SHP S) (k : (v2 < 0 → WPs mX11_isAsked [vR 125, vI 0] S σ (fun r10 s10 => (¬ r10 = 0 → inR ((s10 125 27) - 1) ∧ WPs mX11_in [vI v1, vI 0, vI ((s10 125 27) - 1)] S s10 (fun r26 s26 => (¬ r26 = 0 → inR (v1 + 1) ∧ ((0 ≤ v1 + 1 ∧ v1 + 1 < 49) ∧ ((0 ≤ v1 ∧ v1 < 49) ∧ inR ((s26 147 (v1 + 1).toNat) - (s26 147 v1.toNat)) ∧ (((s26 147 (v1 + 1).toNat) - (s26 147 v1.toNat) ≤ v2 → Q (-2) s26) ∧ (¬ ((s26 147 (v1 + 1).toNat) - (s26 147 v1.toNat) ≤ v2) → (0 ≤ v1 ∧ v1 < 49) ∧ inR ((s26 147 v1.toNat) + v2) ∧ (0 ≤ (s26 147 v1.toNat) + v2 ∧ (s26 147 v1.toNat) + v2 < 48) ∧ Q (s26 148 ((s26 147 v1.toNat) + v2).toNat) s26))))) ∧ (r26 = 0 → WPs mX11_no [vR 125, vI 1] S s26 (fun r34 s34 => Q r34 s34)))) ∧ (r10 = 0 → Q (-1) s10))) ∧ (¬ (v2 < 0) → WPs mX11_isAsked [vR 125, vI 1] S σ (fun r10 s10 => (¬ r10 = 0 → inR ((s10 125 27) - 1) ∧ WPs mX11_in [vI v1, vI 0, vI ((s10 125 27) - 1)] S s10 (fun r26 s26 => (¬ r26 = 0 → inR (v1 + 1) ∧ ((0 ≤ v1 + 1 ∧ v1 + 1 < 49) ∧ ((0 ≤ v1 ∧ v1 < 49) ∧ inR ((s26 147 (v1 + 1).toNat) - (s26 147 v1.toNat)) ∧ (((s26 147 (v1 + 1).toNat) - (s26 147 v1.toNat) ≤ v2 → Q (-2) s26) ∧ (¬ ((s26 147 (v1 + 1).toNat) - (s26 147 v1.toNat) ≤ v2) → (0 ≤ v1 ∧ v1 < 49) ∧ inR ((s26 147 v1.toNat) + v2) ∧ (0 ≤ (s26 147 v1.toNat) + v2 ∧ (s26 147 v1.toNat) + v2 < 48) ∧ Q (s26 148 ((s26 147 v1.toNat) + v2).toNat) s26))))) ∧ (r26 = 0 → WPs mX11_no [vR 125, vI 1] S s26 (fun r34 s34 => Q r34 s34)))) ∧ (r10 = 0 → Q (-1) s10)))) : WPs mX11_walk [vR 125, vI v1, vI v2] S σ Q := by
  refine s_entry (by decide) (Nat.le_of_ble_eq_true rfl) rfl rfl ?_
  refine r_aload_n dX11_walk_0 rfl ?_
  refine r_iload_n dX11_walk_1 rfl ?_
  refine r_if_lt (tgt := 9) dX11_walk_2 rfl (fun h => ?_) (fun h => ?_)
  · have k := k.1 h
    refine r_iconst dX11_walk_9 ⟨by decide, by decide⟩ ?_
    refine s_callVv (z := mX11_isAsked) [vI 0] dX11_walk_10 mv_X11_isAsked lk_X11_318 rfl (by decide) (k_125 hS) (Nat.le_of_ble_eq_true rfl) (WPs.mono k (fun r10 s10 k => ?_))
    refine r_if_ne (tgt := 18) dX11_walk_13 rfl (fun h => ?_) (fun h => ?_)
    · have k := k.1 h
      refine r_iload_n dX11_walk_18 rfl ?_
      refine r_iconst dX11_walk_19 ⟨by decide, by decide⟩ ?_
      refine r_aload_n dX11_walk_20 rfl ?_
      refine r_getIv dX11_walk_21 fl_X11_255 rfl (k_125 hS) ?_
      refine r_iconst dX11_walk_24 ⟨by decide, by decide⟩ ?_
      obtain ⟨h, k⟩ := k
      refine r_isub dX11_walk_25 h ?_
      refine s_callS (z := mX11_in) [vI v1, vI 0, vI ((s10 125 27) - 1)] dX11_walk_26 ms_X11_in lk_X11_128 rfl (by decide) (Nat.le_of_ble_eq_true rfl) (WPs.mono k (fun r26 s26 k => ?_))
      refine r_if_ne (tgt := 38) dX11_walk_29 rfl (fun h => ?_) (fun h => ?_)
      · have k := k.1 h
        refine r_iload_n dX11_walk_38 rfl ?_
        refine r_aload_n dX11_walk_39 rfl ?_
        refine r_getRv dX11_walk_40 fl_X11_78 rfl (k_125 hS) (f_125_43 hS) (by decide) ?_
        refine r_iload_n dX11_walk_43 rfl ?_
        refine r_iconst dX11_walk_44 ⟨by decide, by decide⟩ ?_
        obtain ⟨h, k⟩ := k
        refine r_iadd dX11_walk_45 h ?_
        obtain ⟨⟨h0, h1⟩, k⟩ := k
        refine r_iald dX11_walk_46 (Or.inl (k_147 hS)) h0 h1 ?_
        refine r_aload_n dX11_walk_47 rfl ?_
        refine r_getRv dX11_walk_48 fl_X11_78 rfl (k_125 hS) (f_125_43 hS) (by decide) ?_
        refine r_iload_n dX11_walk_51 rfl ?_
        obtain ⟨⟨h0, h1⟩, k⟩ := k
        refine r_iald dX11_walk_52 (Or.inl (k_147 hS)) h0 h1 ?_
        obtain ⟨h, k⟩ := k
        refine r_isub dX11_walk_53 h ?_
        refine r_icmp_ge (tgt := 73) dX11_walk_54 rfl (fun h => ?_) (fun h => ?_)
        · have k := k.1 h
          refine r_bipush dX11_walk_73 (by decide +kernel) ⟨by decide, by decide⟩ ?_
          exact s_iret dX11_walk_75 rfl k
        · have k := k.2 h
          refine r_aload_n dX11_walk_57 rfl ?_
          refine r_getRv dX11_walk_58 fl_X11_81 rfl (k_125 hS) (f_125_44 hS) (by decide) ?_
          refine r_aload_n dX11_walk_61 rfl ?_
          refine r_getRv dX11_walk_62 fl_X11_78 rfl (k_125 hS) (f_125_43 hS) (by decide) ?_
          refine r_iload_n dX11_walk_65 rfl ?_
          obtain ⟨⟨h0, h1⟩, k⟩ := k
          refine r_iald dX11_walk_66 (Or.inl (k_147 hS)) h0 h1 ?_
          refine r_iload_n dX11_walk_67 rfl ?_
          obtain ⟨h, k⟩ := k
          refine r_iadd dX11_walk_68 h ?_
          obtain ⟨⟨h0, h1⟩, k⟩ := k
          refine r_iald dX11_walk_69 (Or.inl (k_148 hS)) h0 h1 ?_
          refine r_goto (tgt := 75) dX11_walk_70 rfl ?_
          exact s_iret dX11_walk_75 rfl k
      · have k := k.2 h
        refine r_aload_n dX11_walk_32 rfl ?_
        refine r_iconst dX11_walk_33 ⟨by decide, by decide⟩ ?_
        refine s_callVv (z := mX11_no) [vI 1] dX11_walk_34 mv_X11_no lk_X11_216 rfl (by decide) (k_125 hS) (Nat.le_of_ble_eq_true rfl) (WPs.mono k (fun r34 s34 k => ?_))
        exact s_iret dX11_walk_37 rfl k
    · have k := k.2 h
      refine r_iconst dX11_walk_16 ⟨by decide, by decide⟩ ?_
      exact s_iret dX11_walk_17 rfl k
  · have k := k.2 h
    refine r_iconst dX11_walk_5 ⟨by decide, by decide⟩ ?_
    refine r_goto (tgt := 10) dX11_walk_6 rfl ?_
    refine s_callVv (z := mX11_isAsked) [vI 1] dX11_walk_10 mv_X11_isAsked lk_X11_318 rfl (by decide) (k_125 hS) (Nat.le_of_ble_eq_true rfl) (WPs.mono k (fun r10 s10 k => ?_))
    refine r_if_ne (tgt := 18) dX11_walk_13 rfl (fun h => ?_) (fun h => ?_)
    · have k := k.1 h
      refine r_iload_n dX11_walk_18 rfl ?_
      refine r_iconst dX11_walk_19 ⟨by decide, by decide⟩ ?_
      refine r_aload_n dX11_walk_20 rfl ?_
      refine r_getIv dX11_walk_21 fl_X11_255 rfl (k_125 hS) ?_
      refine r_iconst dX11_walk_24 ⟨by decide, by decide⟩ ?_
      obtain ⟨h, k⟩ := k
      refine r_isub dX11_walk_25 h ?_
      refine s_callS (z := mX11_in) [vI v1, vI 0, vI ((s10 125 27) - 1)] dX11_walk_26 ms_X11_in lk_X11_128 rfl (by decide) (Nat.le_of_ble_eq_true rfl) (WPs.mono k (fun r26 s26 k => ?_))
      refine r_if_ne (tgt := 38) dX11_walk_29 rfl (fun h => ?_) (fun h => ?_)
      · have k := k.1 h
        refine r_iload_n dX11_walk_38 rfl ?_
        refine r_aload_n dX11_walk_39 rfl ?_
        refine r_getRv dX11_walk_40 fl_X11_78 rfl (k_125 hS) (f_125_43 hS) (by decide) ?_
        refine r_iload_n dX11_walk_43 rfl ?_
        refine r_iconst dX11_walk_44 ⟨by decide, by decide⟩ ?_
        obtain ⟨h, k⟩ := k
        refine r_iadd dX11_walk_45 h ?_
        obtain ⟨⟨h0, h1⟩, k⟩ := k
        refine r_iald dX11_walk_46 (Or.inl (k_147 hS)) h0 h1 ?_
        refine r_aload_n dX11_walk_47 rfl ?_
        refine r_getRv dX11_walk_48 fl_X11_78 rfl (k_125 hS) (f_125_43 hS) (by decide) ?_
        refine r_iload_n dX11_walk_51 rfl ?_
        obtain ⟨⟨h0, h1⟩, k⟩ := k
        refine r_iald dX11_walk_52 (Or.inl (k_147 hS)) h0 h1 ?_
        obtain ⟨h, k⟩ := k
        refine r_isub dX11_walk_53 h ?_
        refine r_icmp_ge (tgt := 73) dX11_walk_54 rfl (fun h => ?_) (fun h => ?_)
        · have k := k.1 h
          refine r_bipush dX11_walk_73 (by decide +kernel) ⟨by decide, by decide⟩ ?_
          exact s_iret dX11_walk_75 rfl k
        · have k := k.2 h
          refine r_aload_n dX11_walk_57 rfl ?_
          refine r_getRv dX11_walk_58 fl_X11_81 rfl (k_125 hS) (f_125_44 hS) (by decide) ?_
          refine r_aload_n dX11_walk_61 rfl ?_
          refine r_getRv dX11_walk_62 fl_X11_78 rfl (k_125 hS) (f_125_43 hS) (by decide) ?_
          refine r_iload_n dX11_walk_65 rfl ?_
          obtain ⟨⟨h0, h1⟩, k⟩ := k
          refine r_iald dX11_walk_66 (Or.inl (k_147 hS)) h0 h1 ?_
          refine r_iload_n dX11_walk_67 rfl ?_
          obtain ⟨h, k⟩ := k
          refine r_iadd dX11_walk_68 h ?_
          obtain ⟨⟨h0, h1⟩, k⟩ := k
          refine r_iald dX11_walk_69 (Or.inl (k_148 hS)) h0 h1 ?_
          refine r_goto (tgt := 75) dX11_walk_70 rfl ?_
          exact s_iret dX11_walk_75 rfl k
      · have k := k.2 h
        refine r_aload_n dX11_walk_32 rfl ?_
        refine r_iconst dX11_walk_33 ⟨by decide, by decide⟩ ?_
        refine s_callVv (z := mX11_no) [vI 1] dX11_walk_34 mv_X11_no lk_X11_216 rfl (by decide) (k_125 hS) (Nat.le_of_ble_eq_true rfl) (WPs.mono k (fun r34 s34 k => ?_))
        exact s_iret dX11_walk_37 rfl k
    · have k := k.2 h
      refine r_iconst dX11_walk_16 ⟨by decide, by decide⟩ ?_
      exact s_iret dX11_walk_17 rfl k
theorem e_X11_planned {v1 : Int} {S : ShT} {σ : StT} {Q : Int → StT → Prop} (hS : SHP S) (k : inR (104 + v1) ∧ (0 ≤ 104 + v1 ∧ 104 + v1 < 152) ∧ Q (σ 127 (104 + v1).toNat) σ) : WPs mX11_planned [vR 125, vI v1] S σ Q := by
  refine s_entry (by decide) (Nat.le_of_ble_eq_true rfl) rfl rfl ?_
  refine r_aload_n dX11_planned_0 rfl ?_
  refine r_getRv dX11_planned_1 fl_X11_17 rfl (k_125 hS) (f_125_6 hS) (by decide) ?_
  refine r_bipush dX11_planned_4 (by decide +kernel) ⟨by decide, by decide⟩ ?_
  refine r_iload_n dX11_planned_6 rfl ?_
  obtain ⟨h, k⟩ := k
  refine r_iadd dX11_planned_7 h ?_
  obtain ⟨⟨h0, h1⟩, k⟩ := k
  refine r_iald dX11_planned_8 (Or.inl (k_127 hS)) h0 h1 ?_
  exact s_iret dX11_planned_9 rfl k
theorem e_X11_isTurned {v1 : Int} {S : ShT} {σ : StT} {Q : Int → StT → Prop} (hS : SHP S) (k : inR (128 + v1) ∧ ((0 ≤ 128 + v1 ∧ 128 + v1 < 152) ∧ ((¬ σ 127 (128 + v1).toNat = 1 → Q 0 σ) ∧ (σ 127 (128 + v1).toNat = 1 → Q 1 σ)))) : WPs mX11_isTurned [vR 125, vI v1] S σ Q := by
  refine s_entry (by decide) (Nat.le_of_ble_eq_true rfl) rfl rfl ?_
  refine r_aload_n dX11_isTurned_0 rfl ?_
  refine r_getRv dX11_isTurned_1 fl_X11_17 rfl (k_125 hS) (f_125_6 hS) (by decide) ?_
  refine r_sipush dX11_isTurned_4 (by decide +kernel) ⟨by decide, by decide⟩ ?_
  refine r_iload_n dX11_isTurned_7 rfl ?_
  obtain ⟨h, k⟩ := k
  refine r_iadd dX11_isTurned_8 h ?_
  obtain ⟨⟨h0, h1⟩, k⟩ := k
  refine r_iald dX11_isTurned_9 (Or.inl (k_127 hS)) h0 h1 ?_
  refine r_iconst dX11_isTurned_10 ⟨by decide, by decide⟩ ?_
  refine r_icmp_ne (tgt := 18) dX11_isTurned_11 rfl (fun h => ?_) (fun h => ?_)
  · have k := k.1 h
    refine r_iconst dX11_isTurned_18 ⟨by decide, by decide⟩ ?_
    exact s_zret dX11_isTurned_19 rfl (by decide) k
  · have k := k.2 h
    refine r_iconst dX11_isTurned_14 ⟨by decide, by decide⟩ ?_
    refine r_goto (tgt := 19) dX11_isTurned_15 rfl ?_
    exact s_zret dX11_isTurned_19 rfl (by decide) k
theorem e_X11_startAt {v1 : Int} {S : ShT} {σ : StT} {Q : Int → StT → Prop} (hS : SHP S) (k : WPs mX11_isTurned [vR 125, vI v1] S σ (fun r2 s2 => (r2 = 0 → WPs mX11_planned [vR 125, vI v1] S s2 (fun r27 s27 => (0 ≤ r27 ∧ r27 < 24) ∧ Q (s27 152 r27.toNat) s27)) ∧ (¬ (r2 = 0) → WPs mX11_planned [vR 125, vI v1] S s2 (fun r14 s14 => (0 ≤ r14 ∧ r14 < 24) ∧ Q (s14 153 r14.toNat) s14)))) : WPs mX11_startAt [vR 125, vI v1] S σ Q := by
  refine s_entry (by decide) (Nat.le_of_ble_eq_true rfl) rfl rfl ?_
  refine r_aload_n dX11_startAt_0 rfl ?_
  refine r_iload_n dX11_startAt_1 rfl ?_
  refine s_callVv (z := mX11_isTurned) [vI v1] dX11_startAt_2 mv_X11_isTurned lk_X11_337 rfl (by decide) (k_125 hS) (Nat.le_of_ble_eq_true rfl) (WPs.mono k (fun r2 s2 k => ?_))
  refine r_if_eq (tgt := 21) dX11_startAt_5 rfl (fun h => ?_) (fun h => ?_)
  · have k := k.1 h
    refine r_aload_n dX11_startAt_21 rfl ?_
    refine r_getRv dX11_startAt_22 fl_X11_93 rfl (k_125 hS) (f_125_48 hS) (by decide) ?_
    refine r_aload_n dX11_startAt_25 rfl ?_
    refine r_iload_n dX11_startAt_26 rfl ?_
    refine s_callVv (z := mX11_planned) [vI v1] dX11_startAt_27 mv_X11_planned lk_X11_340 rfl (by decide) (k_125 hS) (Nat.le_of_ble_eq_true rfl) (WPs.mono k (fun r27 s27 k => ?_))
    obtain ⟨⟨h0, h1⟩, k⟩ := k
    refine r_iald dX11_startAt_30 (Or.inl (k_152 hS)) h0 h1 ?_
    exact s_iret dX11_startAt_31 rfl k
  · have k := k.2 h
    refine r_aload_n dX11_startAt_8 rfl ?_
    refine r_getRv dX11_startAt_9 fl_X11_96 rfl (k_125 hS) (f_125_49 hS) (by decide) ?_
    refine r_aload_n dX11_startAt_12 rfl ?_
    refine r_iload_n dX11_startAt_13 rfl ?_
    refine s_callVv (z := mX11_planned) [vI v1] dX11_startAt_14 mv_X11_planned lk_X11_340 rfl (by decide) (k_125 hS) (Nat.le_of_ble_eq_true rfl) (WPs.mono k (fun r14 s14 k => ?_))
    obtain ⟨⟨h0, h1⟩, k⟩ := k
    refine r_iald dX11_startAt_17 (Or.inl (k_153 hS)) h0 h1 ?_
    refine r_goto (tgt := 31) dX11_startAt_18 rfl ?_
    exact s_iret dX11_startAt_31 rfl k
theorem e_X11_endAt {v1 : Int} {S : ShT} {σ : StT} {Q : Int → StT → Prop} (hS : SHP S) (k : WPs mX11_isTurned [vR 125, vI v1] S σ (fun r2 s2 => (r2 = 0 → WPs mX11_planned [vR 125, vI v1] S s2 (fun r27 s27 => (0 ≤ r27 ∧ r27 < 24) ∧ Q (s27 153 r27.toNat) s27)) ∧ (¬ (r2 = 0) → WPs mX11_planned [vR 125, vI v1] S s2 (fun r14 s14 => (0 ≤ r14 ∧ r14 < 24) ∧ Q (s14 152 r14.toNat) s14)))) : WPs mX11_endAt [vR 125, vI v1] S σ Q := by
  refine s_entry (by decide) (Nat.le_of_ble_eq_true rfl) rfl rfl ?_
  refine r_aload_n dX11_endAt_0 rfl ?_
  refine r_iload_n dX11_endAt_1 rfl ?_
  refine s_callVv (z := mX11_isTurned) [vI v1] dX11_endAt_2 mv_X11_isTurned lk_X11_337 rfl (by decide) (k_125 hS) (Nat.le_of_ble_eq_true rfl) (WPs.mono k (fun r2 s2 k => ?_))
  refine r_if_eq (tgt := 21) dX11_endAt_5 rfl (fun h => ?_) (fun h => ?_)
  · have k := k.1 h
    refine r_aload_n dX11_endAt_21 rfl ?_
    refine r_getRv dX11_endAt_22 fl_X11_96 rfl (k_125 hS) (f_125_49 hS) (by decide) ?_
    refine r_aload_n dX11_endAt_25 rfl ?_
    refine r_iload_n dX11_endAt_26 rfl ?_
    refine s_callVv (z := mX11_planned) [vI v1] dX11_endAt_27 mv_X11_planned lk_X11_340 rfl (by decide) (k_125 hS) (Nat.le_of_ble_eq_true rfl) (WPs.mono k (fun r27 s27 k => ?_))
    obtain ⟨⟨h0, h1⟩, k⟩ := k
    refine r_iald dX11_endAt_30 (Or.inl (k_153 hS)) h0 h1 ?_
    exact s_iret dX11_endAt_31 rfl k
  · have k := k.2 h
    refine r_aload_n dX11_endAt_8 rfl ?_
    refine r_getRv dX11_endAt_9 fl_X11_93 rfl (k_125 hS) (f_125_48 hS) (by decide) ?_
    refine r_aload_n dX11_endAt_12 rfl ?_
    refine r_iload_n dX11_endAt_13 rfl ?_
    refine s_callVv (z := mX11_planned) [vI v1] dX11_endAt_14 mv_X11_planned lk_X11_340 rfl (by decide) (k_125 hS) (Nat.le_of_ble_eq_true rfl) (WPs.mono k (fun r14 s14 k => ?_))
    obtain ⟨⟨h0, h1⟩, k⟩ := k
    refine r_iald dX11_endAt_17 (Or.inl (k_152 hS)) h0 h1 ?_
    refine r_goto (tgt := 31) dX11_endAt_18 rfl ?_
    exact s_iret dX11_endAt_31 rfl k
theorem e_X11_fromHome {v1 : Int} {S : ShT} {σ : StT} {Q : Int → StT → Prop} (hS : SHP S) (k : (0 ≤ v1 ∧ v1 < 48) ∧ WPs mX11_endX [vR 125, vI (σ 132 v1.toNat)] S σ (fun r7 s7 => inR (r7 - (s7 127 3)) ∧ WPs mX11_abs [vI (r7 - (s7 127 3))] S s7 (fun r17 s17 => (0 ≤ v1 ∧ v1 < 48) ∧ WPs mX11_endY [vR 125, vI (s17 132 v1.toNat)] S s17 (fun r27 s27 => inR (r27 - (s27 127 4)) ∧ WPs mX11_abs [vI (r27 - (s27 127 4))] S s27 (fun r37 s37 => inR (r17 + r37) ∧ Q (r17 + r37) s37))))) : WPs mX11_fromHome [vR 125, vI v1] S σ Q := by
  refine s_entry (by decide) (Nat.le_of_ble_eq_true rfl) rfl rfl ?_
  refine r_aload_n dX11_fromHome_0 rfl ?_
  refine r_aload_n dX11_fromHome_1 rfl ?_
  refine r_getRv dX11_fromHome_2 fl_X11_32 rfl (k_125 hS) (f_125_23 hS) (by decide) ?_
  refine r_iload_n dX11_fromHome_5 rfl ?_
  obtain ⟨⟨h0, h1⟩, k⟩ := k
  refine r_iald dX11_fromHome_6 (Or.inl (k_132 hS)) h0 h1 ?_
  refine s_callVv (z := mX11_endX) [vI (σ 132 v1.toNat)] dX11_fromHome_7 mv_X11_endX lk_X11_232 rfl (by decide) (k_125 hS) (Nat.le_of_ble_eq_true rfl) (WPs.mono k (fun r7 s7 k => ?_))
  refine r_aload_n dX11_fromHome_10 rfl ?_
  refine r_getRv dX11_fromHome_11 fl_X11_17 rfl (k_125 hS) (f_125_6 hS) (by decide) ?_
  refine r_iconst dX11_fromHome_14 ⟨by decide, by decide⟩ ?_
  refine r_iald dX11_fromHome_15 (Or.inl (k_127 hS)) (by decide) (by decide) ?_
  obtain ⟨h, k⟩ := k
  refine r_isub dX11_fromHome_16 h ?_
  refine s_callS (z := mX11_abs) [vI (r7 - (s7 127 3))] dX11_fromHome_17 ms_X11_abs lk_X11_235 rfl (by decide) (Nat.le_of_ble_eq_true rfl) (WPs.mono k (fun r17 s17 k => ?_))
  refine r_aload_n dX11_fromHome_20 rfl ?_
  refine r_aload_n dX11_fromHome_21 rfl ?_
  refine r_getRv dX11_fromHome_22 fl_X11_32 rfl (k_125 hS) (f_125_23 hS) (by decide) ?_
  refine r_iload_n dX11_fromHome_25 rfl ?_
  obtain ⟨⟨h0, h1⟩, k⟩ := k
  refine r_iald dX11_fromHome_26 (Or.inl (k_132 hS)) h0 h1 ?_
  refine s_callVv (z := mX11_endY) [vI (s17 132 v1.toNat)] dX11_fromHome_27 mv_X11_endY lk_X11_238 rfl (by decide) (k_125 hS) (Nat.le_of_ble_eq_true rfl) (WPs.mono k (fun r27 s27 k => ?_))
  refine r_aload_n dX11_fromHome_30 rfl ?_
  refine r_getRv dX11_fromHome_31 fl_X11_17 rfl (k_125 hS) (f_125_6 hS) (by decide) ?_
  refine r_iconst dX11_fromHome_34 ⟨by decide, by decide⟩ ?_
  refine r_iald dX11_fromHome_35 (Or.inl (k_127 hS)) (by decide) (by decide) ?_
  obtain ⟨h, k⟩ := k
  refine r_isub dX11_fromHome_36 h ?_
  refine s_callS (z := mX11_abs) [vI (r27 - (s27 127 4))] dX11_fromHome_37 ms_X11_abs lk_X11_235 rfl (by decide) (Nat.le_of_ble_eq_true rfl) (WPs.mono k (fun r37 s37 k => ?_))
  obtain ⟨h, k⟩ := k
  refine r_iadd dX11_fromHome_40 h ?_
  exact s_iret dX11_fromHome_41 rfl k
theorem e_X11_leap {v1 : Int} {S : ShT} {σ : StT} {Q : Int → StT → Prop} (hS : SHP S) (k : (¬ σ 127 103 = 0 → (¬ v1 = 0 → (¬ v1 = σ 127 103 → inR (v1 - 1) ∧ WPs mX11_endAt [vR 125, vI (v1 - 1)] S σ (fun r56 s56 => WPs mX11_startAt [vR 125, vI v1] S s56 (fun r61 s61 => WPs mX11_far [vR 125, vI r56, vI r61] S s61 (fun r64 s64 => Q r64 s64)))) ∧ (v1 = σ 127 103 → inR (v1 - 1) ∧ WPs mX11_endAt [vR 125, vI (v1 - 1)] S σ (fun r42 s42 => WPs mX11_fromHome [vR 125, vI r42] S s42 (fun r45 s45 => Q r45 s45)))) ∧ (v1 = 0 → WPs mX11_startAt [vR 125, vI 0] S σ (fun r19 s19 => WPs mX11_fromHome [vR 125, vI r19] S s19 (fun r22 s22 => Q r22 s22)))) ∧ (σ 127 103 = 0 → Q 0 σ)) : WPs mX11_leap [vR 125, vI v1] S σ Q := by
  refine s_entry (by decide) (Nat.le_of_ble_eq_true rfl) rfl rfl ?_
  refine r_aload_n dX11_leap_0 rfl ?_
  refine r_getRv dX11_leap_1 fl_X11_17 rfl (k_125 hS) (f_125_6 hS) (by decide) ?_
  refine r_bipush dX11_leap_4 (by decide +kernel) ⟨by decide, by decide⟩ ?_
  refine r_iald dX11_leap_6 (Or.inl (k_127 hS)) (by decide) (by decide) ?_
  refine r_if_ne (tgt := 12) dX11_leap_7 rfl (fun h => ?_) (fun h => ?_)
  · have k := k.1 h
    refine r_iload_n dX11_leap_12 rfl ?_
    refine r_if_ne (tgt := 26) dX11_leap_13 rfl (fun h => ?_) (fun h => ?_)
    · have k := k.1 h
      refine r_iload_n dX11_leap_26 rfl ?_
      refine r_aload_n dX11_leap_27 rfl ?_
      refine r_getRv dX11_leap_28 fl_X11_17 rfl (k_125 hS) (f_125_6 hS) (by decide) ?_
      refine r_bipush dX11_leap_31 (by decide +kernel) ⟨by decide, by decide⟩ ?_
      refine r_iald dX11_leap_33 (Or.inl (k_127 hS)) (by decide) (by decide) ?_
      refine r_icmp_ne (tgt := 51) dX11_leap_34 rfl (fun h => ?_) (fun h => ?_)
      · have k := k.1 h
        refine r_aload_n dX11_leap_51 rfl ?_
        refine r_aload_n dX11_leap_52 rfl ?_
        refine r_iload_n dX11_leap_53 rfl ?_
        refine r_iconst dX11_leap_54 ⟨by decide, by decide⟩ ?_
        obtain ⟨h, k⟩ := k
        refine r_isub dX11_leap_55 h ?_
        refine s_callVv (z := mX11_endAt) [vI (v1 - 1)] dX11_leap_56 mv_X11_endAt lk_X11_349 rfl (by decide) (k_125 hS) (Nat.le_of_ble_eq_true rfl) (WPs.mono k (fun r56 s56 k => ?_))
        refine r_aload_n dX11_leap_59 rfl ?_
        refine r_iload_n dX11_leap_60 rfl ?_
        refine s_callVv (z := mX11_startAt) [vI v1] dX11_leap_61 mv_X11_startAt lk_X11_343 rfl (by decide) (k_125 hS) (Nat.le_of_ble_eq_true rfl) (WPs.mono k (fun r61 s61 k => ?_))
        refine s_callVv (z := mX11_far) [vI r56, vI r61] dX11_leap_64 mv_X11_far lk_X11_277 rfl (by decide) (k_125 hS) (Nat.le_of_ble_eq_true rfl) (WPs.mono k (fun r64 s64 k => ?_))
        exact s_iret dX11_leap_67 rfl k
      · have k := k.2 h
        refine r_aload_n dX11_leap_37 rfl ?_
        refine r_aload_n dX11_leap_38 rfl ?_
        refine r_iload_n dX11_leap_39 rfl ?_
        refine r_iconst dX11_leap_40 ⟨by decide, by decide⟩ ?_
        obtain ⟨h, k⟩ := k
        refine r_isub dX11_leap_41 h ?_
        refine s_callVv (z := mX11_endAt) [vI (v1 - 1)] dX11_leap_42 mv_X11_endAt lk_X11_349 rfl (by decide) (k_125 hS) (Nat.le_of_ble_eq_true rfl) (WPs.mono k (fun r42 s42 k => ?_))
        refine s_callVv (z := mX11_fromHome) [vI r42] dX11_leap_45 mv_X11_fromHome lk_X11_346 rfl (by decide) (k_125 hS) (Nat.le_of_ble_eq_true rfl) (WPs.mono k (fun r45 s45 k => ?_))
        refine r_goto (tgt := 67) dX11_leap_48 rfl ?_
        exact s_iret dX11_leap_67 rfl k
    · have k := k.2 h
      refine r_aload_n dX11_leap_16 rfl ?_
      refine r_aload_n dX11_leap_17 rfl ?_
      refine r_iconst dX11_leap_18 ⟨by decide, by decide⟩ ?_
      refine s_callVv (z := mX11_startAt) [vI 0] dX11_leap_19 mv_X11_startAt lk_X11_343 rfl (by decide) (k_125 hS) (Nat.le_of_ble_eq_true rfl) (WPs.mono k (fun r19 s19 k => ?_))
      refine s_callVv (z := mX11_fromHome) [vI r19] dX11_leap_22 mv_X11_fromHome lk_X11_346 rfl (by decide) (k_125 hS) (Nat.le_of_ble_eq_true rfl) (WPs.mono k (fun r22 s22 k => ?_))
      exact s_iret dX11_leap_25 rfl k
  · have k := k.2 h
    refine r_iconst dX11_leap_10 ⟨by decide, by decide⟩ ?_
    exact s_iret dX11_leap_11 rfl k
theorem e_X11_leaps {S : ShT} {σ : StT} {Q : Int → StT → Prop} (hS : SHP S) (k : AWs mX11_leaps 4 [(0, vR 125), (1, vI 0), (2, vI 0)] [] S σ Q) : WPs mX11_leaps [vR 125] S σ Q := by
  refine s_entry (by decide) (Nat.le_of_ble_eq_true rfl) rfl rfl ?_
  refine r_iconst dX11_leaps_0 ⟨by decide, by decide⟩ ?_
  refine r_istore_n dX11_leaps_1 (by decide) rfl rfl ?_
  refine r_iconst dX11_leaps_2 ⟨by decide, by decide⟩ ?_
  refine r_istore_n dX11_leaps_3 (by decide) rfl rfl ?_
  exact k
theorem t_X11_leaps_4 {v1 v2 : Int} {S : ShT} {σ : StT} {Q : Int → StT → Prop} (hS : SHP S) (k : (σ 127 103 < v2 → Q v1 σ) ∧ (¬ (σ 127 103 < v2) → WPs mX11_leap [vR 125, vI v2] S σ (fun r18 s18 => inR (v1 + r18) ∧ inR (v2 + 1) ∧ AWs mX11_leaps 4 [(0, vR 125), (1, vI (v1 + r18)), (2, vI (v2 + 1))] [] S s18 Q))) : AWs mX11_leaps 4 [(0, vR 125), (1, vI v1), (2, vI v2)] [] S σ Q := by
  refine r_iload_n dX11_leaps_4 rfl ?_
  refine r_aload_n dX11_leaps_5 rfl ?_
  refine r_getRv dX11_leaps_6 fl_X11_17 rfl (k_125 hS) (f_125_6 hS) (by decide) ?_
  refine r_bipush dX11_leaps_9 (by decide +kernel) ⟨by decide, by decide⟩ ?_
  refine r_iald dX11_leaps_11 (Or.inl (k_127 hS)) (by decide) (by decide) ?_
  refine r_icmp_gt (tgt := 29) dX11_leaps_12 rfl (fun h => ?_) (fun h => ?_)
  · have k := k.1 h
    refine r_iload_n dX11_leaps_29 rfl ?_
    exact s_iret dX11_leaps_30 rfl k
  · have k := k.2 h
    refine r_iload_n dX11_leaps_15 rfl ?_
    refine r_aload_n dX11_leaps_16 rfl ?_
    refine r_iload_n dX11_leaps_17 rfl ?_
    refine s_callVv (z := mX11_leap) [vI v2] dX11_leaps_18 mv_X11_leap lk_X11_352 rfl (by decide) (k_125 hS) (Nat.le_of_ble_eq_true rfl) (WPs.mono k (fun r18 s18 k => ?_))
    obtain ⟨h, k⟩ := k
    refine r_iadd dX11_leaps_21 h ?_
    refine r_istore_n dX11_leaps_22 (by decide) rfl rfl ?_
    obtain ⟨h, k⟩ := k
    refine r_iinc dX11_leaps_23 rfl (by decide) rfl rfl h ?_
    refine r_goto (tgt := 4) dX11_leaps_26 rfl ?_
    exact k
theorem e_X11_longOf {v1 : Int} {S : ShT} {σ : StT} {Q : Int → StT → Prop} (hS : SHP S) (k : AWs mX11_longOf 4 [(0, vR 125), (1, vI v1), (2, vI 0), (3, vI 0)] [] S σ Q) : WPs mX11_longOf [vR 125, vI v1] S σ Q := by
  refine s_entry (by decide) (Nat.le_of_ble_eq_true rfl) rfl rfl ?_
  refine r_iconst dX11_longOf_0 ⟨by decide, by decide⟩ ?_
  refine r_istore_n dX11_longOf_1 (by decide) rfl rfl ?_
  refine r_iconst dX11_longOf_2 ⟨by decide, by decide⟩ ?_
  refine r_istore_n dX11_longOf_3 (by decide) rfl rfl ?_
  exact k
theorem t_X11_longOf_4 {v1 v2 v3 : Int} {S : ShT} {σ : StT} {Q : Int → StT → Prop} (hS : SHP S) (k : (0 ≤ v1 ∧ v1 < 24) ∧ ((σ 151 v1.toNat ≤ v3 → Q v2 σ) ∧ (¬ (σ 151 v1.toNat ≤ v3) → (0 ≤ v1 ∧ v1 < 24) ∧ inR ((σ 150 v1.toNat) + v3) ∧ ((0 ≤ (σ 150 v1.toNat) + v3 ∧ (σ 150 v1.toNat) + v3 < 48) ∧ 0 ≤ σ 148 ((σ 150 v1.toNat) + v3).toNat ∧ ∀ x29 : Int, x29 = (σ 148 ((σ 150 v1.toNat) + v3).toNat) / 2 → inR (2 * x29) ∧ inR (2 * x29) ∧ inR ((2 * x29) + 1) ∧ WPs mX11_apart [vR 125, vI (2 * x29), vI ((2 * x29) + 1)] S σ (fun r43 s43 => inR (v2 + r43) ∧ inR (v3 + 1) ∧ AWs mX11_longOf 4 [(0, vR 125), (1, vI v1), (2, vI (v2 + r43)), (3, vI (v3 + 1))] [] S s43 Q))))) : AWs mX11_longOf 4 [(0, vR 125), (1, vI v1), (2, vI v2), (3, vI v3)] [] S σ Q := by
  refine r_iload_n dX11_longOf_4 rfl ?_
  refine r_aload_n dX11_longOf_5 rfl ?_
  refine r_getRv dX11_longOf_6 fl_X11_90 rfl (k_125 hS) (f_125_47 hS) (by decide) ?_
  refine r_iload_n dX11_longOf_9 rfl ?_
  obtain ⟨⟨h0, h1⟩, k⟩ := k
  refine r_iald dX11_longOf_10 (Or.inl (k_151 hS)) h0 h1 ?_
  refine r_icmp_ge (tgt := 54) dX11_longOf_11 rfl (fun h => ?_) (fun h => ?_)
  · have k := k.1 h
    refine r_iload_n dX11_longOf_54 rfl ?_
    exact s_iret dX11_longOf_55 rfl k
  · have k := k.2 h
    refine r_aload_n dX11_longOf_14 rfl ?_
    refine r_getRv dX11_longOf_15 fl_X11_81 rfl (k_125 hS) (f_125_44 hS) (by decide) ?_
    refine r_aload_n dX11_longOf_18 rfl ?_
    refine r_getRv dX11_longOf_19 fl_X11_87 rfl (k_125 hS) (f_125_46 hS) (by decide) ?_
    refine r_iload_n dX11_longOf_22 rfl ?_
    obtain ⟨⟨h0, h1⟩, k⟩ := k
    refine r_iald dX11_longOf_23 (Or.inl (k_150 hS)) h0 h1 ?_
    refine r_iload_n dX11_longOf_24 rfl ?_
    obtain ⟨h, k⟩ := k
    refine r_iadd dX11_longOf_25 h ?_
    obtain ⟨⟨h0, h1⟩, k⟩ := k
    refine r_iald dX11_longOf_26 (Or.inl (k_148 hS)) h0 h1 ?_
    refine r_iconst dX11_longOf_27 ⟨by decide, by decide⟩ ?_
    obtain ⟨h, k⟩ := k
    refine r_idiv dX11_longOf_28 h (by decide) ?_
    refine r_gen (fun x29 hx29 => ?_)
    have k := k x29 hx29
    refine r_istore dX11_longOf_29 (by decide) rfl rfl ?_
    refine r_iload_n dX11_longOf_31 rfl ?_
    refine r_aload_n dX11_longOf_32 rfl ?_
    refine r_iconst dX11_longOf_33 ⟨by decide, by decide⟩ ?_
    refine r_iload dX11_longOf_34 rfl ?_
    obtain ⟨h, k⟩ := k
    refine r_imul dX11_longOf_36 h ?_
    refine r_iconst dX11_longOf_37 ⟨by decide, by decide⟩ ?_
    refine r_iload dX11_longOf_38 rfl ?_
    obtain ⟨h, k⟩ := k
    refine r_imul dX11_longOf_40 h ?_
    refine r_iconst dX11_longOf_41 ⟨by decide, by decide⟩ ?_
    obtain ⟨h, k⟩ := k
    refine r_iadd dX11_longOf_42 h ?_
    refine s_callVv (z := mX11_apart) [vI (2 * x29), vI ((2 * x29) + 1)] dX11_longOf_43 mv_X11_apart lk_X11_241 rfl (by decide) (k_125 hS) (Nat.le_of_ble_eq_true rfl) (WPs.mono k (fun r43 s43 k => ?_))
    obtain ⟨h, k⟩ := k
    refine r_iadd dX11_longOf_46 h ?_
    refine r_istore_n dX11_longOf_47 (by decide) rfl rfl ?_
    obtain ⟨h, k⟩ := k
    refine r_iinc dX11_longOf_48 rfl (by decide) rfl rfl h ?_
    refine r_goto (tgt := 4) dX11_longOf_51 rfl ?_
    refine r_loc [0, 1, 2, 3] rfl ?_
    exact k
theorem e_X11_trail {v1 v2 : Int} {S : ShT} {σ : StT} {Q : Int → StT → Prop} (hS : SHP S) (k : (σ 125 11 = 0 → WPs mX11_isAsked [vR 125, vI 0] S σ (fun r40 s40 => (¬ r40 = 0 → (v2 < 0 ∨ 5 < v2 → WPs mX11_planned [vR 125, vI v1] S s40 (fun r145 s145 => Q r145 s145)) ∧ (v2 = 0 → WPs mX11_planned [vR 125, vI v1] S s40 (fun r94 s94 => (0 ≤ r94 ∧ r94 < 24) ∧ Q (s94 149 r94.toNat) s94)) ∧ (v2 = 1 → WPs mX11_planned [vR 125, vI v1] S s40 (fun r105 s105 => (0 ≤ r105 ∧ r105 < 24) ∧ Q (s105 151 r105.toNat) s105)) ∧ (v2 = 2 → WPs mX11_startAt [vR 125, vI v1] S s40 (fun r112 s112 => Q r112 s112)) ∧ (v2 = 3 → WPs mX11_endAt [vR 125, vI v1] S s40 (fun r118 s118 => Q r118 s118)) ∧ (v2 = 4 → WPs mX11_planned [vR 125, vI v1] S s40 (fun r125 s125 => WPs mX11_longOf [vR 125, vI r125] S s125 (fun r128 s128 => Q r128 s128))) ∧ (v2 = 5 → inR (128 + v1) ∧ (0 ≤ 128 + v1 ∧ 128 + v1 < 152) ∧ Q (s40 127 (128 + v1).toNat) s40)) ∧ (r40 = 0 → Q (-1) s40))) ∧ (¬ (σ 125 11 = 0) → inR ((σ 127 103) - 1) ∧ WPs mX11_in [vI v1, vI 0, vI ((σ 127 103) - 1)] S σ (fun r19 s19 => (r19 = 0 → WPs mX11_isAsked [vR 125, vI 0] S s19 (fun r40 s40 => (¬ r40 = 0 → (v2 < 0 ∨ 5 < v2 → WPs mX11_planned [vR 125, vI v1] S s40 (fun r145 s145 => Q r145 s145)) ∧ (v2 = 0 → WPs mX11_planned [vR 125, vI v1] S s40 (fun r94 s94 => (0 ≤ r94 ∧ r94 < 24) ∧ Q (s94 149 r94.toNat) s94)) ∧ (v2 = 1 → WPs mX11_planned [vR 125, vI v1] S s40 (fun r105 s105 => (0 ≤ r105 ∧ r105 < 24) ∧ Q (s105 151 r105.toNat) s105)) ∧ (v2 = 2 → WPs mX11_startAt [vR 125, vI v1] S s40 (fun r112 s112 => Q r112 s112)) ∧ (v2 = 3 → WPs mX11_endAt [vR 125, vI v1] S s40 (fun r118 s118 => Q r118 s118)) ∧ (v2 = 4 → WPs mX11_planned [vR 125, vI v1] S s40 (fun r125 s125 => WPs mX11_longOf [vR 125, vI r125] S s125 (fun r128 s128 => Q r128 s128))) ∧ (v2 = 5 → inR (128 + v1) ∧ (0 ≤ 128 + v1 ∧ 128 + v1 < 152) ∧ Q (s40 127 (128 + v1).toNat) s40)) ∧ (r40 = 0 → Q (-1) s40))) ∧ (¬ (r19 = 0) → WPs mX11_in [vI v2, vI 0, vI 6] S s19 (fun r29 s29 => (r29 = 0 → WPs mX11_isAsked [vR 125, vI 0] S s29 (fun r40 s40 => (¬ r40 = 0 → (v2 < 0 ∨ 5 < v2 → WPs mX11_planned [vR 125, vI v1] S s40 (fun r145 s145 => Q r145 s145)) ∧ (v2 = 0 → WPs mX11_planned [vR 125, vI v1] S s40 (fun r94 s94 => (0 ≤ r94 ∧ r94 < 24) ∧ Q (s94 149 r94.toNat) s94)) ∧ (v2 = 1 → WPs mX11_planned [vR 125, vI v1] S s40 (fun r105 s105 => (0 ≤ r105 ∧ r105 < 24) ∧ Q (s105 151 r105.toNat) s105)) ∧ (v2 = 2 → WPs mX11_startAt [vR 125, vI v1] S s40 (fun r112 s112 => Q r112 s112)) ∧ (v2 = 3 → WPs mX11_endAt [vR 125, vI v1] S s40 (fun r118 s118 => Q r118 s118)) ∧ (v2 = 4 → WPs mX11_planned [vR 125, vI v1] S s40 (fun r125 s125 => WPs mX11_longOf [vR 125, vI r125] S s125 (fun r128 s128 => Q r128 s128))) ∧ (v2 = 5 → inR (128 + v1) ∧ (0 ≤ 128 + v1 ∧ 128 + v1 < 152) ∧ Q (s40 127 (128 + v1).toNat) s40)) ∧ (r40 = 0 → Q (-1) s40))) ∧ (¬ (r29 = 0) → WPs mX11_isAsked [vR 125, vI 1] S s29 (fun r40 s40 => (¬ r40 = 0 → (v2 < 0 ∨ 5 < v2 → WPs mX11_planned [vR 125, vI v1] S s40 (fun r145 s145 => Q r145 s145)) ∧ (v2 = 0 → WPs mX11_planned [vR 125, vI v1] S s40 (fun r94 s94 => (0 ≤ r94 ∧ r94 < 24) ∧ Q (s94 149 r94.toNat) s94)) ∧ (v2 = 1 → WPs mX11_planned [vR 125, vI v1] S s40 (fun r105 s105 => (0 ≤ r105 ∧ r105 < 24) ∧ Q (s105 151 r105.toNat) s105)) ∧ (v2 = 2 → WPs mX11_startAt [vR 125, vI v1] S s40 (fun r112 s112 => Q r112 s112)) ∧ (v2 = 3 → WPs mX11_endAt [vR 125, vI v1] S s40 (fun r118 s118 => Q r118 s118)) ∧ (v2 = 4 → WPs mX11_planned [vR 125, vI v1] S s40 (fun r125 s125 => WPs mX11_longOf [vR 125, vI r125] S s125 (fun r128 s128 => Q r128 s128))) ∧ (v2 = 5 → inR (128 + v1) ∧ (0 ≤ 128 + v1 ∧ 128 + v1 < 152) ∧ Q (s40 127 (128 + v1).toNat) s40)) ∧ (r40 = 0 → Q (-1) s40)))))))) : WPs mX11_trail [vR 125, vI v1, vI v2] S σ Q := by
  refine s_entry (by decide) (Nat.le_of_ble_eq_true rfl) rfl rfl ?_
  refine r_aload_n dX11_trail_0 rfl ?_
  refine r_aload_n dX11_trail_1 rfl ?_
  refine r_getIv dX11_trail_2 fl_X11_223 rfl (k_125 hS) ?_
  refine r_if_eq (tgt := 39) dX11_trail_5 rfl (fun h => ?_) (fun h => ?_)
  · have k := k.1 h
    refine r_iconst dX11_trail_39 ⟨by decide, by decide⟩ ?_
    refine s_callVv (z := mX11_isAsked) [vI 0] dX11_trail_40 mv_X11_isAsked lk_X11_318 rfl (by decide) (k_125 hS) (Nat.le_of_ble_eq_true rfl) (WPs.mono k (fun r40 s40 k => ?_))
    refine r_if_ne (tgt := 48) dX11_trail_43 rfl (fun h => ?_) (fun h => ?_)
    · have k := k.1 h
      refine r_iload_n dX11_trail_48 rfl ?_
      refine r_tsw (dt := 143) [88, 99, 110, 116, 122, 132] dX11_trail_49 rfl (by decide +kernel) rfl (fun h => ?_) ⟨fun h => ?_, fun h => ?_, fun h => ?_, fun h => ?_, fun h => ?_, fun h => ?_, trivial⟩
      · have k := k.1 h
        refine r_aload_n dX11_trail_143 rfl ?_
        refine r_iload_n dX11_trail_144 rfl ?_
        refine s_callVv (z := mX11_planned) [vI v1] dX11_trail_145 mv_X11_planned lk_X11_340 rfl (by decide) (k_125 hS) (Nat.le_of_ble_eq_true rfl) (WPs.mono k (fun r145 s145 k => ?_))
        exact s_iret dX11_trail_148 rfl k
      · have k := k.2.1 h
        refine r_aload_n dX11_trail_88 rfl ?_
        refine r_getRv dX11_trail_89 fl_X11_84 rfl (k_125 hS) (f_125_45 hS) (by decide) ?_
        refine r_aload_n dX11_trail_92 rfl ?_
        refine r_iload_n dX11_trail_93 rfl ?_
        refine s_callVv (z := mX11_planned) [vI v1] dX11_trail_94 mv_X11_planned lk_X11_340 rfl (by decide) (k_125 hS) (Nat.le_of_ble_eq_true rfl) (WPs.mono k (fun r94 s94 k => ?_))
        obtain ⟨⟨h0, h1⟩, k⟩ := k
        refine r_iald dX11_trail_97 (Or.inl (k_149 hS)) h0 h1 ?_
        exact s_iret dX11_trail_98 rfl k
      · have k := k.2.2.1 h
        refine r_aload_n dX11_trail_99 rfl ?_
        refine r_getRv dX11_trail_100 fl_X11_90 rfl (k_125 hS) (f_125_47 hS) (by decide) ?_
        refine r_aload_n dX11_trail_103 rfl ?_
        refine r_iload_n dX11_trail_104 rfl ?_
        refine s_callVv (z := mX11_planned) [vI v1] dX11_trail_105 mv_X11_planned lk_X11_340 rfl (by decide) (k_125 hS) (Nat.le_of_ble_eq_true rfl) (WPs.mono k (fun r105 s105 k => ?_))
        obtain ⟨⟨h0, h1⟩, k⟩ := k
        refine r_iald dX11_trail_108 (Or.inl (k_151 hS)) h0 h1 ?_
        exact s_iret dX11_trail_109 rfl k
      · have k := k.2.2.2.1 h
        refine r_aload_n dX11_trail_110 rfl ?_
        refine r_iload_n dX11_trail_111 rfl ?_
        refine s_callVv (z := mX11_startAt) [vI v1] dX11_trail_112 mv_X11_startAt lk_X11_343 rfl (by decide) (k_125 hS) (Nat.le_of_ble_eq_true rfl) (WPs.mono k (fun r112 s112 k => ?_))
        exact s_iret dX11_trail_115 rfl k
      · have k := k.2.2.2.2.1 h
        refine r_aload_n dX11_trail_116 rfl ?_
        refine r_iload_n dX11_trail_117 rfl ?_
        refine s_callVv (z := mX11_endAt) [vI v1] dX11_trail_118 mv_X11_endAt lk_X11_349 rfl (by decide) (k_125 hS) (Nat.le_of_ble_eq_true rfl) (WPs.mono k (fun r118 s118 k => ?_))
        exact s_iret dX11_trail_121 rfl k
      · have k := k.2.2.2.2.2.1 h
        refine r_aload_n dX11_trail_122 rfl ?_
        refine r_aload_n dX11_trail_123 rfl ?_
        refine r_iload_n dX11_trail_124 rfl ?_
        refine s_callVv (z := mX11_planned) [vI v1] dX11_trail_125 mv_X11_planned lk_X11_340 rfl (by decide) (k_125 hS) (Nat.le_of_ble_eq_true rfl) (WPs.mono k (fun r125 s125 k => ?_))
        refine s_callVv (z := mX11_longOf) [vI r125] dX11_trail_128 mv_X11_longOf lk_X11_355 rfl (by decide) (k_125 hS) (Nat.le_of_ble_eq_true rfl) (WPs.mono k (fun r128 s128 k => ?_))
        exact s_iret dX11_trail_131 rfl k
      · have k := k.2.2.2.2.2.2 h
        refine r_aload_n dX11_trail_132 rfl ?_
        refine r_getRv dX11_trail_133 fl_X11_17 rfl (k_125 hS) (f_125_6 hS) (by decide) ?_
        refine r_sipush dX11_trail_136 (by decide +kernel) ⟨by decide, by decide⟩ ?_
        refine r_iload_n dX11_trail_139 rfl ?_
        obtain ⟨h, k⟩ := k
        refine r_iadd dX11_trail_140 h ?_
        obtain ⟨⟨h0, h1⟩, k⟩ := k
        refine r_iald dX11_trail_141 (Or.inl (k_127 hS)) h0 h1 ?_
        exact s_iret dX11_trail_142 rfl k
    · have k := k.2 h
      refine r_iconst dX11_trail_46 ⟨by decide, by decide⟩ ?_
      exact s_iret dX11_trail_47 rfl k
  · have k := k.2 h
    refine r_iload_n dX11_trail_8 rfl ?_
    refine r_iconst dX11_trail_9 ⟨by decide, by decide⟩ ?_
    refine r_aload_n dX11_trail_10 rfl ?_
    refine r_getRv dX11_trail_11 fl_X11_17 rfl (k_125 hS) (f_125_6 hS) (by decide) ?_
    refine r_bipush dX11_trail_14 (by decide +kernel) ⟨by decide, by decide⟩ ?_
    refine r_iald dX11_trail_16 (Or.inl (k_127 hS)) (by decide) (by decide) ?_
    refine r_iconst dX11_trail_17 ⟨by decide, by decide⟩ ?_
    obtain ⟨h, k⟩ := k
    refine r_isub dX11_trail_18 h ?_
    refine s_callS (z := mX11_in) [vI v1, vI 0, vI ((σ 127 103) - 1)] dX11_trail_19 ms_X11_in lk_X11_128 rfl (by decide) (Nat.le_of_ble_eq_true rfl) (WPs.mono k (fun r19 s19 k => ?_))
    refine r_if_eq (tgt := 39) dX11_trail_22 rfl (fun h => ?_) (fun h => ?_)
    · have k := k.1 h
      refine r_iconst dX11_trail_39 ⟨by decide, by decide⟩ ?_
      refine s_callVv (z := mX11_isAsked) [vI 0] dX11_trail_40 mv_X11_isAsked lk_X11_318 rfl (by decide) (k_125 hS) (Nat.le_of_ble_eq_true rfl) (WPs.mono k (fun r40 s40 k => ?_))
      refine r_if_ne (tgt := 48) dX11_trail_43 rfl (fun h => ?_) (fun h => ?_)
      · have k := k.1 h
        refine r_iload_n dX11_trail_48 rfl ?_
        refine r_tsw (dt := 143) [88, 99, 110, 116, 122, 132] dX11_trail_49 rfl (by decide +kernel) rfl (fun h => ?_) ⟨fun h => ?_, fun h => ?_, fun h => ?_, fun h => ?_, fun h => ?_, fun h => ?_, trivial⟩
        · have k := k.1 h
          refine r_aload_n dX11_trail_143 rfl ?_
          refine r_iload_n dX11_trail_144 rfl ?_
          refine s_callVv (z := mX11_planned) [vI v1] dX11_trail_145 mv_X11_planned lk_X11_340 rfl (by decide) (k_125 hS) (Nat.le_of_ble_eq_true rfl) (WPs.mono k (fun r145 s145 k => ?_))
          exact s_iret dX11_trail_148 rfl k
        · have k := k.2.1 h
          refine r_aload_n dX11_trail_88 rfl ?_
          refine r_getRv dX11_trail_89 fl_X11_84 rfl (k_125 hS) (f_125_45 hS) (by decide) ?_
          refine r_aload_n dX11_trail_92 rfl ?_
          refine r_iload_n dX11_trail_93 rfl ?_
          refine s_callVv (z := mX11_planned) [vI v1] dX11_trail_94 mv_X11_planned lk_X11_340 rfl (by decide) (k_125 hS) (Nat.le_of_ble_eq_true rfl) (WPs.mono k (fun r94 s94 k => ?_))
          obtain ⟨⟨h0, h1⟩, k⟩ := k
          refine r_iald dX11_trail_97 (Or.inl (k_149 hS)) h0 h1 ?_
          exact s_iret dX11_trail_98 rfl k
        · have k := k.2.2.1 h
          refine r_aload_n dX11_trail_99 rfl ?_
          refine r_getRv dX11_trail_100 fl_X11_90 rfl (k_125 hS) (f_125_47 hS) (by decide) ?_
          refine r_aload_n dX11_trail_103 rfl ?_
          refine r_iload_n dX11_trail_104 rfl ?_
          refine s_callVv (z := mX11_planned) [vI v1] dX11_trail_105 mv_X11_planned lk_X11_340 rfl (by decide) (k_125 hS) (Nat.le_of_ble_eq_true rfl) (WPs.mono k (fun r105 s105 k => ?_))
          obtain ⟨⟨h0, h1⟩, k⟩ := k
          refine r_iald dX11_trail_108 (Or.inl (k_151 hS)) h0 h1 ?_
          exact s_iret dX11_trail_109 rfl k
        · have k := k.2.2.2.1 h
          refine r_aload_n dX11_trail_110 rfl ?_
          refine r_iload_n dX11_trail_111 rfl ?_
          refine s_callVv (z := mX11_startAt) [vI v1] dX11_trail_112 mv_X11_startAt lk_X11_343 rfl (by decide) (k_125 hS) (Nat.le_of_ble_eq_true rfl) (WPs.mono k (fun r112 s112 k => ?_))
          exact s_iret dX11_trail_115 rfl k
        · have k := k.2.2.2.2.1 h
          refine r_aload_n dX11_trail_116 rfl ?_
          refine r_iload_n dX11_trail_117 rfl ?_
          refine s_callVv (z := mX11_endAt) [vI v1] dX11_trail_118 mv_X11_endAt lk_X11_349 rfl (by decide) (k_125 hS) (Nat.le_of_ble_eq_true rfl) (WPs.mono k (fun r118 s118 k => ?_))
          exact s_iret dX11_trail_121 rfl k
        · have k := k.2.2.2.2.2.1 h
          refine r_aload_n dX11_trail_122 rfl ?_
          refine r_aload_n dX11_trail_123 rfl ?_
          refine r_iload_n dX11_trail_124 rfl ?_
          refine s_callVv (z := mX11_planned) [vI v1] dX11_trail_125 mv_X11_planned lk_X11_340 rfl (by decide) (k_125 hS) (Nat.le_of_ble_eq_true rfl) (WPs.mono k (fun r125 s125 k => ?_))
          refine s_callVv (z := mX11_longOf) [vI r125] dX11_trail_128 mv_X11_longOf lk_X11_355 rfl (by decide) (k_125 hS) (Nat.le_of_ble_eq_true rfl) (WPs.mono k (fun r128 s128 k => ?_))
          exact s_iret dX11_trail_131 rfl k
        · have k := k.2.2.2.2.2.2 h
          refine r_aload_n dX11_trail_132 rfl ?_
          refine r_getRv dX11_trail_133 fl_X11_17 rfl (k_125 hS) (f_125_6 hS) (by decide) ?_
          refine r_sipush dX11_trail_136 (by decide +kernel) ⟨by decide, by decide⟩ ?_
          refine r_iload_n dX11_trail_139 rfl ?_
          obtain ⟨h, k⟩ := k
          refine r_iadd dX11_trail_140 h ?_
          obtain ⟨⟨h0, h1⟩, k⟩ := k
          refine r_iald dX11_trail_141 (Or.inl (k_127 hS)) h0 h1 ?_
          exact s_iret dX11_trail_142 rfl k
      · have k := k.2 h
        refine r_iconst dX11_trail_46 ⟨by decide, by decide⟩ ?_
        exact s_iret dX11_trail_47 rfl k
    · have k := k.2 h
      refine r_iload_n dX11_trail_25 rfl ?_
      refine r_iconst dX11_trail_26 ⟨by decide, by decide⟩ ?_
      refine r_bipush dX11_trail_27 (by decide +kernel) ⟨by decide, by decide⟩ ?_
      refine s_callS (z := mX11_in) [vI v2, vI 0, vI 6] dX11_trail_29 ms_X11_in lk_X11_128 rfl (by decide) (Nat.le_of_ble_eq_true rfl) (WPs.mono k (fun r29 s29 k => ?_))
      refine r_if_eq (tgt := 39) dX11_trail_32 rfl (fun h => ?_) (fun h => ?_)
      · have k := k.1 h
        refine r_iconst dX11_trail_39 ⟨by decide, by decide⟩ ?_
        refine s_callVv (z := mX11_isAsked) [vI 0] dX11_trail_40 mv_X11_isAsked lk_X11_318 rfl (by decide) (k_125 hS) (Nat.le_of_ble_eq_true rfl) (WPs.mono k (fun r40 s40 k => ?_))
        refine r_if_ne (tgt := 48) dX11_trail_43 rfl (fun h => ?_) (fun h => ?_)
        · have k := k.1 h
          refine r_iload_n dX11_trail_48 rfl ?_
          refine r_tsw (dt := 143) [88, 99, 110, 116, 122, 132] dX11_trail_49 rfl (by decide +kernel) rfl (fun h => ?_) ⟨fun h => ?_, fun h => ?_, fun h => ?_, fun h => ?_, fun h => ?_, fun h => ?_, trivial⟩
          · have k := k.1 h
            refine r_aload_n dX11_trail_143 rfl ?_
            refine r_iload_n dX11_trail_144 rfl ?_
            refine s_callVv (z := mX11_planned) [vI v1] dX11_trail_145 mv_X11_planned lk_X11_340 rfl (by decide) (k_125 hS) (Nat.le_of_ble_eq_true rfl) (WPs.mono k (fun r145 s145 k => ?_))
            exact s_iret dX11_trail_148 rfl k
          · have k := k.2.1 h
            refine r_aload_n dX11_trail_88 rfl ?_
            refine r_getRv dX11_trail_89 fl_X11_84 rfl (k_125 hS) (f_125_45 hS) (by decide) ?_
            refine r_aload_n dX11_trail_92 rfl ?_
            refine r_iload_n dX11_trail_93 rfl ?_
            refine s_callVv (z := mX11_planned) [vI v1] dX11_trail_94 mv_X11_planned lk_X11_340 rfl (by decide) (k_125 hS) (Nat.le_of_ble_eq_true rfl) (WPs.mono k (fun r94 s94 k => ?_))
            obtain ⟨⟨h0, h1⟩, k⟩ := k
            refine r_iald dX11_trail_97 (Or.inl (k_149 hS)) h0 h1 ?_
            exact s_iret dX11_trail_98 rfl k
          · have k := k.2.2.1 h
            refine r_aload_n dX11_trail_99 rfl ?_
            refine r_getRv dX11_trail_100 fl_X11_90 rfl (k_125 hS) (f_125_47 hS) (by decide) ?_
            refine r_aload_n dX11_trail_103 rfl ?_
            refine r_iload_n dX11_trail_104 rfl ?_
            refine s_callVv (z := mX11_planned) [vI v1] dX11_trail_105 mv_X11_planned lk_X11_340 rfl (by decide) (k_125 hS) (Nat.le_of_ble_eq_true rfl) (WPs.mono k (fun r105 s105 k => ?_))
            obtain ⟨⟨h0, h1⟩, k⟩ := k
            refine r_iald dX11_trail_108 (Or.inl (k_151 hS)) h0 h1 ?_
            exact s_iret dX11_trail_109 rfl k
          · have k := k.2.2.2.1 h
            refine r_aload_n dX11_trail_110 rfl ?_
            refine r_iload_n dX11_trail_111 rfl ?_
            refine s_callVv (z := mX11_startAt) [vI v1] dX11_trail_112 mv_X11_startAt lk_X11_343 rfl (by decide) (k_125 hS) (Nat.le_of_ble_eq_true rfl) (WPs.mono k (fun r112 s112 k => ?_))
            exact s_iret dX11_trail_115 rfl k
          · have k := k.2.2.2.2.1 h
            refine r_aload_n dX11_trail_116 rfl ?_
            refine r_iload_n dX11_trail_117 rfl ?_
            refine s_callVv (z := mX11_endAt) [vI v1] dX11_trail_118 mv_X11_endAt lk_X11_349 rfl (by decide) (k_125 hS) (Nat.le_of_ble_eq_true rfl) (WPs.mono k (fun r118 s118 k => ?_))
            exact s_iret dX11_trail_121 rfl k
          · have k := k.2.2.2.2.2.1 h
            refine r_aload_n dX11_trail_122 rfl ?_
            refine r_aload_n dX11_trail_123 rfl ?_
            refine r_iload_n dX11_trail_124 rfl ?_
            refine s_callVv (z := mX11_planned) [vI v1] dX11_trail_125 mv_X11_planned lk_X11_340 rfl (by decide) (k_125 hS) (Nat.le_of_ble_eq_true rfl) (WPs.mono k (fun r125 s125 k => ?_))
            refine s_callVv (z := mX11_longOf) [vI r125] dX11_trail_128 mv_X11_longOf lk_X11_355 rfl (by decide) (k_125 hS) (Nat.le_of_ble_eq_true rfl) (WPs.mono k (fun r128 s128 k => ?_))
            exact s_iret dX11_trail_131 rfl k
          · have k := k.2.2.2.2.2.2 h
            refine r_aload_n dX11_trail_132 rfl ?_
            refine r_getRv dX11_trail_133 fl_X11_17 rfl (k_125 hS) (f_125_6 hS) (by decide) ?_
            refine r_sipush dX11_trail_136 (by decide +kernel) ⟨by decide, by decide⟩ ?_
            refine r_iload_n dX11_trail_139 rfl ?_
            obtain ⟨h, k⟩ := k
            refine r_iadd dX11_trail_140 h ?_
            obtain ⟨⟨h0, h1⟩, k⟩ := k
            refine r_iald dX11_trail_141 (Or.inl (k_127 hS)) h0 h1 ?_
            exact s_iret dX11_trail_142 rfl k
        · have k := k.2 h
          refine r_iconst dX11_trail_46 ⟨by decide, by decide⟩ ?_
          exact s_iret dX11_trail_47 rfl k
      · have k := k.2 h
        refine r_iconst dX11_trail_35 ⟨by decide, by decide⟩ ?_
        refine r_goto (tgt := 40) dX11_trail_36 rfl ?_
        refine s_callVv (z := mX11_isAsked) [vI 1] dX11_trail_40 mv_X11_isAsked lk_X11_318 rfl (by decide) (k_125 hS) (Nat.le_of_ble_eq_true rfl) (WPs.mono k (fun r40 s40 k => ?_))
        refine r_if_ne (tgt := 48) dX11_trail_43 rfl (fun h => ?_) (fun h => ?_)
        · have k := k.1 h
          refine r_iload_n dX11_trail_48 rfl ?_
          refine r_tsw (dt := 143) [88, 99, 110, 116, 122, 132] dX11_trail_49 rfl (by decide +kernel) rfl (fun h => ?_) ⟨fun h => ?_, fun h => ?_, fun h => ?_, fun h => ?_, fun h => ?_, fun h => ?_, trivial⟩
          · have k := k.1 h
            refine r_aload_n dX11_trail_143 rfl ?_
            refine r_iload_n dX11_trail_144 rfl ?_
            refine s_callVv (z := mX11_planned) [vI v1] dX11_trail_145 mv_X11_planned lk_X11_340 rfl (by decide) (k_125 hS) (Nat.le_of_ble_eq_true rfl) (WPs.mono k (fun r145 s145 k => ?_))
            exact s_iret dX11_trail_148 rfl k
          · have k := k.2.1 h
            refine r_aload_n dX11_trail_88 rfl ?_
            refine r_getRv dX11_trail_89 fl_X11_84 rfl (k_125 hS) (f_125_45 hS) (by decide) ?_
            refine r_aload_n dX11_trail_92 rfl ?_
            refine r_iload_n dX11_trail_93 rfl ?_
            refine s_callVv (z := mX11_planned) [vI v1] dX11_trail_94 mv_X11_planned lk_X11_340 rfl (by decide) (k_125 hS) (Nat.le_of_ble_eq_true rfl) (WPs.mono k (fun r94 s94 k => ?_))
            obtain ⟨⟨h0, h1⟩, k⟩ := k
            refine r_iald dX11_trail_97 (Or.inl (k_149 hS)) h0 h1 ?_
            exact s_iret dX11_trail_98 rfl k
          · have k := k.2.2.1 h
            refine r_aload_n dX11_trail_99 rfl ?_
            refine r_getRv dX11_trail_100 fl_X11_90 rfl (k_125 hS) (f_125_47 hS) (by decide) ?_
            refine r_aload_n dX11_trail_103 rfl ?_
            refine r_iload_n dX11_trail_104 rfl ?_
            refine s_callVv (z := mX11_planned) [vI v1] dX11_trail_105 mv_X11_planned lk_X11_340 rfl (by decide) (k_125 hS) (Nat.le_of_ble_eq_true rfl) (WPs.mono k (fun r105 s105 k => ?_))
            obtain ⟨⟨h0, h1⟩, k⟩ := k
            refine r_iald dX11_trail_108 (Or.inl (k_151 hS)) h0 h1 ?_
            exact s_iret dX11_trail_109 rfl k
          · have k := k.2.2.2.1 h
            refine r_aload_n dX11_trail_110 rfl ?_
            refine r_iload_n dX11_trail_111 rfl ?_
            refine s_callVv (z := mX11_startAt) [vI v1] dX11_trail_112 mv_X11_startAt lk_X11_343 rfl (by decide) (k_125 hS) (Nat.le_of_ble_eq_true rfl) (WPs.mono k (fun r112 s112 k => ?_))
            exact s_iret dX11_trail_115 rfl k
          · have k := k.2.2.2.2.1 h
            refine r_aload_n dX11_trail_116 rfl ?_
            refine r_iload_n dX11_trail_117 rfl ?_
            refine s_callVv (z := mX11_endAt) [vI v1] dX11_trail_118 mv_X11_endAt lk_X11_349 rfl (by decide) (k_125 hS) (Nat.le_of_ble_eq_true rfl) (WPs.mono k (fun r118 s118 k => ?_))
            exact s_iret dX11_trail_121 rfl k
          · have k := k.2.2.2.2.2.1 h
            refine r_aload_n dX11_trail_122 rfl ?_
            refine r_aload_n dX11_trail_123 rfl ?_
            refine r_iload_n dX11_trail_124 rfl ?_
            refine s_callVv (z := mX11_planned) [vI v1] dX11_trail_125 mv_X11_planned lk_X11_340 rfl (by decide) (k_125 hS) (Nat.le_of_ble_eq_true rfl) (WPs.mono k (fun r125 s125 k => ?_))
            refine s_callVv (z := mX11_longOf) [vI r125] dX11_trail_128 mv_X11_longOf lk_X11_355 rfl (by decide) (k_125 hS) (Nat.le_of_ble_eq_true rfl) (WPs.mono k (fun r128 s128 k => ?_))
            exact s_iret dX11_trail_131 rfl k
          · have k := k.2.2.2.2.2.2 h
            refine r_aload_n dX11_trail_132 rfl ?_
            refine r_getRv dX11_trail_133 fl_X11_17 rfl (k_125 hS) (f_125_6 hS) (by decide) ?_
            refine r_sipush dX11_trail_136 (by decide +kernel) ⟨by decide, by decide⟩ ?_
            refine r_iload_n dX11_trail_139 rfl ?_
            obtain ⟨h, k⟩ := k
            refine r_iadd dX11_trail_140 h ?_
            obtain ⟨⟨h0, h1⟩, k⟩ := k
            refine r_iald dX11_trail_141 (Or.inl (k_127 hS)) h0 h1 ?_
            exact s_iret dX11_trail_142 rfl k
        · have k := k.2 h
          refine r_iconst dX11_trail_46 ⟨by decide, by decide⟩ ?_
          exact s_iret dX11_trail_47 rfl k
theorem e_X11_rideAt {v1 v2 : Int} {S : ShT} {σ : StT} {Q : Int → StT → Prop} (hS : SHP S) (k : WPs mX11_planned [vR 125, vI v1] S σ (fun r2 s2 => WPs mX11_isTurned [vR 125, vI v1] S s2 (fun r8 s8 => (¬ r8 = 0 → (0 ≤ r2 ∧ r2 < 24) ∧ ((0 ≤ r2 ∧ r2 < 24) ∧ inR ((s8 150 r2.toNat) + (s8 151 r2.toNat)) ∧ inR (((s8 150 r2.toNat) + (s8 151 r2.toNat)) - 1) ∧ inR ((((s8 150 r2.toNat) + (s8 151 r2.toNat)) - 1) - v2) ∧ ((0 ≤ (((s8 150 r2.toNat) + (s8 151 r2.toNat)) - 1) - v2 ∧ (((s8 150 r2.toNat) + (s8 151 r2.toNat)) - 1) - v2 < 48) ∧ ∀ x50 : Int, x50 = s8 148 ((((s8 150 r2.toNat) + (s8 151 r2.toNat)) - 1) - v2).toNat → 0 ≤ x50 ∧ ((¬ x50 % 2 = 0 → inR (x50 - 1) ∧ Q (x50 - 1) s8) ∧ (x50 % 2 = 0 → inR (x50 + 1) ∧ Q (x50 + 1) s8))))) ∧ (r8 = 0 → (0 ≤ r2 ∧ r2 < 24) ∧ inR ((s8 150 r2.toNat) + v2) ∧ (0 ≤ (s8 150 r2.toNat) + v2 ∧ (s8 150 r2.toNat) + v2 < 48) ∧ Q (s8 148 ((s8 150 r2.toNat) + v2).toNat) s8)))) : WPs mX11_rideAt [vR 125, vI v1, vI v2] S σ Q := by
  refine s_entry (by decide) (Nat.le_of_ble_eq_true rfl) rfl rfl ?_
  refine r_aload_n dX11_rideAt_0 rfl ?_
  refine r_iload_n dX11_rideAt_1 rfl ?_
  refine s_callVv (z := mX11_planned) [vI v1] dX11_rideAt_2 mv_X11_planned lk_X11_340 rfl (by decide) (k_125 hS) (Nat.le_of_ble_eq_true rfl) (WPs.mono k (fun r2 s2 k => ?_))
  refine r_istore_n dX11_rideAt_5 (by decide) rfl rfl ?_
  refine r_aload_n dX11_rideAt_6 rfl ?_
  refine r_iload_n dX11_rideAt_7 rfl ?_
  refine s_callVv (z := mX11_isTurned) [vI v1] dX11_rideAt_8 mv_X11_isTurned lk_X11_337 rfl (by decide) (k_125 hS) (Nat.le_of_ble_eq_true rfl) (WPs.mono k (fun r8 s8 k => ?_))
  refine r_if_ne (tgt := 28) dX11_rideAt_11 rfl (fun h => ?_) (fun h => ?_)
  · have k := k.1 h
    refine r_aload_n dX11_rideAt_28 rfl ?_
    refine r_getRv dX11_rideAt_29 fl_X11_81 rfl (k_125 hS) (f_125_44 hS) (by decide) ?_
    refine r_aload_n dX11_rideAt_32 rfl ?_
    refine r_getRv dX11_rideAt_33 fl_X11_87 rfl (k_125 hS) (f_125_46 hS) (by decide) ?_
    refine r_iload_n dX11_rideAt_36 rfl ?_
    obtain ⟨⟨h0, h1⟩, k⟩ := k
    refine r_iald dX11_rideAt_37 (Or.inl (k_150 hS)) h0 h1 ?_
    refine r_aload_n dX11_rideAt_38 rfl ?_
    refine r_getRv dX11_rideAt_39 fl_X11_90 rfl (k_125 hS) (f_125_47 hS) (by decide) ?_
    refine r_iload_n dX11_rideAt_42 rfl ?_
    obtain ⟨⟨h0, h1⟩, k⟩ := k
    refine r_iald dX11_rideAt_43 (Or.inl (k_151 hS)) h0 h1 ?_
    obtain ⟨h, k⟩ := k
    refine r_iadd dX11_rideAt_44 h ?_
    refine r_iconst dX11_rideAt_45 ⟨by decide, by decide⟩ ?_
    obtain ⟨h, k⟩ := k
    refine r_isub dX11_rideAt_46 h ?_
    refine r_iload_n dX11_rideAt_47 rfl ?_
    obtain ⟨h, k⟩ := k
    refine r_isub dX11_rideAt_48 h ?_
    obtain ⟨⟨h0, h1⟩, k⟩ := k
    refine r_iald dX11_rideAt_49 (Or.inl (k_148 hS)) h0 h1 ?_
    refine r_gen (fun x50 hx50 => ?_)
    have k := k x50 hx50
    refine r_istore dX11_rideAt_50 (by decide) rfl rfl ?_
    refine r_iload dX11_rideAt_52 rfl ?_
    refine r_iconst dX11_rideAt_54 ⟨by decide, by decide⟩ ?_
    obtain ⟨h, k⟩ := k
    refine r_irem dX11_rideAt_55 h (by decide) ?_
    refine r_if_ne (tgt := 66) dX11_rideAt_56 rfl (fun h => ?_) (fun h => ?_)
    · have k := k.1 h
      refine r_iload dX11_rideAt_66 rfl ?_
      refine r_iconst dX11_rideAt_68 ⟨by decide, by decide⟩ ?_
      obtain ⟨h, k⟩ := k
      refine r_isub dX11_rideAt_69 h ?_
      exact s_iret dX11_rideAt_70 rfl k
    · have k := k.2 h
      refine r_iload dX11_rideAt_59 rfl ?_
      refine r_iconst dX11_rideAt_61 ⟨by decide, by decide⟩ ?_
      obtain ⟨h, k⟩ := k
      refine r_iadd dX11_rideAt_62 h ?_
      refine r_goto (tgt := 70) dX11_rideAt_63 rfl ?_
      exact s_iret dX11_rideAt_70 rfl k
  · have k := k.2 h
    refine r_aload_n dX11_rideAt_14 rfl ?_
    refine r_getRv dX11_rideAt_15 fl_X11_81 rfl (k_125 hS) (f_125_44 hS) (by decide) ?_
    refine r_aload_n dX11_rideAt_18 rfl ?_
    refine r_getRv dX11_rideAt_19 fl_X11_87 rfl (k_125 hS) (f_125_46 hS) (by decide) ?_
    refine r_iload_n dX11_rideAt_22 rfl ?_
    obtain ⟨⟨h0, h1⟩, k⟩ := k
    refine r_iald dX11_rideAt_23 (Or.inl (k_150 hS)) h0 h1 ?_
    refine r_iload_n dX11_rideAt_24 rfl ?_
    obtain ⟨h, k⟩ := k
    refine r_iadd dX11_rideAt_25 h ?_
    obtain ⟨⟨h0, h1⟩, k⟩ := k
    refine r_iald dX11_rideAt_26 (Or.inl (k_148 hS)) h0 h1 ?_
    exact s_iret dX11_rideAt_27 rfl k
theorem e_X11_ride {v1 v2 : Int} {S : ShT} {σ : StT} {Q : Int → StT → Prop} (hS : SHP S) (k : (σ 125 11 = 0 → WPs mX11_isAsked [vR 125, vI 0] S σ (fun r30 s30 => (¬ r30 = 0 → WPs mX11_planned [vR 125, vI v1] S s30 (fun r46 s46 => (0 ≤ r46 ∧ r46 < 24) ∧ inR ((s46 151 r46.toNat) - 1) ∧ WPs mX11_in [vI v2, vI 0, vI ((s46 151 r46.toNat) - 1)] S s46 (fun r52 s52 => (r52 = 0 → WPs mX11_no [vR 125, vI 1] S s52 (fun r69 s69 => Q r69 s69)) ∧ (¬ (r52 = 0) → WPs mX11_rideAt [vR 125, vI v1, vI v2] S s52 (fun r61 s61 => Q r61 s61))))) ∧ (r30 = 0 → Q (-1) s30))) ∧ (¬ (σ 125 11 = 0) → inR ((σ 127 103) - 1) ∧ WPs mX11_in [vI v1, vI 0, vI ((σ 127 103) - 1)] S σ (fun r19 s19 => (r19 = 0 → WPs mX11_isAsked [vR 125, vI 0] S s19 (fun r30 s30 => (¬ r30 = 0 → WPs mX11_planned [vR 125, vI v1] S s30 (fun r46 s46 => (0 ≤ r46 ∧ r46 < 24) ∧ inR ((s46 151 r46.toNat) - 1) ∧ WPs mX11_in [vI v2, vI 0, vI ((s46 151 r46.toNat) - 1)] S s46 (fun r52 s52 => (r52 = 0 → WPs mX11_no [vR 125, vI 1] S s52 (fun r69 s69 => Q r69 s69)) ∧ (¬ (r52 = 0) → WPs mX11_rideAt [vR 125, vI v1, vI v2] S s52 (fun r61 s61 => Q r61 s61))))) ∧ (r30 = 0 → Q (-1) s30))) ∧ (¬ (r19 = 0) → WPs mX11_isAsked [vR 125, vI 1] S s19 (fun r30 s30 => (¬ r30 = 0 → WPs mX11_planned [vR 125, vI v1] S s30 (fun r46 s46 => (0 ≤ r46 ∧ r46 < 24) ∧ inR ((s46 151 r46.toNat) - 1) ∧ WPs mX11_in [vI v2, vI 0, vI ((s46 151 r46.toNat) - 1)] S s46 (fun r52 s52 => (r52 = 0 → WPs mX11_no [vR 125, vI 1] S s52 (fun r69 s69 => Q r69 s69)) ∧ (¬ (r52 = 0) → WPs mX11_rideAt [vR 125, vI v1, vI v2] S s52 (fun r61 s61 => Q r61 s61))))) ∧ (r30 = 0 → Q (-1) s30)))))) : WPs mX11_ride [vR 125, vI v1, vI v2] S σ Q := by
  refine s_entry (by decide) (Nat.le_of_ble_eq_true rfl) rfl rfl ?_
  refine r_aload_n dX11_ride_0 rfl ?_
  refine r_aload_n dX11_ride_1 rfl ?_
  refine r_getIv dX11_ride_2 fl_X11_223 rfl (k_125 hS) ?_
  refine r_if_eq (tgt := 29) dX11_ride_5 rfl (fun h => ?_) (fun h => ?_)
  · have k := k.1 h
    refine r_iconst dX11_ride_29 ⟨by decide, by decide⟩ ?_
    refine s_callVv (z := mX11_isAsked) [vI 0] dX11_ride_30 mv_X11_isAsked lk_X11_318 rfl (by decide) (k_125 hS) (Nat.le_of_ble_eq_true rfl) (WPs.mono k (fun r30 s30 k => ?_))
    refine r_if_ne (tgt := 38) dX11_ride_33 rfl (fun h => ?_) (fun h => ?_)
    · have k := k.1 h
      refine r_iload_n dX11_ride_38 rfl ?_
      refine r_iconst dX11_ride_39 ⟨by decide, by decide⟩ ?_
      refine r_aload_n dX11_ride_40 rfl ?_
      refine r_getRv dX11_ride_41 fl_X11_90 rfl (k_125 hS) (f_125_47 hS) (by decide) ?_
      refine r_aload_n dX11_ride_44 rfl ?_
      refine r_iload_n dX11_ride_45 rfl ?_
      refine s_callVv (z := mX11_planned) [vI v1] dX11_ride_46 mv_X11_planned lk_X11_340 rfl (by decide) (k_125 hS) (Nat.le_of_ble_eq_true rfl) (WPs.mono k (fun r46 s46 k => ?_))
      obtain ⟨⟨h0, h1⟩, k⟩ := k
      refine r_iald dX11_ride_49 (Or.inl (k_151 hS)) h0 h1 ?_
      refine r_iconst dX11_ride_50 ⟨by decide, by decide⟩ ?_
      obtain ⟨h, k⟩ := k
      refine r_isub dX11_ride_51 h ?_
      refine s_callS (z := mX11_in) [vI v2, vI 0, vI ((s46 151 r46.toNat) - 1)] dX11_ride_52 ms_X11_in lk_X11_128 rfl (by decide) (Nat.le_of_ble_eq_true rfl) (WPs.mono k (fun r52 s52 k => ?_))
      refine r_if_eq (tgt := 67) dX11_ride_55 rfl (fun h => ?_) (fun h => ?_)
      · have k := k.1 h
        refine r_aload_n dX11_ride_67 rfl ?_
        refine r_iconst dX11_ride_68 ⟨by decide, by decide⟩ ?_
        refine s_callVv (z := mX11_no) [vI 1] dX11_ride_69 mv_X11_no lk_X11_216 rfl (by decide) (k_125 hS) (Nat.le_of_ble_eq_true rfl) (WPs.mono k (fun r69 s69 k => ?_))
        exact s_iret dX11_ride_72 rfl k
      · have k := k.2 h
        refine r_aload_n dX11_ride_58 rfl ?_
        refine r_iload_n dX11_ride_59 rfl ?_
        refine r_iload_n dX11_ride_60 rfl ?_
        refine s_callVv (z := mX11_rideAt) [vI v1, vI v2] dX11_ride_61 mv_X11_rideAt lk_X11_358 rfl (by decide) (k_125 hS) (Nat.le_of_ble_eq_true rfl) (WPs.mono k (fun r61 s61 k => ?_))
        refine r_goto (tgt := 72) dX11_ride_64 rfl ?_
        exact s_iret dX11_ride_72 rfl k
    · have k := k.2 h
      refine r_iconst dX11_ride_36 ⟨by decide, by decide⟩ ?_
      exact s_iret dX11_ride_37 rfl k
  · have k := k.2 h
    refine r_iload_n dX11_ride_8 rfl ?_
    refine r_iconst dX11_ride_9 ⟨by decide, by decide⟩ ?_
    refine r_aload_n dX11_ride_10 rfl ?_
    refine r_getRv dX11_ride_11 fl_X11_17 rfl (k_125 hS) (f_125_6 hS) (by decide) ?_
    refine r_bipush dX11_ride_14 (by decide +kernel) ⟨by decide, by decide⟩ ?_
    refine r_iald dX11_ride_16 (Or.inl (k_127 hS)) (by decide) (by decide) ?_
    refine r_iconst dX11_ride_17 ⟨by decide, by decide⟩ ?_
    obtain ⟨h, k⟩ := k
    refine r_isub dX11_ride_18 h ?_
    refine s_callS (z := mX11_in) [vI v1, vI 0, vI ((σ 127 103) - 1)] dX11_ride_19 ms_X11_in lk_X11_128 rfl (by decide) (Nat.le_of_ble_eq_true rfl) (WPs.mono k (fun r19 s19 k => ?_))
    refine r_if_eq (tgt := 29) dX11_ride_22 rfl (fun h => ?_) (fun h => ?_)
    · have k := k.1 h
      refine r_iconst dX11_ride_29 ⟨by decide, by decide⟩ ?_
      refine s_callVv (z := mX11_isAsked) [vI 0] dX11_ride_30 mv_X11_isAsked lk_X11_318 rfl (by decide) (k_125 hS) (Nat.le_of_ble_eq_true rfl) (WPs.mono k (fun r30 s30 k => ?_))
      refine r_if_ne (tgt := 38) dX11_ride_33 rfl (fun h => ?_) (fun h => ?_)
      · have k := k.1 h
        refine r_iload_n dX11_ride_38 rfl ?_
        refine r_iconst dX11_ride_39 ⟨by decide, by decide⟩ ?_
        refine r_aload_n dX11_ride_40 rfl ?_
        refine r_getRv dX11_ride_41 fl_X11_90 rfl (k_125 hS) (f_125_47 hS) (by decide) ?_
        refine r_aload_n dX11_ride_44 rfl ?_
        refine r_iload_n dX11_ride_45 rfl ?_
        refine s_callVv (z := mX11_planned) [vI v1] dX11_ride_46 mv_X11_planned lk_X11_340 rfl (by decide) (k_125 hS) (Nat.le_of_ble_eq_true rfl) (WPs.mono k (fun r46 s46 k => ?_))
        obtain ⟨⟨h0, h1⟩, k⟩ := k
        refine r_iald dX11_ride_49 (Or.inl (k_151 hS)) h0 h1 ?_
        refine r_iconst dX11_ride_50 ⟨by decide, by decide⟩ ?_
        obtain ⟨h, k⟩ := k
        refine r_isub dX11_ride_51 h ?_
        refine s_callS (z := mX11_in) [vI v2, vI 0, vI ((s46 151 r46.toNat) - 1)] dX11_ride_52 ms_X11_in lk_X11_128 rfl (by decide) (Nat.le_of_ble_eq_true rfl) (WPs.mono k (fun r52 s52 k => ?_))
        refine r_if_eq (tgt := 67) dX11_ride_55 rfl (fun h => ?_) (fun h => ?_)
        · have k := k.1 h
          refine r_aload_n dX11_ride_67 rfl ?_
          refine r_iconst dX11_ride_68 ⟨by decide, by decide⟩ ?_
          refine s_callVv (z := mX11_no) [vI 1] dX11_ride_69 mv_X11_no lk_X11_216 rfl (by decide) (k_125 hS) (Nat.le_of_ble_eq_true rfl) (WPs.mono k (fun r69 s69 k => ?_))
          exact s_iret dX11_ride_72 rfl k
        · have k := k.2 h
          refine r_aload_n dX11_ride_58 rfl ?_
          refine r_iload_n dX11_ride_59 rfl ?_
          refine r_iload_n dX11_ride_60 rfl ?_
          refine s_callVv (z := mX11_rideAt) [vI v1, vI v2] dX11_ride_61 mv_X11_rideAt lk_X11_358 rfl (by decide) (k_125 hS) (Nat.le_of_ble_eq_true rfl) (WPs.mono k (fun r61 s61 k => ?_))
          refine r_goto (tgt := 72) dX11_ride_64 rfl ?_
          exact s_iret dX11_ride_72 rfl k
      · have k := k.2 h
        refine r_iconst dX11_ride_36 ⟨by decide, by decide⟩ ?_
        exact s_iret dX11_ride_37 rfl k
    · have k := k.2 h
      refine r_iconst dX11_ride_25 ⟨by decide, by decide⟩ ?_
      refine r_goto (tgt := 30) dX11_ride_26 rfl ?_
      refine s_callVv (z := mX11_isAsked) [vI 1] dX11_ride_30 mv_X11_isAsked lk_X11_318 rfl (by decide) (k_125 hS) (Nat.le_of_ble_eq_true rfl) (WPs.mono k (fun r30 s30 k => ?_))
      refine r_if_ne (tgt := 38) dX11_ride_33 rfl (fun h => ?_) (fun h => ?_)
      · have k := k.1 h
        refine r_iload_n dX11_ride_38 rfl ?_
        refine r_iconst dX11_ride_39 ⟨by decide, by decide⟩ ?_
        refine r_aload_n dX11_ride_40 rfl ?_
        refine r_getRv dX11_ride_41 fl_X11_90 rfl (k_125 hS) (f_125_47 hS) (by decide) ?_
        refine r_aload_n dX11_ride_44 rfl ?_
        refine r_iload_n dX11_ride_45 rfl ?_
        refine s_callVv (z := mX11_planned) [vI v1] dX11_ride_46 mv_X11_planned lk_X11_340 rfl (by decide) (k_125 hS) (Nat.le_of_ble_eq_true rfl) (WPs.mono k (fun r46 s46 k => ?_))
        obtain ⟨⟨h0, h1⟩, k⟩ := k
        refine r_iald dX11_ride_49 (Or.inl (k_151 hS)) h0 h1 ?_
        refine r_iconst dX11_ride_50 ⟨by decide, by decide⟩ ?_
        obtain ⟨h, k⟩ := k
        refine r_isub dX11_ride_51 h ?_
        refine s_callS (z := mX11_in) [vI v2, vI 0, vI ((s46 151 r46.toNat) - 1)] dX11_ride_52 ms_X11_in lk_X11_128 rfl (by decide) (Nat.le_of_ble_eq_true rfl) (WPs.mono k (fun r52 s52 k => ?_))
        refine r_if_eq (tgt := 67) dX11_ride_55 rfl (fun h => ?_) (fun h => ?_)
        · have k := k.1 h
          refine r_aload_n dX11_ride_67 rfl ?_
          refine r_iconst dX11_ride_68 ⟨by decide, by decide⟩ ?_
          refine s_callVv (z := mX11_no) [vI 1] dX11_ride_69 mv_X11_no lk_X11_216 rfl (by decide) (k_125 hS) (Nat.le_of_ble_eq_true rfl) (WPs.mono k (fun r69 s69 k => ?_))
          exact s_iret dX11_ride_72 rfl k
        · have k := k.2 h
          refine r_aload_n dX11_ride_58 rfl ?_
          refine r_iload_n dX11_ride_59 rfl ?_
          refine r_iload_n dX11_ride_60 rfl ?_
          refine s_callVv (z := mX11_rideAt) [vI v1, vI v2] dX11_ride_61 mv_X11_rideAt lk_X11_358 rfl (by decide) (k_125 hS) (Nat.le_of_ble_eq_true rfl) (WPs.mono k (fun r61 s61 k => ?_))
          refine r_goto (tgt := 72) dX11_ride_64 rfl ?_
          exact s_iret dX11_ride_72 rfl k
      · have k := k.2 h
        refine r_iconst dX11_ride_36 ⟨by decide, by decide⟩ ?_
        exact s_iret dX11_ride_37 rfl k
theorem e_X11_lifts {S : ShT} {σ : StT} {Q : Int → StT → Prop} (hS : SHP S) (k : WPs mX11_isAsked [vR 125, vI 1] S σ (fun r2 s2 => (¬ r2 = 0 → AWs mX11_lifts 14 [(0, vR 125), (1, vI 0), (2, vI 1)] [] S s2 Q) ∧ (r2 = 0 → Q (-1) s2))) : WPs mX11_lifts [vR 125] S σ Q := by
  refine s_entry (by decide) (Nat.le_of_ble_eq_true rfl) rfl rfl ?_
  refine r_aload_n dX11_lifts_0 rfl ?_
  refine r_iconst dX11_lifts_1 ⟨by decide, by decide⟩ ?_
  refine s_callVv (z := mX11_isAsked) [vI 1] dX11_lifts_2 mv_X11_isAsked lk_X11_318 rfl (by decide) (k_125 hS) (Nat.le_of_ble_eq_true rfl) (WPs.mono k (fun r2 s2 k => ?_))
  refine r_if_ne (tgt := 10) dX11_lifts_5 rfl (fun h => ?_) (fun h => ?_)
  · have k := k.1 h
    refine r_iconst dX11_lifts_10 ⟨by decide, by decide⟩ ?_
    refine r_istore_n dX11_lifts_11 (by decide) rfl rfl ?_
    refine r_iconst dX11_lifts_12 ⟨by decide, by decide⟩ ?_
    refine r_istore_n dX11_lifts_13 (by decide) rfl rfl ?_
    exact k
  · have k := k.2 h
    refine r_iconst dX11_lifts_8 ⟨by decide, by decide⟩ ?_
    exact s_iret dX11_lifts_9 rfl k
theorem t_X11_lifts_14 {v1 v2 : Int} {S : ShT} {σ : StT} {Q : Int → StT → Prop} (hS : SHP S) (k : (σ 127 103 ≤ v2 → Q v1 σ) ∧ (¬ (σ 127 103 ≤ v2) → WPs mX11_leap [vR 125, vI v2] S σ (fun r28 s28 => (r28 ≤ 0 → inR (v1 + 0) ∧ inR (v2 + 1) ∧ AWs mX11_lifts 14 [(0, vR 125), (1, vI (v1 + 0)), (2, vI (v2 + 1))] [] S s28 Q) ∧ (¬ (r28 ≤ 0) → inR (v1 + 1) ∧ inR (v2 + 1) ∧ AWs mX11_lifts 14 [(0, vR 125), (1, vI (v1 + 1)), (2, vI (v2 + 1))] [] S s28 Q)))) : AWs mX11_lifts 14 [(0, vR 125), (1, vI v1), (2, vI v2)] [] S σ Q := by
  refine r_iload_n dX11_lifts_14 rfl ?_
  refine r_aload_n dX11_lifts_15 rfl ?_
  refine r_getRv dX11_lifts_16 fl_X11_17 rfl (k_125 hS) (f_125_6 hS) (by decide) ?_
  refine r_bipush dX11_lifts_19 (by decide +kernel) ⟨by decide, by decide⟩ ?_
  refine r_iald dX11_lifts_21 (Or.inl (k_127 hS)) (by decide) (by decide) ?_
  refine r_icmp_ge (tgt := 47) dX11_lifts_22 rfl (fun h => ?_) (fun h => ?_)
  · have k := k.1 h
    refine r_iload_n dX11_lifts_47 rfl ?_
    exact s_iret dX11_lifts_48 rfl k
  · have k := k.2 h
    refine r_iload_n dX11_lifts_25 rfl ?_
    refine r_aload_n dX11_lifts_26 rfl ?_
    refine r_iload_n dX11_lifts_27 rfl ?_
    refine s_callVv (z := mX11_leap) [vI v2] dX11_lifts_28 mv_X11_leap lk_X11_352 rfl (by decide) (k_125 hS) (Nat.le_of_ble_eq_true rfl) (WPs.mono k (fun r28 s28 k => ?_))
    refine r_if_le (tgt := 38) dX11_lifts_31 rfl (fun h => ?_) (fun h => ?_)
    · have k := k.1 h
      refine r_iconst dX11_lifts_38 ⟨by decide, by decide⟩ ?_
      obtain ⟨h, k⟩ := k
      refine r_iadd dX11_lifts_39 h ?_
      refine r_istore_n dX11_lifts_40 (by decide) rfl rfl ?_
      obtain ⟨h, k⟩ := k
      refine r_iinc dX11_lifts_41 rfl (by decide) rfl rfl h ?_
      refine r_goto (tgt := 14) dX11_lifts_44 rfl ?_
      exact k
    · have k := k.2 h
      refine r_iconst dX11_lifts_34 ⟨by decide, by decide⟩ ?_
      refine r_goto (tgt := 39) dX11_lifts_35 rfl ?_
      obtain ⟨h, k⟩ := k
      refine r_iadd dX11_lifts_39 h ?_
      refine r_istore_n dX11_lifts_40 (by decide) rfl rfl ?_
      obtain ⟨h, k⟩ := k
      refine r_iinc dX11_lifts_41 rfl (by decide) rfl rfl h ?_
      refine r_goto (tgt := 14) dX11_lifts_44 rfl ?_
      exact k
theorem e_X11_rides {v1 : Int} {S : ShT} {σ : StT} {Q : Int → StT → Prop} (hS : SHP S) (k : (σ 125 11 = 0 → WPs mX11_isAsked [vR 125, vI 0] S σ (fun r29 s29 => (¬ r29 = 0 → AWs mX11_rides 39 [(0, vR 125), (1, vI v1), (2, vI 0)] [] S s29 Q) ∧ (r29 = 0 → Q (-1) s29))) ∧ (¬ (σ 125 11 = 0) → inR ((σ 127 2) - 1) ∧ WPs mX11_in [vI v1, vI 0, vI ((σ 127 2) - 1)] S σ (fun r18 s18 => (r18 = 0 → WPs mX11_isAsked [vR 125, vI 0] S s18 (fun r29 s29 => (¬ r29 = 0 → AWs mX11_rides 39 [(0, vR 125), (1, vI v1), (2, vI 0)] [] S s29 Q) ∧ (r29 = 0 → Q (-1) s29))) ∧ (¬ (r18 = 0) → WPs mX11_isAsked [vR 125, vI 1] S s18 (fun r29 s29 => (¬ r29 = 0 → AWs mX11_rides 39 [(0, vR 125), (1, vI v1), (2, vI 0)] [] S s29 Q) ∧ (r29 = 0 → Q (-1) s29)))))) : WPs mX11_rides [vR 125, vI v1] S σ Q := by
  refine s_entry (by decide) (Nat.le_of_ble_eq_true rfl) rfl rfl ?_
  refine r_aload_n dX11_rides_0 rfl ?_
  refine r_aload_n dX11_rides_1 rfl ?_
  refine r_getIv dX11_rides_2 fl_X11_223 rfl (k_125 hS) ?_
  refine r_if_eq (tgt := 28) dX11_rides_5 rfl (fun h => ?_) (fun h => ?_)
  · have k := k.1 h
    refine r_iconst dX11_rides_28 ⟨by decide, by decide⟩ ?_
    refine s_callVv (z := mX11_isAsked) [vI 0] dX11_rides_29 mv_X11_isAsked lk_X11_318 rfl (by decide) (k_125 hS) (Nat.le_of_ble_eq_true rfl) (WPs.mono k (fun r29 s29 k => ?_))
    refine r_if_ne (tgt := 37) dX11_rides_32 rfl (fun h => ?_) (fun h => ?_)
    · have k := k.1 h
      refine r_iconst dX11_rides_37 ⟨by decide, by decide⟩ ?_
      refine r_istore_n dX11_rides_38 (by decide) rfl rfl ?_
      exact k
    · have k := k.2 h
      refine r_iconst dX11_rides_35 ⟨by decide, by decide⟩ ?_
      exact s_iret dX11_rides_36 rfl k
  · have k := k.2 h
    refine r_iload_n dX11_rides_8 rfl ?_
    refine r_iconst dX11_rides_9 ⟨by decide, by decide⟩ ?_
    refine r_aload_n dX11_rides_10 rfl ?_
    refine r_getRv dX11_rides_11 fl_X11_17 rfl (k_125 hS) (f_125_6 hS) (by decide) ?_
    refine r_iconst dX11_rides_14 ⟨by decide, by decide⟩ ?_
    refine r_iald dX11_rides_15 (Or.inl (k_127 hS)) (by decide) (by decide) ?_
    refine r_iconst dX11_rides_16 ⟨by decide, by decide⟩ ?_
    obtain ⟨h, k⟩ := k
    refine r_isub dX11_rides_17 h ?_
    refine s_callS (z := mX11_in) [vI v1, vI 0, vI ((σ 127 2) - 1)] dX11_rides_18 ms_X11_in lk_X11_128 rfl (by decide) (Nat.le_of_ble_eq_true rfl) (WPs.mono k (fun r18 s18 k => ?_))
    refine r_if_eq (tgt := 28) dX11_rides_21 rfl (fun h => ?_) (fun h => ?_)
    · have k := k.1 h
      refine r_iconst dX11_rides_28 ⟨by decide, by decide⟩ ?_
      refine s_callVv (z := mX11_isAsked) [vI 0] dX11_rides_29 mv_X11_isAsked lk_X11_318 rfl (by decide) (k_125 hS) (Nat.le_of_ble_eq_true rfl) (WPs.mono k (fun r29 s29 k => ?_))
      refine r_if_ne (tgt := 37) dX11_rides_32 rfl (fun h => ?_) (fun h => ?_)
      · have k := k.1 h
        refine r_iconst dX11_rides_37 ⟨by decide, by decide⟩ ?_
        refine r_istore_n dX11_rides_38 (by decide) rfl rfl ?_
        exact k
      · have k := k.2 h
        refine r_iconst dX11_rides_35 ⟨by decide, by decide⟩ ?_
        exact s_iret dX11_rides_36 rfl k
    · have k := k.2 h
      refine r_iconst dX11_rides_24 ⟨by decide, by decide⟩ ?_
      refine r_goto (tgt := 29) dX11_rides_25 rfl ?_
      refine s_callVv (z := mX11_isAsked) [vI 1] dX11_rides_29 mv_X11_isAsked lk_X11_318 rfl (by decide) (k_125 hS) (Nat.le_of_ble_eq_true rfl) (WPs.mono k (fun r29 s29 k => ?_))
      refine r_if_ne (tgt := 37) dX11_rides_32 rfl (fun h => ?_) (fun h => ?_)
      · have k := k.1 h
        refine r_iconst dX11_rides_37 ⟨by decide, by decide⟩ ?_
        refine r_istore_n dX11_rides_38 (by decide) rfl rfl ?_
        exact k
      · have k := k.2 h
        refine r_iconst dX11_rides_35 ⟨by decide, by decide⟩ ?_
        exact s_iret dX11_rides_36 rfl k
theorem t_X11_rides_39 {v1 v2 : Int} {S : ShT} {σ : StT} {Q : Int → StT → Prop} (hS : SHP S) (k : (σ 127 103 ≤ v2 → Q (-1) σ) ∧ (¬ (σ 127 103 ≤ v2) → AWs mX11_rides 52 [(0, vR 125), (1, vI v1), (2, vI v2), (3, vI 0)] [] S σ Q)) : AWs mX11_rides 39 [(0, vR 125), (1, vI v1), (2, vI v2)] [] S σ Q := by
  refine r_iload_n dX11_rides_39 rfl ?_
  refine r_aload_n dX11_rides_40 rfl ?_
  refine r_getRv dX11_rides_41 fl_X11_17 rfl (k_125 hS) (f_125_6 hS) (by decide) ?_
  refine r_bipush dX11_rides_44 (by decide +kernel) ⟨by decide, by decide⟩ ?_
  refine r_iald dX11_rides_46 (Or.inl (k_127 hS)) (by decide) (by decide) ?_
  refine r_icmp_ge (tgt := 92) dX11_rides_47 rfl (fun h => ?_) (fun h => ?_)
  · have k := k.1 h
    refine r_iconst dX11_rides_92 ⟨by decide, by decide⟩ ?_
    exact s_iret dX11_rides_93 rfl k
  · have k := k.2 h
    refine r_iconst dX11_rides_50 ⟨by decide, by decide⟩ ?_
    refine r_istore_n dX11_rides_51 (by decide) rfl rfl ?_
    exact k
theorem t_X11_rides_52 {v1 v2 v3 : Int} {S : ShT} {σ : StT} {Q : Int → StT → Prop} (hS : SHP S) (k : WPs mX11_planned [vR 125, vI v2] S σ (fun r59 s59 => (0 ≤ r59 ∧ r59 < 24) ∧ ((s59 151 r59.toNat ≤ v3 → inR (v2 + 1) ∧ AWs mX11_rides 39 [(0, vR 125), (1, vI v1), (2, vI (v2 + 1))] [] S s59 Q) ∧ (¬ (s59 151 r59.toNat ≤ v3) → WPs mX11_rideAt [vR 125, vI v2, vI v3] S s59 (fun r69 s69 => 0 ≤ r69 ∧ ((¬ r69 / 2 = v1 → inR (v3 + 1) ∧ AWs mX11_rides 52 [(0, vR 125), (1, vI v1), (2, vI v2), (3, vI (v3 + 1))] [] S s69 Q) ∧ (r69 / 2 = v1 → Q v2 s69))))))) : AWs mX11_rides 52 [(0, vR 125), (1, vI v1), (2, vI v2), (3, vI v3)] [] S σ Q := by
  refine r_iload_n dX11_rides_52 rfl ?_
  refine r_aload_n dX11_rides_53 rfl ?_
  refine r_getRv dX11_rides_54 fl_X11_90 rfl (k_125 hS) (f_125_47 hS) (by decide) ?_
  refine r_aload_n dX11_rides_57 rfl ?_
  refine r_iload_n dX11_rides_58 rfl ?_
  refine s_callVv (z := mX11_planned) [vI v2] dX11_rides_59 mv_X11_planned lk_X11_340 rfl (by decide) (k_125 hS) (Nat.le_of_ble_eq_true rfl) (WPs.mono k (fun r59 s59 k => ?_))
  obtain ⟨⟨h0, h1⟩, k⟩ := k
  refine r_iald dX11_rides_62 (Or.inl (k_151 hS)) h0 h1 ?_
  refine r_icmp_ge (tgt := 86) dX11_rides_63 rfl (fun h => ?_) (fun h => ?_)
  · have k := k.1 h
    obtain ⟨h, k⟩ := k
    refine r_iinc dX11_rides_86 rfl (by decide) rfl rfl h ?_
    refine r_goto (tgt := 39) dX11_rides_89 rfl ?_
    refine r_loc [0, 1, 2] rfl ?_
    exact k
  · have k := k.2 h
    refine r_aload_n dX11_rides_66 rfl ?_
    refine r_iload_n dX11_rides_67 rfl ?_
    refine r_iload_n dX11_rides_68 rfl ?_
    refine s_callVv (z := mX11_rideAt) [vI v2, vI v3] dX11_rides_69 mv_X11_rideAt lk_X11_358 rfl (by decide) (k_125 hS) (Nat.le_of_ble_eq_true rfl) (WPs.mono k (fun r69 s69 k => ?_))
    refine r_iconst dX11_rides_72 ⟨by decide, by decide⟩ ?_
    obtain ⟨h, k⟩ := k
    refine r_idiv dX11_rides_73 h (by decide) ?_
    refine r_iload_n dX11_rides_74 rfl ?_
    refine r_icmp_ne (tgt := 80) dX11_rides_75 rfl (fun h => ?_) (fun h => ?_)
    · have k := k.1 h
      obtain ⟨h, k⟩ := k
      refine r_iinc dX11_rides_80 rfl (by decide) rfl rfl h ?_
      refine r_goto (tgt := 52) dX11_rides_83 rfl ?_
      exact k
    · have k := k.2 h
      refine r_iload_n dX11_rides_78 rfl ?_
      exact s_iret dX11_rides_79 rfl k
theorem e_X11_travel {S : ShT} {σ : StT} {Q : Int → StT → Prop} (hS : SHP S) (k : WPs mX11_isAsked [vR 125, vI 1] S σ (fun r2 s2 => (r2 = 0 → Q (-1) s2) ∧ (¬ (r2 = 0) → WPs mX11_leaps [vR 125] S s2 (fun r9 s9 => Q r9 s9)))) : WPs mX11_travel [vR 125] S σ Q := by
  refine s_entry (by decide) (Nat.le_of_ble_eq_true rfl) rfl rfl ?_
  refine r_aload_n dX11_travel_0 rfl ?_
  refine r_iconst dX11_travel_1 ⟨by decide, by decide⟩ ?_
  refine s_callVv (z := mX11_isAsked) [vI 1] dX11_travel_2 mv_X11_isAsked lk_X11_318 rfl (by decide) (k_125 hS) (Nat.le_of_ble_eq_true rfl) (WPs.mono k (fun r2 s2 k => ?_))
  refine r_if_eq (tgt := 15) dX11_travel_5 rfl (fun h => ?_) (fun h => ?_)
  · have k := k.1 h
    refine r_iconst dX11_travel_15 ⟨by decide, by decide⟩ ?_
    exact s_iret dX11_travel_16 rfl k
  · have k := k.2 h
    refine r_aload_n dX11_travel_8 rfl ?_
    refine s_callVv (z := mX11_leaps) [] dX11_travel_9 mv_X11_leaps lk_X11_361 rfl (by decide) (k_125 hS) (Nat.le_of_ble_eq_true rfl) (WPs.mono k (fun r9 s9 k => ?_))
    refine r_goto (tgt := 16) dX11_travel_12 rfl ?_
    exact s_iret dX11_travel_16 rfl k
theorem e_X11_laysAside {S : ShT} {σ : StT} {Q : Int → StT → Prop} (hS : SHP S) (k : WPs mX11_copies [vR 127, vI 0, vR 129, vI 0] S σ (fun r10 s10 => Q 0 s10)) : WPs mX11_laysAside [vR 125] S σ Q := by
  refine s_entry (by decide) (Nat.le_of_ble_eq_true rfl) rfl rfl ?_
  refine r_aload_n dX11_laysAside_0 rfl ?_
  refine r_getRv dX11_laysAside_1 fl_X11_17 rfl (k_125 hS) (f_125_6 hS) (by decide) ?_
  refine r_iconst dX11_laysAside_4 ⟨by decide, by decide⟩ ?_
  refine r_aload_n dX11_laysAside_5 rfl ?_
  refine r_getRv dX11_laysAside_6 fl_X11_23 rfl (k_125 hS) (f_125_8 hS) (by decide) ?_
  refine r_iconst dX11_laysAside_9 ⟨by decide, by decide⟩ ?_
  refine s_callS (z := mX11_copies) [vR 127, vI 0, vR 129, vI 0] dX11_laysAside_10 ms_X11_copies lk_X11_219 rfl (by decide) (Nat.le_of_ble_eq_true rfl) (WPs.mono k (fun r10 s10 k => ?_))
  exact s_vret dX11_laysAside_13 rfl k
theorem e_X11_takesBack {S : ShT} {σ : StT} {Q : Int → StT → Prop} (hS : SHP S) (k : WPs mX11_copies [vR 129, vI 0, vR 127, vI 0] S σ (fun r10 s10 => Q 0 s10)) : WPs mX11_takesBack [vR 125] S σ Q := by
  refine s_entry (by decide) (Nat.le_of_ble_eq_true rfl) rfl rfl ?_
  refine r_aload_n dX11_takesBack_0 rfl ?_
  refine r_getRv dX11_takesBack_1 fl_X11_23 rfl (k_125 hS) (f_125_8 hS) (by decide) ?_
  refine r_iconst dX11_takesBack_4 ⟨by decide, by decide⟩ ?_
  refine r_aload_n dX11_takesBack_5 rfl ?_
  refine r_getRv dX11_takesBack_6 fl_X11_17 rfl (k_125 hS) (f_125_6 hS) (by decide) ?_
  refine r_iconst dX11_takesBack_9 ⟨by decide, by decide⟩ ?_
  refine s_callS (z := mX11_copies) [vR 129, vI 0, vR 127, vI 0] dX11_takesBack_10 ms_X11_copies lk_X11_219 rfl (by decide) (Nat.le_of_ble_eq_true rfl) (WPs.mono k (fun r10 s10 k => ?_))
  exact s_vret dX11_takesBack_13 rfl k
theorem e_X11_started {S : ShT} {σ : StT} {Q : Int → StT → Prop} (hS : SHP S) (k : WPs mX11_isAsked [vR 125, vI 1] S σ (fun r2 s2 => (¬ r2 = 0 → WPs mX11_laysAside [vR 125] S s2 (fun r11 s11 => WPs mX11_plansAnew [vR 125] S s11 (fun r15 s15 => WPs mX11_leaps [vR 125] S s15 (fun r19 s19 => WPs mX11_takesBack [vR 125] S s19 (fun r24 s24 => Q r19 s24))))) ∧ (r2 = 0 → Q (-1) s2))) : WPs mX11_started [vR 125] S σ Q := by
  refine s_entry (by decide) (Nat.le_of_ble_eq_true rfl) rfl rfl ?_
  refine r_aload_n dX11_started_0 rfl ?_
  refine r_iconst dX11_started_1 ⟨by decide, by decide⟩ ?_
  refine s_callVv (z := mX11_isAsked) [vI 1] dX11_started_2 mv_X11_isAsked lk_X11_318 rfl (by decide) (k_125 hS) (Nat.le_of_ble_eq_true rfl) (WPs.mono k (fun r2 s2 k => ?_))
  refine r_if_ne (tgt := 10) dX11_started_5 rfl (fun h => ?_) (fun h => ?_)
  · have k := k.1 h
    refine r_aload_n dX11_started_10 rfl ?_
    refine s_callVv (z := mX11_laysAside) [] dX11_started_11 mv_X11_laysAside lk_X11_364 rfl (by decide) (k_125 hS) (Nat.le_of_ble_eq_true rfl) (WPs.mono k (fun r11 s11 k => ?_))
    refine r_aload_n dX11_started_14 rfl ?_
    refine s_callVv (z := mX11_plansAnew) [] dX11_started_15 mv_X11_plansAnew lk_X11_229 rfl (by decide) (k_125 hS) (Nat.le_of_ble_eq_true rfl) (WPs.mono k (fun r15 s15 k => ?_))
    refine r_aload_n dX11_started_18 rfl ?_
    refine s_callVv (z := mX11_leaps) [] dX11_started_19 mv_X11_leaps lk_X11_361 rfl (by decide) (k_125 hS) (Nat.le_of_ble_eq_true rfl) (WPs.mono k (fun r19 s19 k => ?_))
    refine r_istore_n dX11_started_22 (by decide) rfl rfl ?_
    refine r_aload_n dX11_started_23 rfl ?_
    refine s_callVv (z := mX11_takesBack) [] dX11_started_24 mv_X11_takesBack lk_X11_367 rfl (by decide) (k_125 hS) (Nat.le_of_ble_eq_true rfl) (WPs.mono k (fun r24 s24 k => ?_))
    refine r_iload_n dX11_started_27 rfl ?_
    exact s_iret dX11_started_28 rfl k
  · have k := k.2 h
    refine r_iconst dX11_started_8 ⟨by decide, by decide⟩ ?_
    exact s_iret dX11_started_9 rfl k
theorem e_X11_exchanges {v1 v2 : Int} {S : ShT} {σ : StT} {Q : Int → StT → Prop} (hS : SHP S) (k : AWs mX11_exchanges 5 [(0, vR 125), (3, vI v1), (4, vI v2)] [] S σ Q) : WPs mX11_exchanges [vR 125, vI v1, vI v2] S σ Q := by
  refine s_entry (by decide) (Nat.le_of_ble_eq_true rfl) rfl rfl ?_
  refine r_iload_n dX11_exchanges_0 rfl ?_
  refine r_istore_n dX11_exchanges_1 (by decide) rfl rfl ?_
  refine r_iload_n dX11_exchanges_2 rfl ?_
  refine r_istore dX11_exchanges_3 (by decide) rfl rfl ?_
  refine r_loc [0, 3, 4] rfl ?_
  exact k
theorem t_X11_exchanges_5 {v3 v4 : Int} {S : ShT} {σ : StT} {Q : Int → StT → Prop} (hS : SHP S) (k : (v4 < v3 → Q 0 σ) ∧ (¬ (v4 < v3) → inR (104 + v3) ∧ ((0 ≤ 104 + v3 ∧ 104 + v3 < 152) ∧ ∀ x20 : Int, x20 = σ 127 (104 + v3).toNat → inR (128 + v3) ∧ ((0 ≤ 128 + v3 ∧ 128 + v3 < 152) ∧ ∀ x32 : Int, x32 = σ 127 (128 + v3).toNat → inR (104 + v3) ∧ inR (104 + v4) ∧ (0 ≤ 104 + v4 ∧ 104 + v4 < 152) ∧ (0 ≤ 104 + v3 ∧ 104 + v3 < 152) ∧ inR (128 + v3) ∧ inR (128 + v4) ∧ (0 ≤ 128 + v4 ∧ 128 + v4 < 152) ∧ inR (1 - ((up2 σ 127 (104 + v3).toNat (σ 127 (104 + v4).toNat)) 127 (128 + v4).toNat)) ∧ (0 ≤ 128 + v3 ∧ 128 + v3 < 152) ∧ inR (104 + v4) ∧ (0 ≤ 104 + v4 ∧ 104 + v4 < 152) ∧ inR (128 + v4) ∧ inR (1 - x32) ∧ (0 ≤ 128 + v4 ∧ 128 + v4 < 152) ∧ inR (v3 + 1) ∧ inR (v4 + -1) ∧ AWs mX11_exchanges 5 [(0, vR 125), (3, vI (v3 + 1)), (4, vI (v4 + -1))] [] S (up2 (up2 (up2 (up2 σ 127 (104 + v3).toNat (σ 127 (104 + v4).toNat)) 127 (128 + v3).toNat (1 - ((up2 σ 127 (104 + v3).toNat (σ 127 (104 + v4).toNat)) 127 (128 + v4).toNat))) 127 (104 + v4).toNat x20) 127 (128 + v4).toNat (1 - x32)) Q)))) : AWs mX11_exchanges 5 [(0, vR 125), (3, vI v3), (4, vI v4)] [] S σ Q := by
  refine r_iload_n dX11_exchanges_5 rfl ?_
  refine r_iload dX11_exchanges_6 rfl ?_
  refine r_icmp_gt (tgt := 112) dX11_exchanges_8 rfl (fun h => ?_) (fun h => ?_)
  · have k := k.1 h
    exact s_vret dX11_exchanges_112 rfl k
  · have k := k.2 h
    refine r_aload_n dX11_exchanges_11 rfl ?_
    refine r_getRv dX11_exchanges_12 fl_X11_17 rfl (k_125 hS) (f_125_6 hS) (by decide) ?_
    refine r_bipush dX11_exchanges_15 (by decide +kernel) ⟨by decide, by decide⟩ ?_
    refine r_iload_n dX11_exchanges_17 rfl ?_
    obtain ⟨h, k⟩ := k
    refine r_iadd dX11_exchanges_18 h ?_
    obtain ⟨⟨h0, h1⟩, k⟩ := k
    refine r_iald dX11_exchanges_19 (Or.inl (k_127 hS)) h0 h1 ?_
    refine r_gen (fun x20 hx20 => ?_)
    have k := k x20 hx20
    refine r_istore dX11_exchanges_20 (by decide) rfl rfl ?_
    refine r_aload_n dX11_exchanges_22 rfl ?_
    refine r_getRv dX11_exchanges_23 fl_X11_17 rfl (k_125 hS) (f_125_6 hS) (by decide) ?_
    refine r_sipush dX11_exchanges_26 (by decide +kernel) ⟨by decide, by decide⟩ ?_
    refine r_iload_n dX11_exchanges_29 rfl ?_
    obtain ⟨h, k⟩ := k
    refine r_iadd dX11_exchanges_30 h ?_
    obtain ⟨⟨h0, h1⟩, k⟩ := k
    refine r_iald dX11_exchanges_31 (Or.inl (k_127 hS)) h0 h1 ?_
    refine r_gen (fun x32 hx32 => ?_)
    have k := k x32 hx32
    refine r_istore dX11_exchanges_32 (by decide) rfl rfl ?_
    refine r_aload_n dX11_exchanges_34 rfl ?_
    refine r_getRv dX11_exchanges_35 fl_X11_17 rfl (k_125 hS) (f_125_6 hS) (by decide) ?_
    refine r_bipush dX11_exchanges_38 (by decide +kernel) ⟨by decide, by decide⟩ ?_
    refine r_iload_n dX11_exchanges_40 rfl ?_
    obtain ⟨h, k⟩ := k
    refine r_iadd dX11_exchanges_41 h ?_
    refine r_aload_n dX11_exchanges_42 rfl ?_
    refine r_getRv dX11_exchanges_43 fl_X11_17 rfl (k_125 hS) (f_125_6 hS) (by decide) ?_
    refine r_bipush dX11_exchanges_46 (by decide +kernel) ⟨by decide, by decide⟩ ?_
    refine r_iload dX11_exchanges_48 rfl ?_
    obtain ⟨h, k⟩ := k
    refine r_iadd dX11_exchanges_50 h ?_
    obtain ⟨⟨h0, h1⟩, k⟩ := k
    refine r_iald dX11_exchanges_51 (Or.inl (k_127 hS)) h0 h1 ?_
    obtain ⟨⟨h0, h1⟩, k⟩ := k
    refine r_iast dX11_exchanges_52 (k_127 hS) h0 h1 ?_
    refine r_aload_n dX11_exchanges_53 rfl ?_
    refine r_getRv dX11_exchanges_54 fl_X11_17 rfl (k_125 hS) (f_125_6 hS) (by decide) ?_
    refine r_sipush dX11_exchanges_57 (by decide +kernel) ⟨by decide, by decide⟩ ?_
    refine r_iload_n dX11_exchanges_60 rfl ?_
    obtain ⟨h, k⟩ := k
    refine r_iadd dX11_exchanges_61 h ?_
    refine r_iconst dX11_exchanges_62 ⟨by decide, by decide⟩ ?_
    refine r_aload_n dX11_exchanges_63 rfl ?_
    refine r_getRv dX11_exchanges_64 fl_X11_17 rfl (k_125 hS) (f_125_6 hS) (by decide) ?_
    refine r_sipush dX11_exchanges_67 (by decide +kernel) ⟨by decide, by decide⟩ ?_
    refine r_iload dX11_exchanges_70 rfl ?_
    obtain ⟨h, k⟩ := k
    refine r_iadd dX11_exchanges_72 h ?_
    obtain ⟨⟨h0, h1⟩, k⟩ := k
    refine r_iald dX11_exchanges_73 (Or.inl (k_127 hS)) h0 h1 ?_
    obtain ⟨h, k⟩ := k
    refine r_isub dX11_exchanges_74 h ?_
    obtain ⟨⟨h0, h1⟩, k⟩ := k
    refine r_iast dX11_exchanges_75 (k_127 hS) h0 h1 ?_
    refine r_aload_n dX11_exchanges_76 rfl ?_
    refine r_getRv dX11_exchanges_77 fl_X11_17 rfl (k_125 hS) (f_125_6 hS) (by decide) ?_
    refine r_bipush dX11_exchanges_80 (by decide +kernel) ⟨by decide, by decide⟩ ?_
    refine r_iload dX11_exchanges_82 rfl ?_
    obtain ⟨h, k⟩ := k
    refine r_iadd dX11_exchanges_84 h ?_
    refine r_iload dX11_exchanges_85 rfl ?_
    obtain ⟨⟨h0, h1⟩, k⟩ := k
    refine r_iast dX11_exchanges_87 (k_127 hS) h0 h1 ?_
    refine r_aload_n dX11_exchanges_88 rfl ?_
    refine r_getRv dX11_exchanges_89 fl_X11_17 rfl (k_125 hS) (f_125_6 hS) (by decide) ?_
    refine r_sipush dX11_exchanges_92 (by decide +kernel) ⟨by decide, by decide⟩ ?_
    refine r_iload dX11_exchanges_95 rfl ?_
    obtain ⟨h, k⟩ := k
    refine r_iadd dX11_exchanges_97 h ?_
    refine r_iconst dX11_exchanges_98 ⟨by decide, by decide⟩ ?_
    refine r_iload dX11_exchanges_99 rfl ?_
    obtain ⟨h, k⟩ := k
    refine r_isub dX11_exchanges_101 h ?_
    obtain ⟨⟨h0, h1⟩, k⟩ := k
    refine r_iast dX11_exchanges_102 (k_127 hS) h0 h1 ?_
    obtain ⟨h, k⟩ := k
    refine r_iinc dX11_exchanges_103 rfl (by decide) rfl rfl h ?_
    obtain ⟨h, k⟩ := k
    refine r_iinc dX11_exchanges_106 rfl (by decide) rfl rfl h ?_
    refine r_goto (tgt := 5) dX11_exchanges_109 rfl ?_
    refine r_loc [0, 1, 2] rfl ?_
    exact k
theorem e_X11_isBettered {S : ShT} {σ : StT} {Q : Int → StT → Prop} (hS : SHP S) (k : WPs mX11_leaps [vR 125] S σ (fun r1 s1 => AWs mX11_isBettered 7 [(0, vR 125), (1, vI r1), (2, vI 0)] [] S s1 Q)) : WPs mX11_isBettered [vR 125] S σ Q := by
  refine s_entry (by decide) (Nat.le_of_ble_eq_true rfl) rfl rfl ?_
  refine r_aload_n dX11_isBettered_0 rfl ?_
  refine s_callVv (z := mX11_leaps) [] dX11_isBettered_1 mv_X11_leaps lk_X11_361 rfl (by decide) (k_125 hS) (Nat.le_of_ble_eq_true rfl) (WPs.mono k (fun r1 s1 k => ?_))
  refine r_istore_n dX11_isBettered_4 (by decide) rfl rfl ?_
  refine r_iconst dX11_isBettered_5 ⟨by decide, by decide⟩ ?_
  refine r_istore_n dX11_isBettered_6 (by decide) rfl rfl ?_
  exact k
theorem t_X11_isBettered_7 {v1 v2 : Int} {S : ShT} {σ : StT} {Q : Int → StT → Prop} (hS : SHP S) (k : (σ 127 103 ≤ v2 → Q 0 σ) ∧ (¬ (σ 127 103 ≤ v2) → AWs mX11_isBettered 20 [(0, vR 125), (1, vI v1), (2, vI v2), (3, vI v2)] [] S σ Q)) : AWs mX11_isBettered 7 [(0, vR 125), (1, vI v1), (2, vI v2)] [] S σ Q := by
  refine r_iload_n dX11_isBettered_7 rfl ?_
  refine r_aload_n dX11_isBettered_8 rfl ?_
  refine r_getRv dX11_isBettered_9 fl_X11_17 rfl (k_125 hS) (f_125_6 hS) (by decide) ?_
  refine r_bipush dX11_isBettered_12 (by decide +kernel) ⟨by decide, by decide⟩ ?_
  refine r_iald dX11_isBettered_14 (Or.inl (k_127 hS)) (by decide) (by decide) ?_
  refine r_icmp_ge (tgt := 65) dX11_isBettered_15 rfl (fun h => ?_) (fun h => ?_)
  · have k := k.1 h
    refine r_iconst dX11_isBettered_65 ⟨by decide, by decide⟩ ?_
    exact s_zret dX11_isBettered_66 rfl (by decide) k
  · have k := k.2 h
    refine r_iload_n dX11_isBettered_18 rfl ?_
    refine r_istore_n dX11_isBettered_19 (by decide) rfl rfl ?_
    exact k
theorem t_X11_isBettered_20 {v1 v2 v3 : Int} {S : ShT} {σ : StT} {Q : Int → StT → Prop} (hS : SHP S) (k : (σ 127 103 ≤ v3 → inR (v2 + 1) ∧ AWs mX11_isBettered 7 [(0, vR 125), (1, vI v1), (2, vI (v2 + 1))] [] S σ Q) ∧ (¬ (σ 127 103 ≤ v3) → WPs mX11_exchanges [vR 125, vI v2, vI v3] S σ (fun r34 s34 => WPs mX11_leaps [vR 125] S s34 (fun r38 s38 => (v1 ≤ r38 → WPs mX11_exchanges [vR 125, vI v2, vI v3] S s38 (fun r50 s50 => inR (v3 + 1) ∧ AWs mX11_isBettered 20 [(0, vR 125), (1, vI v1), (2, vI v2), (3, vI (v3 + 1))] [] S s50 Q)) ∧ (¬ (v1 ≤ r38) → Q 1 s38))))) : AWs mX11_isBettered 20 [(0, vR 125), (1, vI v1), (2, vI v2), (3, vI v3)] [] S σ Q := by
  refine r_iload_n dX11_isBettered_20 rfl ?_
  refine r_aload_n dX11_isBettered_21 rfl ?_
  refine r_getRv dX11_isBettered_22 fl_X11_17 rfl (k_125 hS) (f_125_6 hS) (by decide) ?_
  refine r_bipush dX11_isBettered_25 (by decide +kernel) ⟨by decide, by decide⟩ ?_
  refine r_iald dX11_isBettered_27 (Or.inl (k_127 hS)) (by decide) (by decide) ?_
  refine r_icmp_ge (tgt := 59) dX11_isBettered_28 rfl (fun h => ?_) (fun h => ?_)
  · have k := k.1 h
    obtain ⟨h, k⟩ := k
    refine r_iinc dX11_isBettered_59 rfl (by decide) rfl rfl h ?_
    refine r_goto (tgt := 7) dX11_isBettered_62 rfl ?_
    refine r_loc [0, 1, 2] rfl ?_
    exact k
  · have k := k.2 h
    refine r_aload_n dX11_isBettered_31 rfl ?_
    refine r_iload_n dX11_isBettered_32 rfl ?_
    refine r_iload_n dX11_isBettered_33 rfl ?_
    refine s_callVv (z := mX11_exchanges) [vI v2, vI v3] dX11_isBettered_34 mv_X11_exchanges lk_X11_370 rfl (by decide) (k_125 hS) (Nat.le_of_ble_eq_true rfl) (WPs.mono k (fun r34 s34 k => ?_))
    refine r_aload_n dX11_isBettered_37 rfl ?_
    refine s_callVv (z := mX11_leaps) [] dX11_isBettered_38 mv_X11_leaps lk_X11_361 rfl (by decide) (k_125 hS) (Nat.le_of_ble_eq_true rfl) (WPs.mono k (fun r38 s38 k => ?_))
    refine r_iload_n dX11_isBettered_41 rfl ?_
    refine r_icmp_ge (tgt := 47) dX11_isBettered_42 rfl (fun h => ?_) (fun h => ?_)
    · have k := k.1 h
      refine r_aload_n dX11_isBettered_47 rfl ?_
      refine r_iload_n dX11_isBettered_48 rfl ?_
      refine r_iload_n dX11_isBettered_49 rfl ?_
      refine s_callVv (z := mX11_exchanges) [vI v2, vI v3] dX11_isBettered_50 mv_X11_exchanges lk_X11_370 rfl (by decide) (k_125 hS) (Nat.le_of_ble_eq_true rfl) (WPs.mono k (fun r50 s50 k => ?_))
      obtain ⟨h, k⟩ := k
      refine r_iinc dX11_isBettered_53 rfl (by decide) rfl rfl h ?_
      refine r_goto (tgt := 20) dX11_isBettered_56 rfl ?_
      exact k
    · have k := k.2 h
      refine r_iconst dX11_isBettered_45 ⟨by decide, by decide⟩ ?_
      exact s_zret dX11_isBettered_46 rfl (by decide) k
theorem e_X11_betters {S : ShT} {σ : StT} {Q : Int → StT → Prop} (hS : SHP S) (k : AWs mX11_betters 2 [(0, vR 125), (1, vI 0)] [] S σ Q) : WPs mX11_betters [vR 125] S σ Q := by
  refine s_entry (by decide) (Nat.le_of_ble_eq_true rfl) rfl rfl ?_
  refine r_iconst dX11_betters_0 ⟨by decide, by decide⟩ ?_
  refine r_istore_n dX11_betters_1 (by decide) rfl rfl ?_
  exact k
theorem t_X11_betters_2 {v1 : Int} {S : ShT} {σ : StT} {Q : Int → StT → Prop} (hS : SHP S) (k : (200 ≤ v1 → Q v1 σ) ∧ (¬ (200 ≤ v1) → WPs mX11_isBettered [vR 125] S σ (fun r10 s10 => (r10 = 0 → Q v1 s10) ∧ (¬ (r10 = 0) → inR (v1 + 1) ∧ AWs mX11_betters 2 [(0, vR 125), (1, vI (v1 + 1))] [] S s10 Q)))) : AWs mX11_betters 2 [(0, vR 125), (1, vI v1)] [] S σ Q := by
  refine r_iload_n dX11_betters_2 rfl ?_
  refine r_sipush dX11_betters_3 (by decide +kernel) ⟨by decide, by decide⟩ ?_
  refine r_icmp_ge (tgt := 22) dX11_betters_6 rfl (fun h => ?_) (fun h => ?_)
  · have k := k.1 h
    refine r_iload_n dX11_betters_22 rfl ?_
    exact s_iret dX11_betters_23 rfl k
  · have k := k.2 h
    refine r_aload_n dX11_betters_9 rfl ?_
    refine s_callVv (z := mX11_isBettered) [] dX11_betters_10 mv_X11_isBettered lk_X11_374 rfl (by decide) (k_125 hS) (Nat.le_of_ble_eq_true rfl) (WPs.mono k (fun r10 s10 k => ?_))
    refine r_if_eq (tgt := 22) dX11_betters_13 rfl (fun h => ?_) (fun h => ?_)
    · have k := k.1 h
      refine r_iload_n dX11_betters_22 rfl ?_
      exact s_iret dX11_betters_23 rfl k
    · have k := k.2 h
      obtain ⟨h, k⟩ := k
      refine r_iinc dX11_betters_16 rfl (by decide) rfl rfl h ?_
      refine r_goto (tgt := 2) dX11_betters_19 rfl ?_
      exact k
theorem e_X11_better {v1 : Int} {S : ShT} {σ : StT} {Q : Int → StT → Prop} (hS : SHP S) (k : WPs mX11_in [vI v1, vI 0, vI 1] S σ (fun r4 s4 => WPs mX11_isAsked [vR 125, vI r4] S s4 (fun r7 s7 => (¬ r7 = 0 → WPs mX11_laysAside [vR 125] S s7 (fun r16 s16 => WPs mX11_betters [vR 125] S s16 (fun r20 s20 => WPs mX11_leaps [vR 125] S s20 (fun r25 s25 => WPs mX11_takesBack [vR 125] S s25 (fun r30 s30 => (¬ v1 = 0 → Q r20 s30) ∧ (v1 = 0 → Q r25 s30)))))) ∧ (r7 = 0 → Q (-1) s7)))) : WPs mX11_better [vR 125, vI v1] S σ Q := by
  refine s_entry (by decide) (Nat.le_of_ble_eq_true rfl) rfl rfl ?_
  refine r_aload_n dX11_better_0 rfl ?_
  refine r_iload_n dX11_better_1 rfl ?_
  refine r_iconst dX11_better_2 ⟨by decide, by decide⟩ ?_
  refine r_iconst dX11_better_3 ⟨by decide, by decide⟩ ?_
  refine s_callS (z := mX11_in) [vI v1, vI 0, vI 1] dX11_better_4 ms_X11_in lk_X11_128 rfl (by decide) (Nat.le_of_ble_eq_true rfl) (WPs.mono k (fun r4 s4 k => ?_))
  refine s_callVv (z := mX11_isAsked) [vI r4] dX11_better_7 mv_X11_isAsked lk_X11_318 rfl (by decide) (k_125 hS) (Nat.le_of_ble_eq_true rfl) (WPs.mono k (fun r7 s7 k => ?_))
  refine r_if_ne (tgt := 15) dX11_better_10 rfl (fun h => ?_) (fun h => ?_)
  · have k := k.1 h
    refine r_aload_n dX11_better_15 rfl ?_
    refine s_callVv (z := mX11_laysAside) [] dX11_better_16 mv_X11_laysAside lk_X11_364 rfl (by decide) (k_125 hS) (Nat.le_of_ble_eq_true rfl) (WPs.mono k (fun r16 s16 k => ?_))
    refine r_aload_n dX11_better_19 rfl ?_
    refine s_callVv (z := mX11_betters) [] dX11_better_20 mv_X11_betters lk_X11_377 rfl (by decide) (k_125 hS) (Nat.le_of_ble_eq_true rfl) (WPs.mono k (fun r20 s20 k => ?_))
    refine r_istore_n dX11_better_23 (by decide) rfl rfl ?_
    refine r_aload_n dX11_better_24 rfl ?_
    refine s_callVv (z := mX11_leaps) [] dX11_better_25 mv_X11_leaps lk_X11_361 rfl (by decide) (k_125 hS) (Nat.le_of_ble_eq_true rfl) (WPs.mono k (fun r25 s25 k => ?_))
    refine r_istore_n dX11_better_28 (by decide) rfl rfl ?_
    refine r_aload_n dX11_better_29 rfl ?_
    refine s_callVv (z := mX11_takesBack) [] dX11_better_30 mv_X11_takesBack lk_X11_367 rfl (by decide) (k_125 hS) (Nat.le_of_ble_eq_true rfl) (WPs.mono k (fun r30 s30 k => ?_))
    refine r_iload_n dX11_better_33 rfl ?_
    refine r_if_ne (tgt := 41) dX11_better_34 rfl (fun h => ?_) (fun h => ?_)
    · have k := k.1 h
      refine r_iload_n dX11_better_41 rfl ?_
      exact s_iret dX11_better_42 rfl k
    · have k := k.2 h
      refine r_iload_n dX11_better_37 rfl ?_
      refine r_goto (tgt := 42) dX11_better_38 rfl ?_
      exact s_iret dX11_better_42 rfl k
  · have k := k.2 h
    refine r_iconst dX11_better_13 ⟨by decide, by decide⟩ ?_
    exact s_iret dX11_better_14 rfl k
theorem e_X11_isRun {v1 v2 : Int} {S : ShT} {σ : StT} {Q : Int → StT → Prop} (hS : SHP S) (k : (σ 125 11 = 0 → Q 0 σ) ∧ (¬ (σ 125 11 = 0) → inR ((σ 127 103) - 1) ∧ WPs mX11_in [vI v1, vI 0, vI ((σ 127 103) - 1)] S σ (fun r18 s18 => (r18 = 0 → Q 0 s18) ∧ (¬ (r18 = 0) → inR ((s18 127 103) - 1) ∧ WPs mX11_in [vI v2, vI 0, vI ((s18 127 103) - 1)] S s18 (fun r35 s35 => (r35 = 0 → Q 0 s35) ∧ (¬ (r35 = 0) → Q 1 s35)))))) : WPs mX11_isRun [vR 125, vI v1, vI v2] S σ Q := by
  refine s_entry (by decide) (Nat.le_of_ble_eq_true rfl) rfl rfl ?_
  refine r_aload_n dX11_isRun_0 rfl ?_
  refine r_getIv dX11_isRun_1 fl_X11_223 rfl (k_125 hS) ?_
  refine r_if_eq (tgt := 45) dX11_isRun_4 rfl (fun h => ?_) (fun h => ?_)
  · have k := k.1 h
    refine r_iconst dX11_isRun_45 ⟨by decide, by decide⟩ ?_
    exact s_zret dX11_isRun_46 rfl (by decide) k
  · have k := k.2 h
    refine r_iload_n dX11_isRun_7 rfl ?_
    refine r_iconst dX11_isRun_8 ⟨by decide, by decide⟩ ?_
    refine r_aload_n dX11_isRun_9 rfl ?_
    refine r_getRv dX11_isRun_10 fl_X11_17 rfl (k_125 hS) (f_125_6 hS) (by decide) ?_
    refine r_bipush dX11_isRun_13 (by decide +kernel) ⟨by decide, by decide⟩ ?_
    refine r_iald dX11_isRun_15 (Or.inl (k_127 hS)) (by decide) (by decide) ?_
    refine r_iconst dX11_isRun_16 ⟨by decide, by decide⟩ ?_
    obtain ⟨h, k⟩ := k
    refine r_isub dX11_isRun_17 h ?_
    refine s_callS (z := mX11_in) [vI v1, vI 0, vI ((σ 127 103) - 1)] dX11_isRun_18 ms_X11_in lk_X11_128 rfl (by decide) (Nat.le_of_ble_eq_true rfl) (WPs.mono k (fun r18 s18 k => ?_))
    refine r_if_eq (tgt := 45) dX11_isRun_21 rfl (fun h => ?_) (fun h => ?_)
    · have k := k.1 h
      refine r_iconst dX11_isRun_45 ⟨by decide, by decide⟩ ?_
      exact s_zret dX11_isRun_46 rfl (by decide) k
    · have k := k.2 h
      refine r_iload_n dX11_isRun_24 rfl ?_
      refine r_iconst dX11_isRun_25 ⟨by decide, by decide⟩ ?_
      refine r_aload_n dX11_isRun_26 rfl ?_
      refine r_getRv dX11_isRun_27 fl_X11_17 rfl (k_125 hS) (f_125_6 hS) (by decide) ?_
      refine r_bipush dX11_isRun_30 (by decide +kernel) ⟨by decide, by decide⟩ ?_
      refine r_iald dX11_isRun_32 (Or.inl (k_127 hS)) (by decide) (by decide) ?_
      refine r_iconst dX11_isRun_33 ⟨by decide, by decide⟩ ?_
      obtain ⟨h, k⟩ := k
      refine r_isub dX11_isRun_34 h ?_
      refine s_callS (z := mX11_in) [vI v2, vI 0, vI ((s18 127 103) - 1)] dX11_isRun_35 ms_X11_in lk_X11_128 rfl (by decide) (Nat.le_of_ble_eq_true rfl) (WPs.mono k (fun r35 s35 k => ?_))
      refine r_if_eq (tgt := 45) dX11_isRun_38 rfl (fun h => ?_) (fun h => ?_)
      · have k := k.1 h
        refine r_iconst dX11_isRun_45 ⟨by decide, by decide⟩ ?_
        exact s_zret dX11_isRun_46 rfl (by decide) k
      · have k := k.2 h
        refine r_iconst dX11_isRun_41 ⟨by decide, by decide⟩ ?_
        refine r_goto (tgt := 46) dX11_isRun_42 rfl ?_
        exact s_zret dX11_isRun_46 rfl (by decide) k
theorem e_X11_exchanged {v1 v2 : Int} {S : ShT} {σ : StT} {Q : Int → StT → Prop} (hS : SHP S) (k : WPs mX11_isRun [vR 125, vI v1, vI v2] S σ (fun r4 s4 => (r4 = 0 → WPs mX11_isAsked [vR 125, vI 0] S s4 (fun r20 s20 => (¬ r20 = 0 → WPs mX11_leaps [vR 125] S s20 (fun r31 s31 => WPs mX11_exchanges [vR 125, vI v1, vI v2] S s31 (fun r38 s38 => WPs mX11_leaps [vR 125] S s38 (fun r42 s42 => inR (r42 - r31) ∧ WPs mX11_exchanges [vR 125, vI v1, vI v2] S s42 (fun r52 s52 => Q (r42 - r31) s52))))) ∧ (r20 = 0 → Q (-2147483648) s20))) ∧ (¬ (r4 = 0) → (v2 < v1 → WPs mX11_isAsked [vR 125, vI 0] S s4 (fun r20 s20 => (¬ r20 = 0 → WPs mX11_leaps [vR 125] S s20 (fun r31 s31 => WPs mX11_exchanges [vR 125, vI v1, vI v2] S s31 (fun r38 s38 => WPs mX11_leaps [vR 125] S s38 (fun r42 s42 => inR (r42 - r31) ∧ WPs mX11_exchanges [vR 125, vI v1, vI v2] S s42 (fun r52 s52 => Q (r42 - r31) s52))))) ∧ (r20 = 0 → Q (-2147483648) s20))) ∧ (¬ (v2 < v1) → WPs mX11_isAsked [vR 125, vI 1] S s4 (fun r20 s20 => (¬ r20 = 0 → WPs mX11_leaps [vR 125] S s20 (fun r31 s31 => WPs mX11_exchanges [vR 125, vI v1, vI v2] S s31 (fun r38 s38 => WPs mX11_leaps [vR 125] S s38 (fun r42 s42 => inR (r42 - r31) ∧ WPs mX11_exchanges [vR 125, vI v1, vI v2] S s42 (fun r52 s52 => Q (r42 - r31) s52))))) ∧ (r20 = 0 → Q (-2147483648) s20)))))) : WPs mX11_exchanged [vR 125, vI v1, vI v2] S σ Q := by
  refine s_entry (by decide) (Nat.le_of_ble_eq_true rfl) rfl rfl ?_
  refine r_aload_n dX11_exchanged_0 rfl ?_
  refine r_aload_n dX11_exchanged_1 rfl ?_
  refine r_iload_n dX11_exchanged_2 rfl ?_
  refine r_iload_n dX11_exchanged_3 rfl ?_
  refine s_callVv (z := mX11_isRun) [vI v1, vI v2] dX11_exchanged_4 mv_X11_isRun lk_X11_380 rfl (by decide) (k_125 hS) (Nat.le_of_ble_eq_true rfl) (WPs.mono k (fun r4 s4 k => ?_))
  refine r_if_eq (tgt := 19) dX11_exchanged_7 rfl (fun h => ?_) (fun h => ?_)
  · have k := k.1 h
    refine r_iconst dX11_exchanged_19 ⟨by decide, by decide⟩ ?_
    refine s_callVv (z := mX11_isAsked) [vI 0] dX11_exchanged_20 mv_X11_isAsked lk_X11_318 rfl (by decide) (k_125 hS) (Nat.le_of_ble_eq_true rfl) (WPs.mono k (fun r20 s20 k => ?_))
    refine r_if_ne (tgt := 30) dX11_exchanged_23 rfl (fun h => ?_) (fun h => ?_)
    · have k := k.1 h
      refine r_aload_n dX11_exchanged_30 rfl ?_
      refine s_callVv (z := mX11_leaps) [] dX11_exchanged_31 mv_X11_leaps lk_X11_361 rfl (by decide) (k_125 hS) (Nat.le_of_ble_eq_true rfl) (WPs.mono k (fun r31 s31 k => ?_))
      refine r_istore_n dX11_exchanged_34 (by decide) rfl rfl ?_
      refine r_aload_n dX11_exchanged_35 rfl ?_
      refine r_iload_n dX11_exchanged_36 rfl ?_
      refine r_iload_n dX11_exchanged_37 rfl ?_
      refine s_callVv (z := mX11_exchanges) [vI v1, vI v2] dX11_exchanged_38 mv_X11_exchanges lk_X11_370 rfl (by decide) (k_125 hS) (Nat.le_of_ble_eq_true rfl) (WPs.mono k (fun r38 s38 k => ?_))
      refine r_aload_n dX11_exchanged_41 rfl ?_
      refine s_callVv (z := mX11_leaps) [] dX11_exchanged_42 mv_X11_leaps lk_X11_361 rfl (by decide) (k_125 hS) (Nat.le_of_ble_eq_true rfl) (WPs.mono k (fun r42 s42 k => ?_))
      refine r_iload_n dX11_exchanged_45 rfl ?_
      obtain ⟨h, k⟩ := k
      refine r_isub dX11_exchanged_46 h ?_
      refine r_istore dX11_exchanged_47 (by decide) rfl rfl ?_
      refine r_aload_n dX11_exchanged_49 rfl ?_
      refine r_iload_n dX11_exchanged_50 rfl ?_
      refine r_iload_n dX11_exchanged_51 rfl ?_
      refine s_callVv (z := mX11_exchanges) [vI v1, vI v2] dX11_exchanged_52 mv_X11_exchanges lk_X11_370 rfl (by decide) (k_125 hS) (Nat.le_of_ble_eq_true rfl) (WPs.mono k (fun r52 s52 k => ?_))
      refine r_iload dX11_exchanged_55 rfl ?_
      exact s_iret dX11_exchanged_57 rfl k
    · have k := k.2 h
      refine r_ldcw dX11_exchanged_26 ct_X11_386 ⟨by decide, by decide⟩ ?_
      exact s_iret dX11_exchanged_29 rfl k
  · have k := k.2 h
    refine r_iload_n dX11_exchanged_10 rfl ?_
    refine r_iload_n dX11_exchanged_11 rfl ?_
    refine r_icmp_gt (tgt := 19) dX11_exchanged_12 rfl (fun h => ?_) (fun h => ?_)
    · have k := k.1 h
      refine r_iconst dX11_exchanged_19 ⟨by decide, by decide⟩ ?_
      refine s_callVv (z := mX11_isAsked) [vI 0] dX11_exchanged_20 mv_X11_isAsked lk_X11_318 rfl (by decide) (k_125 hS) (Nat.le_of_ble_eq_true rfl) (WPs.mono k (fun r20 s20 k => ?_))
      refine r_if_ne (tgt := 30) dX11_exchanged_23 rfl (fun h => ?_) (fun h => ?_)
      · have k := k.1 h
        refine r_aload_n dX11_exchanged_30 rfl ?_
        refine s_callVv (z := mX11_leaps) [] dX11_exchanged_31 mv_X11_leaps lk_X11_361 rfl (by decide) (k_125 hS) (Nat.le_of_ble_eq_true rfl) (WPs.mono k (fun r31 s31 k => ?_))
        refine r_istore_n dX11_exchanged_34 (by decide) rfl rfl ?_
        refine r_aload_n dX11_exchanged_35 rfl ?_
        refine r_iload_n dX11_exchanged_36 rfl ?_
        refine r_iload_n dX11_exchanged_37 rfl ?_
        refine s_callVv (z := mX11_exchanges) [vI v1, vI v2] dX11_exchanged_38 mv_X11_exchanges lk_X11_370 rfl (by decide) (k_125 hS) (Nat.le_of_ble_eq_true rfl) (WPs.mono k (fun r38 s38 k => ?_))
        refine r_aload_n dX11_exchanged_41 rfl ?_
        refine s_callVv (z := mX11_leaps) [] dX11_exchanged_42 mv_X11_leaps lk_X11_361 rfl (by decide) (k_125 hS) (Nat.le_of_ble_eq_true rfl) (WPs.mono k (fun r42 s42 k => ?_))
        refine r_iload_n dX11_exchanged_45 rfl ?_
        obtain ⟨h, k⟩ := k
        refine r_isub dX11_exchanged_46 h ?_
        refine r_istore dX11_exchanged_47 (by decide) rfl rfl ?_
        refine r_aload_n dX11_exchanged_49 rfl ?_
        refine r_iload_n dX11_exchanged_50 rfl ?_
        refine r_iload_n dX11_exchanged_51 rfl ?_
        refine s_callVv (z := mX11_exchanges) [vI v1, vI v2] dX11_exchanged_52 mv_X11_exchanges lk_X11_370 rfl (by decide) (k_125 hS) (Nat.le_of_ble_eq_true rfl) (WPs.mono k (fun r52 s52 k => ?_))
        refine r_iload dX11_exchanged_55 rfl ?_
        exact s_iret dX11_exchanged_57 rfl k
      · have k := k.2 h
        refine r_ldcw dX11_exchanged_26 ct_X11_386 ⟨by decide, by decide⟩ ?_
        exact s_iret dX11_exchanged_29 rfl k
    · have k := k.2 h
      refine r_iconst dX11_exchanged_15 ⟨by decide, by decide⟩ ?_
      refine r_goto (tgt := 20) dX11_exchanged_16 rfl ?_
      refine s_callVv (z := mX11_isAsked) [vI 1] dX11_exchanged_20 mv_X11_isAsked lk_X11_318 rfl (by decide) (k_125 hS) (Nat.le_of_ble_eq_true rfl) (WPs.mono k (fun r20 s20 k => ?_))
      refine r_if_ne (tgt := 30) dX11_exchanged_23 rfl (fun h => ?_) (fun h => ?_)
      · have k := k.1 h
        refine r_aload_n dX11_exchanged_30 rfl ?_
        refine s_callVv (z := mX11_leaps) [] dX11_exchanged_31 mv_X11_leaps lk_X11_361 rfl (by decide) (k_125 hS) (Nat.le_of_ble_eq_true rfl) (WPs.mono k (fun r31 s31 k => ?_))
        refine r_istore_n dX11_exchanged_34 (by decide) rfl rfl ?_
        refine r_aload_n dX11_exchanged_35 rfl ?_
        refine r_iload_n dX11_exchanged_36 rfl ?_
        refine r_iload_n dX11_exchanged_37 rfl ?_
        refine s_callVv (z := mX11_exchanges) [vI v1, vI v2] dX11_exchanged_38 mv_X11_exchanges lk_X11_370 rfl (by decide) (k_125 hS) (Nat.le_of_ble_eq_true rfl) (WPs.mono k (fun r38 s38 k => ?_))
        refine r_aload_n dX11_exchanged_41 rfl ?_
        refine s_callVv (z := mX11_leaps) [] dX11_exchanged_42 mv_X11_leaps lk_X11_361 rfl (by decide) (k_125 hS) (Nat.le_of_ble_eq_true rfl) (WPs.mono k (fun r42 s42 k => ?_))
        refine r_iload_n dX11_exchanged_45 rfl ?_
        obtain ⟨h, k⟩ := k
        refine r_isub dX11_exchanged_46 h ?_
        refine r_istore dX11_exchanged_47 (by decide) rfl rfl ?_
        refine r_aload_n dX11_exchanged_49 rfl ?_
        refine r_iload_n dX11_exchanged_50 rfl ?_
        refine r_iload_n dX11_exchanged_51 rfl ?_
        refine s_callVv (z := mX11_exchanges) [vI v1, vI v2] dX11_exchanged_52 mv_X11_exchanges lk_X11_370 rfl (by decide) (k_125 hS) (Nat.le_of_ble_eq_true rfl) (WPs.mono k (fun r52 s52 k => ?_))
        refine r_iload dX11_exchanged_55 rfl ?_
        exact s_iret dX11_exchanged_57 rfl k
      · have k := k.2 h
        refine r_ldcw dX11_exchanged_26 ct_X11_386 ⟨by decide, by decide⟩ ?_
        exact s_iret dX11_exchanged_29 rfl k
theorem e_X11_branch {v1 v2 : Int} {S : ShT} {σ : StT} {Q : Int → StT → Prop} (hS : SHP S) (k : (¬ v2 = σ 125 50 → (0 ≤ v1 ∧ v1 < 24) ∧ ((0 ≤ v2 ∧ v2 < 24) ∧ WPs mX11_far [vR 125, vI (σ 152 v1.toNat), vI (σ 152 v2.toNat)] S σ (fun r57 s57 => (0 ≤ v1 ∧ v1 < 24) ∧ ((0 ≤ v2 ∧ v2 < 24) ∧ WPs mX11_far [vR 125, vI (s57 152 v1.toNat), vI (s57 153 v2.toNat)] S s57 (fun r74 s74 => (0 ≤ v1 ∧ v1 < 24) ∧ ((0 ≤ v2 ∧ v2 < 24) ∧ WPs mX11_far [vR 125, vI (s74 153 v1.toNat), vI (s74 152 v2.toNat)] S s74 (fun r92 s92 => (0 ≤ v1 ∧ v1 < 24) ∧ ((0 ≤ v2 ∧ v2 < 24) ∧ WPs mX11_far [vR 125, vI (s92 153 v1.toNat), vI (s92 153 v2.toNat)] S s92 (fun r110 s110 => (r57 ≤ r74 → (r92 ≤ r110 → (r57 ≤ r92 → Q r57 s110) ∧ (¬ (r57 ≤ r92) → Q r92 s110)) ∧ (¬ (r92 ≤ r110) → (r57 ≤ r110 → Q r57 s110) ∧ (¬ (r57 ≤ r110) → Q r110 s110))) ∧ (¬ (r57 ≤ r74) → (r92 ≤ r110 → (r74 ≤ r92 → Q r74 s110) ∧ (¬ (r74 ≤ r92) → Q r92 s110)) ∧ (¬ (r92 ≤ r110) → (r74 ≤ r110 → Q r74 s110) ∧ (¬ (r74 ≤ r110) → Q r110 s110)))))))))))) ∧ (v2 = σ 125 50 → (0 ≤ v1 ∧ v1 < 24) ∧ WPs mX11_fromHome [vR 125, vI (σ 152 v1.toNat)] S σ (fun r15 s15 => (0 ≤ v1 ∧ v1 < 24) ∧ WPs mX11_fromHome [vR 125, vI (s15 153 v1.toNat)] S s15 (fun r26 s26 => (r26 ≤ r15 → Q r26 s26) ∧ (¬ (r26 ≤ r15) → Q r15 s26))))) : WPs mX11_branch [vR 125, vI v1, vI v2] S σ Q := by
  refine s_entry (by decide) (Nat.le_of_ble_eq_true rfl) rfl rfl ?_
  refine r_iload_n dX11_branch_0 rfl ?_
  refine r_aload_n dX11_branch_1 rfl ?_
  refine r_getIv dX11_branch_2 fl_X11_296 rfl (k_125 hS) ?_
  refine r_icmp_ne (tgt := 44) dX11_branch_5 rfl (fun h => ?_) (fun h => ?_)
  · have k := k.1 h
    refine r_aload_n dX11_branch_44 rfl ?_
    refine r_aload_n dX11_branch_45 rfl ?_
    refine r_getRv dX11_branch_46 fl_X11_93 rfl (k_125 hS) (f_125_48 hS) (by decide) ?_
    refine r_iload_n dX11_branch_49 rfl ?_
    obtain ⟨⟨h0, h1⟩, k⟩ := k
    refine r_iald dX11_branch_50 (Or.inl (k_152 hS)) h0 h1 ?_
    refine r_aload_n dX11_branch_51 rfl ?_
    refine r_getRv dX11_branch_52 fl_X11_93 rfl (k_125 hS) (f_125_48 hS) (by decide) ?_
    refine r_iload_n dX11_branch_55 rfl ?_
    obtain ⟨⟨h0, h1⟩, k⟩ := k
    refine r_iald dX11_branch_56 (Or.inl (k_152 hS)) h0 h1 ?_
    refine s_callVv (z := mX11_far) [vI (σ 152 v1.toNat), vI (σ 152 v2.toNat)] dX11_branch_57 mv_X11_far lk_X11_277 rfl (by decide) (k_125 hS) (Nat.le_of_ble_eq_true rfl) (WPs.mono k (fun r57 s57 k => ?_))
    refine r_istore_n dX11_branch_60 (by decide) rfl rfl ?_
    refine r_aload_n dX11_branch_61 rfl ?_
    refine r_aload_n dX11_branch_62 rfl ?_
    refine r_getRv dX11_branch_63 fl_X11_93 rfl (k_125 hS) (f_125_48 hS) (by decide) ?_
    refine r_iload_n dX11_branch_66 rfl ?_
    obtain ⟨⟨h0, h1⟩, k⟩ := k
    refine r_iald dX11_branch_67 (Or.inl (k_152 hS)) h0 h1 ?_
    refine r_aload_n dX11_branch_68 rfl ?_
    refine r_getRv dX11_branch_69 fl_X11_96 rfl (k_125 hS) (f_125_49 hS) (by decide) ?_
    refine r_iload_n dX11_branch_72 rfl ?_
    obtain ⟨⟨h0, h1⟩, k⟩ := k
    refine r_iald dX11_branch_73 (Or.inl (k_153 hS)) h0 h1 ?_
    refine s_callVv (z := mX11_far) [vI (s57 152 v1.toNat), vI (s57 153 v2.toNat)] dX11_branch_74 mv_X11_far lk_X11_277 rfl (by decide) (k_125 hS) (Nat.le_of_ble_eq_true rfl) (WPs.mono k (fun r74 s74 k => ?_))
    refine r_istore dX11_branch_77 (by decide) rfl rfl ?_
    refine r_aload_n dX11_branch_79 rfl ?_
    refine r_aload_n dX11_branch_80 rfl ?_
    refine r_getRv dX11_branch_81 fl_X11_96 rfl (k_125 hS) (f_125_49 hS) (by decide) ?_
    refine r_iload_n dX11_branch_84 rfl ?_
    obtain ⟨⟨h0, h1⟩, k⟩ := k
    refine r_iald dX11_branch_85 (Or.inl (k_153 hS)) h0 h1 ?_
    refine r_aload_n dX11_branch_86 rfl ?_
    refine r_getRv dX11_branch_87 fl_X11_93 rfl (k_125 hS) (f_125_48 hS) (by decide) ?_
    refine r_iload_n dX11_branch_90 rfl ?_
    obtain ⟨⟨h0, h1⟩, k⟩ := k
    refine r_iald dX11_branch_91 (Or.inl (k_152 hS)) h0 h1 ?_
    refine s_callVv (z := mX11_far) [vI (s74 153 v1.toNat), vI (s74 152 v2.toNat)] dX11_branch_92 mv_X11_far lk_X11_277 rfl (by decide) (k_125 hS) (Nat.le_of_ble_eq_true rfl) (WPs.mono k (fun r92 s92 k => ?_))
    refine r_istore dX11_branch_95 (by decide) rfl rfl ?_
    refine r_aload_n dX11_branch_97 rfl ?_
    refine r_aload_n dX11_branch_98 rfl ?_
    refine r_getRv dX11_branch_99 fl_X11_96 rfl (k_125 hS) (f_125_49 hS) (by decide) ?_
    refine r_iload_n dX11_branch_102 rfl ?_
    obtain ⟨⟨h0, h1⟩, k⟩ := k
    refine r_iald dX11_branch_103 (Or.inl (k_153 hS)) h0 h1 ?_
    refine r_aload_n dX11_branch_104 rfl ?_
    refine r_getRv dX11_branch_105 fl_X11_96 rfl (k_125 hS) (f_125_49 hS) (by decide) ?_
    refine r_iload_n dX11_branch_108 rfl ?_
    obtain ⟨⟨h0, h1⟩, k⟩ := k
    refine r_iald dX11_branch_109 (Or.inl (k_153 hS)) h0 h1 ?_
    refine s_callVv (z := mX11_far) [vI (s92 153 v1.toNat), vI (s92 153 v2.toNat)] dX11_branch_110 mv_X11_far lk_X11_277 rfl (by decide) (k_125 hS) (Nat.le_of_ble_eq_true rfl) (WPs.mono k (fun r110 s110 k => ?_))
    refine r_istore dX11_branch_113 (by decide) rfl rfl ?_
    refine r_iload dX11_branch_115 rfl ?_
    refine r_iload_n dX11_branch_117 rfl ?_
    refine r_icmp_ge (tgt := 126) dX11_branch_118 rfl (fun h => ?_) (fun h => ?_)
    · have k := k.1 h
      refine r_iload_n dX11_branch_126 rfl ?_
      refine r_istore_n dX11_branch_127 (by decide) rfl rfl ?_
      refine r_iload dX11_branch_128 rfl ?_
      refine r_iload dX11_branch_130 rfl ?_
      refine r_icmp_ge (tgt := 140) dX11_branch_132 rfl (fun h => ?_) (fun h => ?_)
      · have k := k.1 h
        refine r_iload dX11_branch_140 rfl ?_
        refine r_istore dX11_branch_142 (by decide) rfl rfl ?_
        refine r_iload dX11_branch_144 rfl ?_
        refine r_iload_n dX11_branch_146 rfl ?_
        refine r_icmp_ge (tgt := 155) dX11_branch_147 rfl (fun h => ?_) (fun h => ?_)
        · have k := k.1 h
          refine r_iload_n dX11_branch_155 rfl ?_
          exact s_iret dX11_branch_156 rfl k
        · have k := k.2 h
          refine r_iload dX11_branch_150 rfl ?_
          refine r_goto (tgt := 156) dX11_branch_152 rfl ?_
          exact s_iret dX11_branch_156 rfl k
      · have k := k.2 h
        refine r_iload dX11_branch_135 rfl ?_
        refine r_goto (tgt := 142) dX11_branch_137 rfl ?_
        refine r_istore dX11_branch_142 (by decide) rfl rfl ?_
        refine r_iload dX11_branch_144 rfl ?_
        refine r_iload_n dX11_branch_146 rfl ?_
        refine r_icmp_ge (tgt := 155) dX11_branch_147 rfl (fun h => ?_) (fun h => ?_)
        · have k := k.1 h
          refine r_iload_n dX11_branch_155 rfl ?_
          exact s_iret dX11_branch_156 rfl k
        · have k := k.2 h
          refine r_iload dX11_branch_150 rfl ?_
          refine r_goto (tgt := 156) dX11_branch_152 rfl ?_
          exact s_iret dX11_branch_156 rfl k
    · have k := k.2 h
      refine r_iload dX11_branch_121 rfl ?_
      refine r_goto (tgt := 127) dX11_branch_123 rfl ?_
      refine r_istore_n dX11_branch_127 (by decide) rfl rfl ?_
      refine r_iload dX11_branch_128 rfl ?_
      refine r_iload dX11_branch_130 rfl ?_
      refine r_icmp_ge (tgt := 140) dX11_branch_132 rfl (fun h => ?_) (fun h => ?_)
      · have k := k.1 h
        refine r_iload dX11_branch_140 rfl ?_
        refine r_istore dX11_branch_142 (by decide) rfl rfl ?_
        refine r_iload dX11_branch_144 rfl ?_
        refine r_iload_n dX11_branch_146 rfl ?_
        refine r_icmp_ge (tgt := 155) dX11_branch_147 rfl (fun h => ?_) (fun h => ?_)
        · have k := k.1 h
          refine r_iload_n dX11_branch_155 rfl ?_
          exact s_iret dX11_branch_156 rfl k
        · have k := k.2 h
          refine r_iload dX11_branch_150 rfl ?_
          refine r_goto (tgt := 156) dX11_branch_152 rfl ?_
          exact s_iret dX11_branch_156 rfl k
      · have k := k.2 h
        refine r_iload dX11_branch_135 rfl ?_
        refine r_goto (tgt := 142) dX11_branch_137 rfl ?_
        refine r_istore dX11_branch_142 (by decide) rfl rfl ?_
        refine r_iload dX11_branch_144 rfl ?_
        refine r_iload_n dX11_branch_146 rfl ?_
        refine r_icmp_ge (tgt := 155) dX11_branch_147 rfl (fun h => ?_) (fun h => ?_)
        · have k := k.1 h
          refine r_iload_n dX11_branch_155 rfl ?_
          exact s_iret dX11_branch_156 rfl k
        · have k := k.2 h
          refine r_iload dX11_branch_150 rfl ?_
          refine r_goto (tgt := 156) dX11_branch_152 rfl ?_
          exact s_iret dX11_branch_156 rfl k
  · have k := k.2 h
    refine r_aload_n dX11_branch_8 rfl ?_
    refine r_aload_n dX11_branch_9 rfl ?_
    refine r_getRv dX11_branch_10 fl_X11_93 rfl (k_125 hS) (f_125_48 hS) (by decide) ?_
    refine r_iload_n dX11_branch_13 rfl ?_
    obtain ⟨⟨h0, h1⟩, k⟩ := k
    refine r_iald dX11_branch_14 (Or.inl (k_152 hS)) h0 h1 ?_
    refine s_callVv (z := mX11_fromHome) [vI (σ 152 v1.toNat)] dX11_branch_15 mv_X11_fromHome lk_X11_346 rfl (by decide) (k_125 hS) (Nat.le_of_ble_eq_true rfl) (WPs.mono k (fun r15 s15 k => ?_))
    refine r_istore_n dX11_branch_18 (by decide) rfl rfl ?_
    refine r_aload_n dX11_branch_19 rfl ?_
    refine r_aload_n dX11_branch_20 rfl ?_
    refine r_getRv dX11_branch_21 fl_X11_96 rfl (k_125 hS) (f_125_49 hS) (by decide) ?_
    refine r_iload_n dX11_branch_24 rfl ?_
    obtain ⟨⟨h0, h1⟩, k⟩ := k
    refine r_iald dX11_branch_25 (Or.inl (k_153 hS)) h0 h1 ?_
    refine s_callVv (z := mX11_fromHome) [vI (s15 153 v1.toNat)] dX11_branch_26 mv_X11_fromHome lk_X11_346 rfl (by decide) (k_125 hS) (Nat.le_of_ble_eq_true rfl) (WPs.mono k (fun r26 s26 k => ?_))
    refine r_istore dX11_branch_29 (by decide) rfl rfl ?_
    refine r_iload_n dX11_branch_31 rfl ?_
    refine r_iload dX11_branch_32 rfl ?_
    refine r_icmp_ge (tgt := 41) dX11_branch_34 rfl (fun h => ?_) (fun h => ?_)
    · have k := k.1 h
      refine r_iload dX11_branch_41 rfl ?_
      exact s_iret dX11_branch_43 rfl k
    · have k := k.2 h
      refine r_iload_n dX11_branch_37 rfl ?_
      refine r_goto (tgt := 43) dX11_branch_38 rfl ?_
      exact s_iret dX11_branch_43 rfl k
theorem e_X11_allTime {S : ShT} {σ : StT} {Q : Int → StT → Prop} (hS : SHP S) (k : WPs mX11_leaps [vR 125] S σ (fun r8 s8 => inR ((σ 127 6) * r8) ∧ ∀ x12 : Int, x12 = (σ 127 6) * r8 → AWs mX11_allTime 15 [(0, vR 125), (1, vI x12), (2, vI 0)] [] S s8 Q)) : WPs mX11_allTime [vR 125] S σ Q := by
  refine s_entry (by decide) (Nat.le_of_ble_eq_true rfl) rfl rfl ?_
  refine r_aload_n dX11_allTime_0 rfl ?_
  refine r_getRv dX11_allTime_1 fl_X11_17 rfl (k_125 hS) (f_125_6 hS) (by decide) ?_
  refine r_bipush dX11_allTime_4 (by decide +kernel) ⟨by decide, by decide⟩ ?_
  refine r_iald dX11_allTime_6 (Or.inl (k_127 hS)) (by decide) (by decide) ?_
  refine r_aload_n dX11_allTime_7 rfl ?_
  refine s_callVv (z := mX11_leaps) [] dX11_allTime_8 mv_X11_leaps lk_X11_361 rfl (by decide) (k_125 hS) (Nat.le_of_ble_eq_true rfl) (WPs.mono k (fun r8 s8 k => ?_))
  obtain ⟨h, k⟩ := k
  refine r_imul dX11_allTime_11 h ?_
  refine r_gen (fun x12 hx12 => ?_)
  have k := k x12 hx12
  refine r_istore_n dX11_allTime_12 (by decide) rfl rfl ?_
  refine r_iconst dX11_allTime_13 ⟨by decide, by decide⟩ ?_
  refine r_istore_n dX11_allTime_14 (by decide) rfl rfl ?_
  exact k
theorem t_X11_allTime_15 {v1 v2 : Int} {S : ShT} {σ : StT} {Q : Int → StT → Prop} (hS : SHP S) (k : (σ 127 2 ≤ v2 → Q v1 σ) ∧ (¬ (σ 127 2 ≤ v2) → inR (2 * v2) ∧ inR (2 * v2) ∧ inR ((2 * v2) + 1) ∧ WPs mX11_apart [vR 125, vI (2 * v2), vI ((2 * v2) + 1)] S σ (fun r41 s41 => inR ((σ 127 5) * r41) ∧ inR (v1 + ((σ 127 5) * r41)) ∧ ∀ x46 : Int, x46 = v1 + ((σ 127 5) * r41) → inR (v2 + 1) ∧ AWs mX11_allTime 15 [(0, vR 125), (1, vI x46), (2, vI (v2 + 1))] [] S s41 Q))) : AWs mX11_allTime 15 [(0, vR 125), (1, vI v1), (2, vI v2)] [] S σ Q := by
  refine r_iload_n dX11_allTime_15 rfl ?_
  refine r_aload_n dX11_allTime_16 rfl ?_
  refine r_getRv dX11_allTime_17 fl_X11_17 rfl (k_125 hS) (f_125_6 hS) (by decide) ?_
  refine r_iconst dX11_allTime_20 ⟨by decide, by decide⟩ ?_
  refine r_iald dX11_allTime_21 (Or.inl (k_127 hS)) (by decide) (by decide) ?_
  refine r_icmp_ge (tgt := 53) dX11_allTime_22 rfl (fun h => ?_) (fun h => ?_)
  · have k := k.1 h
    refine r_iload_n dX11_allTime_53 rfl ?_
    exact s_iret dX11_allTime_54 rfl k
  · have k := k.2 h
    refine r_iload_n dX11_allTime_25 rfl ?_
    refine r_aload_n dX11_allTime_26 rfl ?_
    refine r_getRv dX11_allTime_27 fl_X11_17 rfl (k_125 hS) (f_125_6 hS) (by decide) ?_
    refine r_iconst dX11_allTime_30 ⟨by decide, by decide⟩ ?_
    refine r_iald dX11_allTime_31 (Or.inl (k_127 hS)) (by decide) (by decide) ?_
    refine r_aload_n dX11_allTime_32 rfl ?_
    refine r_iconst dX11_allTime_33 ⟨by decide, by decide⟩ ?_
    refine r_iload_n dX11_allTime_34 rfl ?_
    obtain ⟨h, k⟩ := k
    refine r_imul dX11_allTime_35 h ?_
    refine r_iconst dX11_allTime_36 ⟨by decide, by decide⟩ ?_
    refine r_iload_n dX11_allTime_37 rfl ?_
    obtain ⟨h, k⟩ := k
    refine r_imul dX11_allTime_38 h ?_
    refine r_iconst dX11_allTime_39 ⟨by decide, by decide⟩ ?_
    obtain ⟨h, k⟩ := k
    refine r_iadd dX11_allTime_40 h ?_
    refine s_callVv (z := mX11_apart) [vI (2 * v2), vI ((2 * v2) + 1)] dX11_allTime_41 mv_X11_apart lk_X11_241 rfl (by decide) (k_125 hS) (Nat.le_of_ble_eq_true rfl) (WPs.mono k (fun r41 s41 k => ?_))
    obtain ⟨h, k⟩ := k
    refine r_imul dX11_allTime_44 h ?_
    obtain ⟨h, k⟩ := k
    refine r_iadd dX11_allTime_45 h ?_
    refine r_gen (fun x46 hx46 => ?_)
    have k := k x46 hx46
    refine r_istore_n dX11_allTime_46 (by decide) rfl rfl ?_
    obtain ⟨h, k⟩ := k
    refine r_iinc dX11_allTime_47 rfl (by decide) rfl rfl h ?_
    refine r_goto (tgt := 15) dX11_allTime_50 rfl ?_
    exact k
theorem e_X11_time {S : ShT} {σ : StT} {Q : Int → StT → Prop} (hS : SHP S) (k : WPs mX11_isAsked [vR 125, vI 1] S σ (fun r2 s2 => (r2 = 0 → Q (-1) s2) ∧ (¬ (r2 = 0) → WPs mX11_allTime [vR 125] S s2 (fun r9 s9 => Q r9 s9)))) : WPs mX11_time [vR 125] S σ Q := by
  refine s_entry (by decide) (Nat.le_of_ble_eq_true rfl) rfl rfl ?_
  refine r_aload_n dX11_time_0 rfl ?_
  refine r_iconst dX11_time_1 ⟨by decide, by decide⟩ ?_
  refine s_callVv (z := mX11_isAsked) [vI 1] dX11_time_2 mv_X11_isAsked lk_X11_318 rfl (by decide) (k_125 hS) (Nat.le_of_ble_eq_true rfl) (WPs.mono k (fun r2 s2 k => ?_))
  refine r_if_eq (tgt := 15) dX11_time_5 rfl (fun h => ?_) (fun h => ?_)
  · have k := k.1 h
    refine r_iconst dX11_time_15 ⟨by decide, by decide⟩ ?_
    exact s_iret dX11_time_16 rfl k
  · have k := k.2 h
    refine r_aload_n dX11_time_8 rfl ?_
    refine s_callVv (z := mX11_allTime) [] dX11_time_9 mv_X11_allTime lk_X11_390 rfl (by decide) (k_125 hS) (Nat.le_of_ble_eq_true rfl) (WPs.mono k (fun r9 s9 k => ?_))
    refine r_goto (tgt := 16) dX11_time_12 rfl ?_
    exact s_iret dX11_time_16 rfl k
theorem e_X11_goesTill {v1 : Int} {S : ShT} {σ : StT} {Q : Int → StT → Prop} (hS : SHP S) (k : AWs mX11_goesTill 19 [(0, vR 125), (1, vI v1), (2, vI 0), (3, vI 0)] [] S (up2 (up2 (up2 σ 125 51 0) 125 52 0) 125 53 0) Q) : WPs mX11_goesTill [vR 125, vI v1] S σ Q := by
  refine s_entry (by decide) (Nat.le_of_ble_eq_true rfl) rfl rfl ?_
  refine r_aload_n dX11_goesTill_0 rfl ?_
  refine r_iconst dX11_goesTill_1 ⟨by decide, by decide⟩ ?_
  refine r_putIv dX11_goesTill_2 fl_X11_393 (fun _ h => by cases h; rfl) (Or.inl rfl) (k_125 hS) ?_
  refine r_aload_n dX11_goesTill_5 rfl ?_
  refine r_iconst dX11_goesTill_6 ⟨by decide, by decide⟩ ?_
  refine r_putIv dX11_goesTill_7 fl_X11_396 (fun _ h => by cases h; rfl) (Or.inl rfl) (k_125 hS) ?_
  refine r_aload_n dX11_goesTill_10 rfl ?_
  refine r_iconst dX11_goesTill_11 ⟨by decide, by decide⟩ ?_
  refine r_putIv dX11_goesTill_12 fl_X11_399 (fun _ h => by cases h; rfl) (Or.inr ⟨rfl, by decide⟩) (k_125 hS) ?_
  refine r_iconst dX11_goesTill_15 ⟨by decide, by decide⟩ ?_
  refine r_istore_n dX11_goesTill_16 (by decide) rfl rfl ?_
  refine r_iconst dX11_goesTill_17 ⟨by decide, by decide⟩ ?_
  refine r_istore_n dX11_goesTill_18 (by decide) rfl rfl ?_
  exact k
theorem t_X11_goesTill_19 {v1 v2 v3 : Int} {S : ShT} {σ : StT} {Q : Int → StT → Prop} (hS : SHP S) (k : (σ 127 103 ≤ v3 → Q 0 σ) ∧ (¬ (σ 127 103 ≤ v3) → WPs mX11_leap [vR 125, vI v3] S σ (fun r40 s40 => inR ((σ 127 6) * r40) ∧ inR (v2 + ((σ 127 6) * r40)) ∧ ∀ x45 : Int, x45 = v2 + ((σ 127 6) * r40) → (x45 ≤ v1 → AWs mX11_goesTill 55 [(0, vR 125), (1, vI v1), (2, vI x45), (3, vI v3), (4, vI 0)] [] S s40 Q) ∧ (¬ (x45 ≤ v1) → Q 0 s40)))) : AWs mX11_goesTill 19 [(0, vR 125), (1, vI v1), (2, vI v2), (3, vI v3)] [] S σ Q := by
  refine r_iload_n dX11_goesTill_19 rfl ?_
  refine r_aload_n dX11_goesTill_20 rfl ?_
  refine r_getRv dX11_goesTill_21 fl_X11_17 rfl (k_125 hS) (f_125_6 hS) (by decide) ?_
  refine r_bipush dX11_goesTill_24 (by decide +kernel) ⟨by decide, by decide⟩ ?_
  refine r_iald dX11_goesTill_26 (Or.inl (k_127 hS)) (by decide) (by decide) ?_
  refine r_icmp_ge (tgt := 153) dX11_goesTill_27 rfl (fun h => ?_) (fun h => ?_)
  · have k := k.1 h
    exact s_vret dX11_goesTill_153 rfl k
  · have k := k.2 h
    refine r_iload_n dX11_goesTill_30 rfl ?_
    refine r_aload_n dX11_goesTill_31 rfl ?_
    refine r_getRv dX11_goesTill_32 fl_X11_17 rfl (k_125 hS) (f_125_6 hS) (by decide) ?_
    refine r_bipush dX11_goesTill_35 (by decide +kernel) ⟨by decide, by decide⟩ ?_
    refine r_iald dX11_goesTill_37 (Or.inl (k_127 hS)) (by decide) (by decide) ?_
    refine r_aload_n dX11_goesTill_38 rfl ?_
    refine r_iload_n dX11_goesTill_39 rfl ?_
    refine s_callVv (z := mX11_leap) [vI v3] dX11_goesTill_40 mv_X11_leap lk_X11_352 rfl (by decide) (k_125 hS) (Nat.le_of_ble_eq_true rfl) (WPs.mono k (fun r40 s40 k => ?_))
    obtain ⟨h, k⟩ := k
    refine r_imul dX11_goesTill_43 h ?_
    obtain ⟨h, k⟩ := k
    refine r_iadd dX11_goesTill_44 h ?_
    refine r_gen (fun x45 hx45 => ?_)
    have k := k x45 hx45
    refine r_istore_n dX11_goesTill_45 (by decide) rfl rfl ?_
    refine r_iload_n dX11_goesTill_46 rfl ?_
    refine r_iload_n dX11_goesTill_47 rfl ?_
    refine r_icmp_le (tgt := 52) dX11_goesTill_48 rfl (fun h => ?_) (fun h => ?_)
    · have k := k.1 h
      refine r_iconst dX11_goesTill_52 ⟨by decide, by decide⟩ ?_
      refine r_istore dX11_goesTill_53 (by decide) rfl rfl ?_
      exact k
    · have k := k.2 h
      exact s_vret dX11_goesTill_51 rfl k
theorem t_X11_goesTill_55 {v1 v2 v3 v4 : Int} {S : ShT} {σ : StT} {Q : Int → StT → Prop} (hS : SHP S) (k : WPs mX11_planned [vR 125, vI v3] S σ (fun r63 s63 => (0 ≤ r63 ∧ r63 < 24) ∧ ((s63 151 r63.toNat ≤ v4 → inR ((s63 125 52) + 1) ∧ inR (v3 + 1) ∧ AWs mX11_goesTill 19 [(0, vR 125), (1, vI v1), (2, vI v2), (3, vI (v3 + 1))] [] S (up2 (up2 s63 125 53 0) 125 52 ((s63 125 52) + 1)) Q) ∧ (¬ (s63 151 r63.toNat ≤ v4) → WPs mX11_rideAt [vR 125, vI v3, vI v4] S s63 (fun r74 s74 => 0 ≤ r74 ∧ inR (2 * (r74 / 2)) ∧ inR (2 * (r74 / 2)) ∧ inR ((2 * (r74 / 2)) + 1) ∧ WPs mX11_apart [vR 125, vI (2 * (r74 / 2)), vI ((2 * (r74 / 2)) + 1)] S (up2 s74 125 53 1) (fun r104 s104 => inR ((s74 127 5) * r104) ∧ inR (v2 + ((s74 127 5) * r104)) ∧ ∀ x109 : Int, x109 = v2 + ((s74 127 5) * r104) → (x109 ≤ v1 → inR ((s104 125 51) + 1) ∧ inR (v4 + 1) ∧ AWs mX11_goesTill 55 [(0, vR 125), (1, vI v1), (2, vI x109), (3, vI v3), (4, vI (v4 + 1))] [] S (up2 s104 125 51 ((s104 125 51) + 1)) Q) ∧ (¬ (x109 ≤ v1) → Q 0 s104))))))) : AWs mX11_goesTill 55 [(0, vR 125), (1, vI v1), (2, vI v2), (3, vI v3), (4, vI v4)] [] S σ Q := by
  refine r_iload dX11_goesTill_55 rfl ?_
  refine r_aload_n dX11_goesTill_57 rfl ?_
  refine r_getRv dX11_goesTill_58 fl_X11_90 rfl (k_125 hS) (f_125_47 hS) (by decide) ?_
  refine r_aload_n dX11_goesTill_61 rfl ?_
  refine r_iload_n dX11_goesTill_62 rfl ?_
  refine s_callVv (z := mX11_planned) [vI v3] dX11_goesTill_63 mv_X11_planned lk_X11_340 rfl (by decide) (k_125 hS) (Nat.le_of_ble_eq_true rfl) (WPs.mono k (fun r63 s63 k => ?_))
  obtain ⟨⟨h0, h1⟩, k⟩ := k
  refine r_iald dX11_goesTill_66 (Or.inl (k_151 hS)) h0 h1 ?_
  refine r_icmp_ge (tgt := 132) dX11_goesTill_67 rfl (fun h => ?_) (fun h => ?_)
  · have k := k.1 h
    refine r_aload_n dX11_goesTill_132 rfl ?_
    refine r_iconst dX11_goesTill_133 ⟨by decide, by decide⟩ ?_
    refine r_putIv dX11_goesTill_134 fl_X11_399 (fun _ h => by cases h; rfl) (Or.inr ⟨rfl, by decide⟩) (k_125 hS) ?_
    refine r_aload_n dX11_goesTill_137 rfl ?_
    refine r_dup dX11_goesTill_138 rfl ?_
    refine r_getIv dX11_goesTill_139 fl_X11_396 rfl (k_125 hS) ?_
    refine r_top (up2_i (by decide)) ?_
    refine r_iconst dX11_goesTill_142 ⟨by decide, by decide⟩ ?_
    obtain ⟨h, k⟩ := k
    refine r_iadd dX11_goesTill_143 h ?_
    refine r_putIv dX11_goesTill_144 fl_X11_396 (fun _ h => by cases h; rfl) (Or.inl rfl) (k_125 hS) ?_
    obtain ⟨h, k⟩ := k
    refine r_iinc dX11_goesTill_147 rfl (by decide) rfl rfl h ?_
    refine r_goto (tgt := 19) dX11_goesTill_150 rfl ?_
    refine r_loc [0, 1, 2, 3] rfl ?_
    exact k
  · have k := k.2 h
    refine r_aload_n dX11_goesTill_70 rfl ?_
    refine r_iload_n dX11_goesTill_71 rfl ?_
    refine r_iload dX11_goesTill_72 rfl ?_
    refine s_callVv (z := mX11_rideAt) [vI v3, vI v4] dX11_goesTill_74 mv_X11_rideAt lk_X11_358 rfl (by decide) (k_125 hS) (Nat.le_of_ble_eq_true rfl) (WPs.mono k (fun r74 s74 k => ?_))
    refine r_iconst dX11_goesTill_77 ⟨by decide, by decide⟩ ?_
    obtain ⟨h, k⟩ := k
    refine r_idiv dX11_goesTill_78 h (by decide) ?_
    refine r_istore dX11_goesTill_79 (by decide) rfl rfl ?_
    refine r_aload_n dX11_goesTill_81 rfl ?_
    refine r_iconst dX11_goesTill_82 ⟨by decide, by decide⟩ ?_
    refine r_putIv dX11_goesTill_83 fl_X11_399 (fun _ h => by cases h; rfl) (Or.inr ⟨rfl, by decide⟩) (k_125 hS) ?_
    refine r_iload_n dX11_goesTill_86 rfl ?_
    refine r_aload_n dX11_goesTill_87 rfl ?_
    refine r_getRv dX11_goesTill_88 fl_X11_17 rfl (k_125 hS) (f_125_6 hS) (by decide) ?_
    refine r_iconst dX11_goesTill_91 ⟨by decide, by decide⟩ ?_
    refine r_iald dX11_goesTill_92 (Or.inl (k_127 hS)) (by decide) (by decide) ?_
    refine r_top (up2_a (by decide)) ?_
    refine r_aload_n dX11_goesTill_93 rfl ?_
    refine r_iconst dX11_goesTill_94 ⟨by decide, by decide⟩ ?_
    refine r_iload dX11_goesTill_95 rfl ?_
    obtain ⟨h, k⟩ := k
    refine r_imul dX11_goesTill_97 h ?_
    refine r_iconst dX11_goesTill_98 ⟨by decide, by decide⟩ ?_
    refine r_iload dX11_goesTill_99 rfl ?_
    obtain ⟨h, k⟩ := k
    refine r_imul dX11_goesTill_101 h ?_
    refine r_iconst dX11_goesTill_102 ⟨by decide, by decide⟩ ?_
    obtain ⟨h, k⟩ := k
    refine r_iadd dX11_goesTill_103 h ?_
    refine s_callVv (z := mX11_apart) [vI (2 * (r74 / 2)), vI ((2 * (r74 / 2)) + 1)] dX11_goesTill_104 mv_X11_apart lk_X11_241 rfl (by decide) (k_125 hS) (Nat.le_of_ble_eq_true rfl) (WPs.mono k (fun r104 s104 k => ?_))
    obtain ⟨h, k⟩ := k
    refine r_imul dX11_goesTill_107 h ?_
    obtain ⟨h, k⟩ := k
    refine r_iadd dX11_goesTill_108 h ?_
    refine r_gen (fun x109 hx109 => ?_)
    have k := k x109 hx109
    refine r_istore_n dX11_goesTill_109 (by decide) rfl rfl ?_
    refine r_iload_n dX11_goesTill_110 rfl ?_
    refine r_iload_n dX11_goesTill_111 rfl ?_
    refine r_icmp_le (tgt := 116) dX11_goesTill_112 rfl (fun h => ?_) (fun h => ?_)
    · have k := k.1 h
      refine r_aload_n dX11_goesTill_116 rfl ?_
      refine r_dup dX11_goesTill_117 rfl ?_
      refine r_getIv dX11_goesTill_118 fl_X11_393 rfl (k_125 hS) ?_
      refine r_iconst dX11_goesTill_121 ⟨by decide, by decide⟩ ?_
      obtain ⟨h, k⟩ := k
      refine r_iadd dX11_goesTill_122 h ?_
      refine r_putIv dX11_goesTill_123 fl_X11_393 (fun _ h => by cases h; rfl) (Or.inl rfl) (k_125 hS) ?_
      obtain ⟨h, k⟩ := k
      refine r_iinc dX11_goesTill_126 rfl (by decide) rfl rfl h ?_
      refine r_goto (tgt := 55) dX11_goesTill_129 rfl ?_
      refine r_loc [0, 1, 2, 3, 4] rfl ?_
      exact k
    · have k := k.2 h
      exact s_vret dX11_goesTill_115 rfl k
theorem e_X11_pen {v1 v2 : Int} {S : ShT} {σ : StT} {Q : Int → StT → Prop} (hS : SHP S) (k : WPs mX11_in [vI v2, vI 0, vI 2] S σ (fun r4 s4 => WPs mX11_isAsked [vR 125, vI r4] S s4 (fun r7 s7 => (¬ r7 = 0 → WPs mX11_in [vI v1, vI 0, vI 99999] S s7 (fun r20 s20 => (¬ r20 = 0 → WPs mX11_goesTill [vR 125, vI v1] S s20 (fun r34 s34 => (¬ v2 = 0 → (¬ v2 = 1 → Q (s34 125 52) s34) ∧ (v2 = 1 → (s34 125 53 = 0 → Q 0 s34) ∧ (¬ (s34 125 53 = 0) → Q 1 s34))) ∧ (v2 = 0 → Q (s34 125 51) s34))) ∧ (r20 = 0 → WPs mX11_no [vR 125, vI 2] S s20 (fun r28 s28 => Q r28 s28)))) ∧ (r7 = 0 → Q (-1) s7)))) : WPs mX11_pen [vR 125, vI v1, vI v2] S σ Q := by
  refine s_entry (by decide) (Nat.le_of_ble_eq_true rfl) rfl rfl ?_
  refine r_aload_n dX11_pen_0 rfl ?_
  refine r_iload_n dX11_pen_1 rfl ?_
  refine r_iconst dX11_pen_2 ⟨by decide, by decide⟩ ?_
  refine r_iconst dX11_pen_3 ⟨by decide, by decide⟩ ?_
  refine s_callS (z := mX11_in) [vI v2, vI 0, vI 2] dX11_pen_4 ms_X11_in lk_X11_128 rfl (by decide) (Nat.le_of_ble_eq_true rfl) (WPs.mono k (fun r4 s4 k => ?_))
  refine s_callVv (z := mX11_isAsked) [vI r4] dX11_pen_7 mv_X11_isAsked lk_X11_318 rfl (by decide) (k_125 hS) (Nat.le_of_ble_eq_true rfl) (WPs.mono k (fun r7 s7 k => ?_))
  refine r_if_ne (tgt := 15) dX11_pen_10 rfl (fun h => ?_) (fun h => ?_)
  · have k := k.1 h
    refine r_iload_n dX11_pen_15 rfl ?_
    refine r_iconst dX11_pen_16 ⟨by decide, by decide⟩ ?_
    refine r_ldcw dX11_pen_17 ct_X11_402 ⟨by decide, by decide⟩ ?_
    refine s_callS (z := mX11_in) [vI v1, vI 0, vI 99999] dX11_pen_20 ms_X11_in lk_X11_128 rfl (by decide) (Nat.le_of_ble_eq_true rfl) (WPs.mono k (fun r20 s20 k => ?_))
    refine r_if_ne (tgt := 32) dX11_pen_23 rfl (fun h => ?_) (fun h => ?_)
    · have k := k.1 h
      refine r_aload_n dX11_pen_32 rfl ?_
      refine r_iload_n dX11_pen_33 rfl ?_
      refine s_callVv (z := mX11_goesTill) [vI v1] dX11_pen_34 mv_X11_goesTill lk_X11_403 rfl (by decide) (k_125 hS) (Nat.le_of_ble_eq_true rfl) (WPs.mono k (fun r34 s34 k => ?_))
      refine r_iload_n dX11_pen_37 rfl ?_
      refine r_if_ne (tgt := 48) dX11_pen_38 rfl (fun h => ?_) (fun h => ?_)
      · have k := k.1 h
        refine r_iload_n dX11_pen_48 rfl ?_
        refine r_iconst dX11_pen_49 ⟨by decide, by decide⟩ ?_
        refine r_icmp_ne (tgt := 68) dX11_pen_50 rfl (fun h => ?_) (fun h => ?_)
        · have k := k.1 h
          refine r_aload_n dX11_pen_68 rfl ?_
          refine r_getIv dX11_pen_69 fl_X11_396 rfl (k_125 hS) ?_
          exact s_iret dX11_pen_72 rfl k
        · have k := k.2 h
          refine r_aload_n dX11_pen_53 rfl ?_
          refine r_getIv dX11_pen_54 fl_X11_399 rfl (k_125 hS) ?_
          refine r_if_eq (tgt := 64) dX11_pen_57 rfl (fun h => ?_) (fun h => ?_)
          · have k := k.1 h
            refine r_iconst dX11_pen_64 ⟨by decide, by decide⟩ ?_
            refine r_goto (tgt := 72) dX11_pen_65 rfl ?_
            exact s_iret dX11_pen_72 rfl k
          · have k := k.2 h
            refine r_iconst dX11_pen_60 ⟨by decide, by decide⟩ ?_
            refine r_goto (tgt := 72) dX11_pen_61 rfl ?_
            exact s_iret dX11_pen_72 rfl k
      · have k := k.2 h
        refine r_aload_n dX11_pen_41 rfl ?_
        refine r_getIv dX11_pen_42 fl_X11_393 rfl (k_125 hS) ?_
        refine r_goto (tgt := 72) dX11_pen_45 rfl ?_
        exact s_iret dX11_pen_72 rfl k
    · have k := k.2 h
      refine r_aload_n dX11_pen_26 rfl ?_
      refine r_iconst dX11_pen_27 ⟨by decide, by decide⟩ ?_
      refine s_callVv (z := mX11_no) [vI 2] dX11_pen_28 mv_X11_no lk_X11_216 rfl (by decide) (k_125 hS) (Nat.le_of_ble_eq_true rfl) (WPs.mono k (fun r28 s28 k => ?_))
      exact s_iret dX11_pen_31 rfl k
  · have k := k.2 h
    refine r_iconst dX11_pen_13 ⟨by decide, by decide⟩ ?_
    exact s_iret dX11_pen_14 rfl k
theorem e_X11_longest {S : ShT} {σ : StT} {Q : Int → StT → Prop} (hS : SHP S) (k : WPs mX11_isAsked [vR 125, vI 1] S σ (fun r2 s2 => (¬ r2 = 0 → AWs mX11_longest 15 [(0, vR 125), (1, vI (-2)), (2, vI 0)] [] S s2 Q) ∧ (r2 = 0 → Q (-1) s2))) : WPs mX11_longest [vR 125] S σ Q := by
  refine s_entry (by decide) (Nat.le_of_ble_eq_true rfl) rfl rfl ?_
  refine r_aload_n dX11_longest_0 rfl ?_
  refine r_iconst dX11_longest_1 ⟨by decide, by decide⟩ ?_
  refine s_callVv (z := mX11_isAsked) [vI 1] dX11_longest_2 mv_X11_isAsked lk_X11_318 rfl (by decide) (k_125 hS) (Nat.le_of_ble_eq_true rfl) (WPs.mono k (fun r2 s2 k => ?_))
  refine r_if_ne (tgt := 10) dX11_longest_5 rfl (fun h => ?_) (fun h => ?_)
  · have k := k.1 h
    refine r_bipush dX11_longest_10 (by decide +kernel) ⟨by decide, by decide⟩ ?_
    refine r_istore_n dX11_longest_12 (by decide) rfl rfl ?_
    refine r_iconst dX11_longest_13 ⟨by decide, by decide⟩ ?_
    refine r_istore_n dX11_longest_14 (by decide) rfl rfl ?_
    exact k
  · have k := k.2 h
    refine r_iconst dX11_longest_8 ⟨by decide, by decide⟩ ?_
    exact s_iret dX11_longest_9 rfl k
theorem t_X11_longest_15 {v1 v2 : Int} {S : ShT} {σ : StT} {Q : Int → StT → Prop} (hS : SHP S) (k : (σ 127 103 ≤ v2 → Q v1 σ) ∧ (¬ (σ 127 103 ≤ v2) → (v1 = -2 → inR (v2 + 1) ∧ AWs mX11_longest 15 [(0, vR 125), (1, vI v2), (2, vI (v2 + 1))] [] S σ Q) ∧ (¬ (v1 = -2) → WPs mX11_planned [vR 125, vI v2] S σ (fun r35 s35 => WPs mX11_longOf [vR 125, vI r35] S s35 (fun r38 s38 => WPs mX11_planned [vR 125, vI v1] S s38 (fun r44 s44 => WPs mX11_longOf [vR 125, vI r44] S s44 (fun r47 s47 => (r38 ≤ r47 → inR (v2 + 1) ∧ AWs mX11_longest 15 [(0, vR 125), (1, vI v1), (2, vI (v2 + 1))] [] S s47 Q) ∧ (¬ (r38 ≤ r47) → inR (v2 + 1) ∧ AWs mX11_longest 15 [(0, vR 125), (1, vI v2), (2, vI (v2 + 1))] [] S s47 Q)))))))) : AWs mX11_longest 15 [(0, vR 125), (1, vI v1), (2, vI v2)] [] S σ Q := by
  refine r_iload_n dX11_longest_15 rfl ?_
  refine r_aload_n dX11_longest_16 rfl ?_
  refine r_getRv dX11_longest_17 fl_X11_17 rfl (k_125 hS) (f_125_6 hS) (by decide) ?_
  refine r_bipush dX11_longest_20 (by decide +kernel) ⟨by decide, by decide⟩ ?_
  refine r_iald dX11_longest_22 (Or.inl (k_127 hS)) (by decide) (by decide) ?_
  refine r_icmp_ge (tgt := 65) dX11_longest_23 rfl (fun h => ?_) (fun h => ?_)
  · have k := k.1 h
    refine r_iload_n dX11_longest_65 rfl ?_
    exact s_iret dX11_longest_66 rfl k
  · have k := k.2 h
    refine r_iload_n dX11_longest_26 rfl ?_
    refine r_bipush dX11_longest_27 (by decide +kernel) ⟨by decide, by decide⟩ ?_
    refine r_icmp_eq (tgt := 53) dX11_longest_29 rfl (fun h => ?_) (fun h => ?_)
    · have k := k.1 h
      refine r_iload_n dX11_longest_53 rfl ?_
      refine r_goto (tgt := 58) dX11_longest_54 rfl ?_
      refine r_istore_n dX11_longest_58 (by decide) rfl rfl ?_
      obtain ⟨h, k⟩ := k
      refine r_iinc dX11_longest_59 rfl (by decide) rfl rfl h ?_
      refine r_goto (tgt := 15) dX11_longest_62 rfl ?_
      exact k
    · have k := k.2 h
      refine r_aload_n dX11_longest_32 rfl ?_
      refine r_aload_n dX11_longest_33 rfl ?_
      refine r_iload_n dX11_longest_34 rfl ?_
      refine s_callVv (z := mX11_planned) [vI v2] dX11_longest_35 mv_X11_planned lk_X11_340 rfl (by decide) (k_125 hS) (Nat.le_of_ble_eq_true rfl) (WPs.mono k (fun r35 s35 k => ?_))
      refine s_callVv (z := mX11_longOf) [vI r35] dX11_longest_38 mv_X11_longOf lk_X11_355 rfl (by decide) (k_125 hS) (Nat.le_of_ble_eq_true rfl) (WPs.mono k (fun r38 s38 k => ?_))
      refine r_aload_n dX11_longest_41 rfl ?_
      refine r_aload_n dX11_longest_42 rfl ?_
      refine r_iload_n dX11_longest_43 rfl ?_
      refine s_callVv (z := mX11_planned) [vI v1] dX11_longest_44 mv_X11_planned lk_X11_340 rfl (by decide) (k_125 hS) (Nat.le_of_ble_eq_true rfl) (WPs.mono k (fun r44 s44 k => ?_))
      refine s_callVv (z := mX11_longOf) [vI r44] dX11_longest_47 mv_X11_longOf lk_X11_355 rfl (by decide) (k_125 hS) (Nat.le_of_ble_eq_true rfl) (WPs.mono k (fun r47 s47 k => ?_))
      refine r_icmp_le (tgt := 57) dX11_longest_50 rfl (fun h => ?_) (fun h => ?_)
      · have k := k.1 h
        refine r_iload_n dX11_longest_57 rfl ?_
        refine r_istore_n dX11_longest_58 (by decide) rfl rfl ?_
        obtain ⟨h, k⟩ := k
        refine r_iinc dX11_longest_59 rfl (by decide) rfl rfl h ?_
        refine r_goto (tgt := 15) dX11_longest_62 rfl ?_
        exact k
      · have k := k.2 h
        refine r_iload_n dX11_longest_53 rfl ?_
        refine r_goto (tgt := 58) dX11_longest_54 rfl ?_
        refine r_istore_n dX11_longest_58 (by decide) rfl rfl ?_
        obtain ⟨h, k⟩ := k
        refine r_iinc dX11_longest_59 rfl (by decide) rfl rfl h ?_
        refine r_goto (tgt := 15) dX11_longest_62 rfl ?_
        exact k
theorem e_X11_farthest {S : ShT} {σ : StT} {Q : Int → StT → Prop} (hS : SHP S) (k : WPs mX11_isAsked [vR 125, vI 1] S σ (fun r2 s2 => (¬ r2 = 0 → (¬ s2 127 103 = 0 → AWs mX11_farthest 27 [(0, vR 125), (1, vI 0), (2, vI 1)] [] S s2 Q) ∧ (s2 127 103 = 0 → Q (-2) s2)) ∧ (r2 = 0 → Q (-1) s2))) : WPs mX11_farthest [vR 125] S σ Q := by
  refine s_entry (by decide) (Nat.le_of_ble_eq_true rfl) rfl rfl ?_
  refine r_aload_n dX11_farthest_0 rfl ?_
  refine r_iconst dX11_farthest_1 ⟨by decide, by decide⟩ ?_
  refine s_callVv (z := mX11_isAsked) [vI 1] dX11_farthest_2 mv_X11_isAsked lk_X11_318 rfl (by decide) (k_125 hS) (Nat.le_of_ble_eq_true rfl) (WPs.mono k (fun r2 s2 k => ?_))
  refine r_if_ne (tgt := 10) dX11_farthest_5 rfl (fun h => ?_) (fun h => ?_)
  · have k := k.1 h
    refine r_aload_n dX11_farthest_10 rfl ?_
    refine r_getRv dX11_farthest_11 fl_X11_17 rfl (k_125 hS) (f_125_6 hS) (by decide) ?_
    refine r_bipush dX11_farthest_14 (by decide +kernel) ⟨by decide, by decide⟩ ?_
    refine r_iald dX11_farthest_16 (Or.inl (k_127 hS)) (by decide) (by decide) ?_
    refine r_if_ne (tgt := 23) dX11_farthest_17 rfl (fun h => ?_) (fun h => ?_)
    · have k := k.1 h
      refine r_iconst dX11_farthest_23 ⟨by decide, by decide⟩ ?_
      refine r_istore_n dX11_farthest_24 (by decide) rfl rfl ?_
      refine r_iconst dX11_farthest_25 ⟨by decide, by decide⟩ ?_
      refine r_istore_n dX11_farthest_26 (by decide) rfl rfl ?_
      exact k
    · have k := k.2 h
      refine r_bipush dX11_farthest_20 (by decide +kernel) ⟨by decide, by decide⟩ ?_
      exact s_iret dX11_farthest_22 rfl k
  · have k := k.2 h
    refine r_iconst dX11_farthest_8 ⟨by decide, by decide⟩ ?_
    exact s_iret dX11_farthest_9 rfl k
theorem t_X11_farthest_27 {v1 v2 : Int} {S : ShT} {σ : StT} {Q : Int → StT → Prop} (hS : SHP S) (k : (σ 127 103 < v2 → Q v1 σ) ∧ (¬ (σ 127 103 < v2) → WPs mX11_leap [vR 125, vI v2] S σ (fun r40 s40 => WPs mX11_leap [vR 125, vI v1] S s40 (fun r45 s45 => (r40 ≤ r45 → inR (v2 + 1) ∧ AWs mX11_farthest 27 [(0, vR 125), (1, vI v1), (2, vI (v2 + 1))] [] S s45 Q) ∧ (¬ (r40 ≤ r45) → inR (v2 + 1) ∧ AWs mX11_farthest 27 [(0, vR 125), (1, vI v2), (2, vI (v2 + 1))] [] S s45 Q))))) : AWs mX11_farthest 27 [(0, vR 125), (1, vI v1), (2, vI v2)] [] S σ Q := by
  refine r_iload_n dX11_farthest_27 rfl ?_
  refine r_aload_n dX11_farthest_28 rfl ?_
  refine r_getRv dX11_farthest_29 fl_X11_17 rfl (k_125 hS) (f_125_6 hS) (by decide) ?_
  refine r_bipush dX11_farthest_32 (by decide +kernel) ⟨by decide, by decide⟩ ?_
  refine r_iald dX11_farthest_34 (Or.inl (k_127 hS)) (by decide) (by decide) ?_
  refine r_icmp_gt (tgt := 63) dX11_farthest_35 rfl (fun h => ?_) (fun h => ?_)
  · have k := k.1 h
    refine r_iload_n dX11_farthest_63 rfl ?_
    exact s_iret dX11_farthest_64 rfl k
  · have k := k.2 h
    refine r_aload_n dX11_farthest_38 rfl ?_
    refine r_iload_n dX11_farthest_39 rfl ?_
    refine s_callVv (z := mX11_leap) [vI v2] dX11_farthest_40 mv_X11_leap lk_X11_352 rfl (by decide) (k_125 hS) (Nat.le_of_ble_eq_true rfl) (WPs.mono k (fun r40 s40 k => ?_))
    refine r_aload_n dX11_farthest_43 rfl ?_
    refine r_iload_n dX11_farthest_44 rfl ?_
    refine s_callVv (z := mX11_leap) [vI v1] dX11_farthest_45 mv_X11_leap lk_X11_352 rfl (by decide) (k_125 hS) (Nat.le_of_ble_eq_true rfl) (WPs.mono k (fun r45 s45 k => ?_))
    refine r_icmp_le (tgt := 55) dX11_farthest_48 rfl (fun h => ?_) (fun h => ?_)
    · have k := k.1 h
      refine r_iload_n dX11_farthest_55 rfl ?_
      refine r_istore_n dX11_farthest_56 (by decide) rfl rfl ?_
      obtain ⟨h, k⟩ := k
      refine r_iinc dX11_farthest_57 rfl (by decide) rfl rfl h ?_
      refine r_goto (tgt := 27) dX11_farthest_60 rfl ?_
      exact k
    · have k := k.2 h
      refine r_iload_n dX11_farthest_51 rfl ?_
      refine r_goto (tgt := 56) dX11_farthest_52 rfl ?_
      refine r_istore_n dX11_farthest_56 (by decide) rfl rfl ?_
      obtain ⟨h, k⟩ := k
      refine r_iinc dX11_farthest_57 rfl (by decide) rfl rfl h ?_
      refine r_goto (tgt := 27) dX11_farthest_60 rfl ?_
      exact k
theorem e_X11_isPoint {v1 v2 : Int} {S : ShT} {σ : StT} {Q : Int → StT → Prop} (hS : SHP S) (k : WPs mX11_in [vI v1, vI 0, vI (σ 127 0)] S σ (fun r8 s8 => (r8 = 0 → Q 0 s8) ∧ (¬ (r8 = 0) → WPs mX11_in [vI v2, vI 0, vI (s8 127 0)] S s8 (fun r22 s22 => (r22 = 0 → Q 0 s22) ∧ (¬ (r22 = 0) → Q 1 s22))))) : WPs mX11_isPoint [vR 125, vI v1, vI v2] S σ Q := by
  refine s_entry (by decide) (Nat.le_of_ble_eq_true rfl) rfl rfl ?_
  refine r_iload_n dX11_isPoint_0 rfl ?_
  refine r_iconst dX11_isPoint_1 ⟨by decide, by decide⟩ ?_
  refine r_aload_n dX11_isPoint_2 rfl ?_
  refine r_getRv dX11_isPoint_3 fl_X11_17 rfl (k_125 hS) (f_125_6 hS) (by decide) ?_
  refine r_iconst dX11_isPoint_6 ⟨by decide, by decide⟩ ?_
  refine r_iald dX11_isPoint_7 (Or.inl (k_127 hS)) (by decide) (by decide) ?_
  refine s_callS (z := mX11_in) [vI v1, vI 0, vI (σ 127 0)] dX11_isPoint_8 ms_X11_in lk_X11_128 rfl (by decide) (Nat.le_of_ble_eq_true rfl) (WPs.mono k (fun r8 s8 k => ?_))
  refine r_if_eq (tgt := 32) dX11_isPoint_11 rfl (fun h => ?_) (fun h => ?_)
  · have k := k.1 h
    refine r_iconst dX11_isPoint_32 ⟨by decide, by decide⟩ ?_
    exact s_zret dX11_isPoint_33 rfl (by decide) k
  · have k := k.2 h
    refine r_iload_n dX11_isPoint_14 rfl ?_
    refine r_iconst dX11_isPoint_15 ⟨by decide, by decide⟩ ?_
    refine r_aload_n dX11_isPoint_16 rfl ?_
    refine r_getRv dX11_isPoint_17 fl_X11_17 rfl (k_125 hS) (f_125_6 hS) (by decide) ?_
    refine r_iconst dX11_isPoint_20 ⟨by decide, by decide⟩ ?_
    refine r_iald dX11_isPoint_21 (Or.inl (k_127 hS)) (by decide) (by decide) ?_
    refine s_callS (z := mX11_in) [vI v2, vI 0, vI (s8 127 0)] dX11_isPoint_22 ms_X11_in lk_X11_128 rfl (by decide) (Nat.le_of_ble_eq_true rfl) (WPs.mono k (fun r22 s22 k => ?_))
    refine r_if_eq (tgt := 32) dX11_isPoint_25 rfl (fun h => ?_) (fun h => ?_)
    · have k := k.1 h
      refine r_iconst dX11_isPoint_32 ⟨by decide, by decide⟩ ?_
      exact s_zret dX11_isPoint_33 rfl (by decide) k
    · have k := k.2 h
      refine r_iconst dX11_isPoint_28 ⟨by decide, by decide⟩ ?_
      refine r_goto (tgt := 33) dX11_isPoint_29 rfl ?_
      exact s_zret dX11_isPoint_33 rfl (by decide) k
theorem e_X11_strokeWhy {v1 v2 v3 v4 : Int} {S : ShT} {σ : StT} {Q : Int → StT → Prop} (hS : SHP S) (k : (¬ σ 125 11 = 0 → WPs mX11_isPoint [vR 125, vI v1, vI v2] S σ (fun r12 s12 => (r12 = 0 → Q 2 s12) ∧ (¬ (r12 = 0) → WPs mX11_isPoint [vR 125, vI v3, vI v4] S s12 (fun r22 s22 => (r22 = 0 → Q 2 s22) ∧ (¬ (r22 = 0) → (¬ v1 = v3 → AWs mX11_strokeWhy 43 [(0, vR 125)] [] S s22 Q) ∧ (v1 = v3 → (¬ v2 = v4 → AWs mX11_strokeWhy 43 [(0, vR 125)] [] S s22 Q) ∧ (v2 = v4 → Q 2 s22))))))) ∧ (σ 125 11 = 0 → Q 1 σ)) : WPs mX11_strokeWhy [vR 125, vI v1, vI v2, vI v3, vI v4] S σ Q := by
  refine s_entry (by decide) (Nat.le_of_ble_eq_true rfl) rfl rfl ?_
  refine r_aload_n dX11_strokeWhy_0 rfl ?_
  refine r_getIv dX11_strokeWhy_1 fl_X11_223 rfl (k_125 hS) ?_
  refine r_if_ne (tgt := 9) dX11_strokeWhy_4 rfl (fun h => ?_) (fun h => ?_)
  · have k := k.1 h
    refine r_aload_n dX11_strokeWhy_9 rfl ?_
    refine r_iload_n dX11_strokeWhy_10 rfl ?_
    refine r_iload_n dX11_strokeWhy_11 rfl ?_
    refine s_callVv (z := mX11_isPoint) [vI v1, vI v2] dX11_strokeWhy_12 mv_X11_isPoint lk_X11_406 rfl (by decide) (k_125 hS) (Nat.le_of_ble_eq_true rfl) (WPs.mono k (fun r12 s12 k => ?_))
    refine r_if_eq (tgt := 39) dX11_strokeWhy_15 rfl (fun h => ?_) (fun h => ?_)
    · have k := k.1 h
      refine r_iconst dX11_strokeWhy_39 ⟨by decide, by decide⟩ ?_
      refine r_goto (tgt := 59) dX11_strokeWhy_40 rfl ?_
      exact s_iret dX11_strokeWhy_59 rfl k
    · have k := k.2 h
      refine r_aload_n dX11_strokeWhy_18 rfl ?_
      refine r_iload_n dX11_strokeWhy_19 rfl ?_
      refine r_iload dX11_strokeWhy_20 rfl ?_
      refine s_callVv (z := mX11_isPoint) [vI v3, vI v4] dX11_strokeWhy_22 mv_X11_isPoint lk_X11_406 rfl (by decide) (k_125 hS) (Nat.le_of_ble_eq_true rfl) (WPs.mono k (fun r22 s22 k => ?_))
      refine r_if_eq (tgt := 39) dX11_strokeWhy_25 rfl (fun h => ?_) (fun h => ?_)
      · have k := k.1 h
        refine r_iconst dX11_strokeWhy_39 ⟨by decide, by decide⟩ ?_
        refine r_goto (tgt := 59) dX11_strokeWhy_40 rfl ?_
        exact s_iret dX11_strokeWhy_59 rfl k
      · have k := k.2 h
        refine r_iload_n dX11_strokeWhy_28 rfl ?_
        refine r_iload_n dX11_strokeWhy_29 rfl ?_
        refine r_icmp_ne (tgt := 43) dX11_strokeWhy_30 rfl (fun h => ?_) (fun h => ?_)
        · have k := k.1 h
          refine r_loc [0] rfl ?_
          exact k
        · have k := k.2 h
          refine r_iload_n dX11_strokeWhy_33 rfl ?_
          refine r_iload dX11_strokeWhy_34 rfl ?_
          refine r_icmp_ne (tgt := 43) dX11_strokeWhy_36 rfl (fun h => ?_) (fun h => ?_)
          · have k := k.1 h
            refine r_loc [0] rfl ?_
            exact k
          · have k := k.2 h
            refine r_iconst dX11_strokeWhy_39 ⟨by decide, by decide⟩ ?_
            refine r_goto (tgt := 59) dX11_strokeWhy_40 rfl ?_
            exact s_iret dX11_strokeWhy_59 rfl k
  · have k := k.2 h
    refine r_iconst dX11_strokeWhy_7 ⟨by decide, by decide⟩ ?_
    exact s_iret dX11_strokeWhy_8 rfl k
theorem t_X11_strokeWhy_43 {S : ShT} {σ : StT} {Q : Int → StT → Prop} (hS : SHP S) (k : (¬ σ 127 2 = 24 → Q 0 σ) ∧ (σ 127 2 = 24 → Q 3 σ)) : AWs mX11_strokeWhy 43 [(0, vR 125)] [] S σ Q := by
  refine r_aload_n dX11_strokeWhy_43 rfl ?_
  refine r_getRv dX11_strokeWhy_44 fl_X11_17 rfl (k_125 hS) (f_125_6 hS) (by decide) ?_
  refine r_iconst dX11_strokeWhy_47 ⟨by decide, by decide⟩ ?_
  refine r_iald dX11_strokeWhy_48 (Or.inl (k_127 hS)) (by decide) (by decide) ?_
  refine r_bipush dX11_strokeWhy_49 (by decide +kernel) ⟨by decide, by decide⟩ ?_
  refine r_icmp_ne (tgt := 58) dX11_strokeWhy_51 rfl (fun h => ?_) (fun h => ?_)
  · have k := k.1 h
    refine r_iconst dX11_strokeWhy_58 ⟨by decide, by decide⟩ ?_
    exact s_iret dX11_strokeWhy_59 rfl k
  · have k := k.2 h
    refine r_iconst dX11_strokeWhy_54 ⟨by decide, by decide⟩ ?_
    refine r_goto (tgt := 59) dX11_strokeWhy_55 rfl ?_
    exact s_iret dX11_strokeWhy_59 rfl k
theorem e_X11_comes {v1 v2 v3 v4 : Int} {S : ShT} {σ : StT} {Q : Int → StT → Prop} (hS : SHP S) (k : inR (4 * (σ 127 2)) ∧ inR (7 + (4 * (σ 127 2))) ∧ ∀ x11 : Int, x11 = 7 + (4 * (σ 127 2)) → (0 ≤ x11 ∧ x11 < 152) ∧ inR (x11 + 1) ∧ (0 ≤ x11 + 1 ∧ x11 + 1 < 152) ∧ inR (x11 + 2) ∧ (0 ≤ x11 + 2 ∧ x11 + 2 < 152) ∧ inR (x11 + 3) ∧ (0 ≤ x11 + 3 ∧ x11 + 3 < 152) ∧ inR (((up2 (up2 (up2 (up2 σ 127 x11.toNat v1) 127 (x11 + 1).toNat v2) 127 (x11 + 2).toNat v3) 127 (x11 + 3).toNat v4) 127 2) + 1) ∧ Q 0 (up2 (up2 (up2 (up2 (up2 σ 127 x11.toNat v1) 127 (x11 + 1).toNat v2) 127 (x11 + 2).toNat v3) 127 (x11 + 3).toNat v4) 127 2 (((up2 (up2 (up2 (up2 σ 127 x11.toNat v1) 127 (x11 + 1).toNat v2) 127 (x11 + 2).toNat v3) 127 (x11 + 3).toNat v4) 127 2) + 1))) : WPs mX11_comes [vR 125, vI v1, vI v2, vI v3, vI v4] S σ Q := by
  refine s_entry (by decide) (Nat.le_of_ble_eq_true rfl) rfl rfl ?_
  refine r_bipush dX11_comes_0 (by decide +kernel) ⟨by decide, by decide⟩ ?_
  refine r_iconst dX11_comes_2 ⟨by decide, by decide⟩ ?_
  refine r_aload_n dX11_comes_3 rfl ?_
  refine r_getRv dX11_comes_4 fl_X11_17 rfl (k_125 hS) (f_125_6 hS) (by decide) ?_
  refine r_iconst dX11_comes_7 ⟨by decide, by decide⟩ ?_
  refine r_iald dX11_comes_8 (Or.inl (k_127 hS)) (by decide) (by decide) ?_
  obtain ⟨h, k⟩ := k
  refine r_imul dX11_comes_9 h ?_
  obtain ⟨h, k⟩ := k
  refine r_iadd dX11_comes_10 h ?_
  refine r_gen (fun x11 hx11 => ?_)
  have k := k x11 hx11
  refine r_istore dX11_comes_11 (by decide) rfl rfl ?_
  refine r_aload_n dX11_comes_13 rfl ?_
  refine r_getRv dX11_comes_14 fl_X11_17 rfl (k_125 hS) (f_125_6 hS) (by decide) ?_
  refine r_iload dX11_comes_17 rfl ?_
  refine r_iload_n dX11_comes_19 rfl ?_
  obtain ⟨⟨h0, h1⟩, k⟩ := k
  refine r_iast dX11_comes_20 (k_127 hS) h0 h1 ?_
  refine r_aload_n dX11_comes_21 rfl ?_
  refine r_getRv dX11_comes_22 fl_X11_17 rfl (k_125 hS) (f_125_6 hS) (by decide) ?_
  refine r_iload dX11_comes_25 rfl ?_
  refine r_iconst dX11_comes_27 ⟨by decide, by decide⟩ ?_
  obtain ⟨h, k⟩ := k
  refine r_iadd dX11_comes_28 h ?_
  refine r_iload_n dX11_comes_29 rfl ?_
  obtain ⟨⟨h0, h1⟩, k⟩ := k
  refine r_iast dX11_comes_30 (k_127 hS) h0 h1 ?_
  refine r_aload_n dX11_comes_31 rfl ?_
  refine r_getRv dX11_comes_32 fl_X11_17 rfl (k_125 hS) (f_125_6 hS) (by decide) ?_
  refine r_iload dX11_comes_35 rfl ?_
  refine r_iconst dX11_comes_37 ⟨by decide, by decide⟩ ?_
  obtain ⟨h, k⟩ := k
  refine r_iadd dX11_comes_38 h ?_
  refine r_iload_n dX11_comes_39 rfl ?_
  obtain ⟨⟨h0, h1⟩, k⟩ := k
  refine r_iast dX11_comes_40 (k_127 hS) h0 h1 ?_
  refine r_aload_n dX11_comes_41 rfl ?_
  refine r_getRv dX11_comes_42 fl_X11_17 rfl (k_125 hS) (f_125_6 hS) (by decide) ?_
  refine r_iload dX11_comes_45 rfl ?_
  refine r_iconst dX11_comes_47 ⟨by decide, by decide⟩ ?_
  obtain ⟨h, k⟩ := k
  refine r_iadd dX11_comes_48 h ?_
  refine r_iload dX11_comes_49 rfl ?_
  obtain ⟨⟨h0, h1⟩, k⟩ := k
  refine r_iast dX11_comes_51 (k_127 hS) h0 h1 ?_
  refine r_aload_n dX11_comes_52 rfl ?_
  refine r_getRv dX11_comes_53 fl_X11_17 rfl (k_125 hS) (f_125_6 hS) (by decide) ?_
  refine r_iconst dX11_comes_56 ⟨by decide, by decide⟩ ?_
  refine r_dup2 dX11_comes_57 rfl rfl ?_
  refine r_iald dX11_comes_58 (Or.inl (k_127 hS)) (by decide) (by decide) ?_
  refine r_iconst dX11_comes_59 ⟨by decide, by decide⟩ ?_
  obtain ⟨h, k⟩ := k
  refine r_iadd dX11_comes_60 h ?_
  refine r_iast dX11_comes_61 (k_127 hS) (by decide) (by decide) ?_
  exact s_vret dX11_comes_62 rfl k
theorem e_X11_leaves {v1 : Int} {S : ShT} {σ : StT} {Q : Int → StT → Prop} (hS : SHP S) (k : inR (4 * v1) ∧ inR (7 + (4 * v1)) ∧ AWs mX11_leaves 7 [(0, vR 125), (2, vI (7 + (4 * v1)))] [] S σ Q) : WPs mX11_leaves [vR 125, vI v1] S σ Q := by
  refine s_entry (by decide) (Nat.le_of_ble_eq_true rfl) rfl rfl ?_
  refine r_bipush dX11_leaves_0 (by decide +kernel) ⟨by decide, by decide⟩ ?_
  refine r_iconst dX11_leaves_2 ⟨by decide, by decide⟩ ?_
  refine r_iload_n dX11_leaves_3 rfl ?_
  obtain ⟨h, k⟩ := k
  refine r_imul dX11_leaves_4 h ?_
  obtain ⟨h, k⟩ := k
  refine r_iadd dX11_leaves_5 h ?_
  refine r_istore_n dX11_leaves_6 (by decide) rfl rfl ?_
  refine r_loc [0, 2] rfl ?_
  exact k
theorem t_X11_leaves_7 {v2 : Int} {S : ShT} {σ : StT} {Q : Int → StT → Prop} (hS : SHP S) (k : inR (4 * (σ 127 2)) ∧ inR (7 + (4 * (σ 127 2))) ∧ inR ((7 + (4 * (σ 127 2))) - 4) ∧ (((7 + (4 * (σ 127 2))) - 4 ≤ v2 → inR ((σ 127 2) - 1) ∧ Q 0 (up2 σ 127 2 ((σ 127 2) - 1))) ∧ (¬ ((7 + (4 * (σ 127 2))) - 4 ≤ v2) → inR (v2 + 4) ∧ (0 ≤ v2 + 4 ∧ v2 + 4 < 152) ∧ (0 ≤ v2 ∧ v2 < 152) ∧ inR (v2 + 1) ∧ AWs mX11_leaves 7 [(0, vR 125), (2, vI (v2 + 1))] [] S (up2 σ 127 v2.toNat (σ 127 (v2 + 4).toNat)) Q))) : AWs mX11_leaves 7 [(0, vR 125), (2, vI v2)] [] S σ Q := by
  refine r_iload_n dX11_leaves_7 rfl ?_
  refine r_bipush dX11_leaves_8 (by decide +kernel) ⟨by decide, by decide⟩ ?_
  refine r_iconst dX11_leaves_10 ⟨by decide, by decide⟩ ?_
  refine r_aload_n dX11_leaves_11 rfl ?_
  refine r_getRv dX11_leaves_12 fl_X11_17 rfl (k_125 hS) (f_125_6 hS) (by decide) ?_
  refine r_iconst dX11_leaves_15 ⟨by decide, by decide⟩ ?_
  refine r_iald dX11_leaves_16 (Or.inl (k_127 hS)) (by decide) (by decide) ?_
  obtain ⟨h, k⟩ := k
  refine r_imul dX11_leaves_17 h ?_
  obtain ⟨h, k⟩ := k
  refine r_iadd dX11_leaves_18 h ?_
  refine r_iconst dX11_leaves_19 ⟨by decide, by decide⟩ ?_
  obtain ⟨h, k⟩ := k
  refine r_isub dX11_leaves_20 h ?_
  refine r_icmp_ge (tgt := 44) dX11_leaves_21 rfl (fun h => ?_) (fun h => ?_)
  · have k := k.1 h
    refine r_aload_n dX11_leaves_44 rfl ?_
    refine r_getRv dX11_leaves_45 fl_X11_17 rfl (k_125 hS) (f_125_6 hS) (by decide) ?_
    refine r_iconst dX11_leaves_48 ⟨by decide, by decide⟩ ?_
    refine r_dup2 dX11_leaves_49 rfl rfl ?_
    refine r_iald dX11_leaves_50 (Or.inl (k_127 hS)) (by decide) (by decide) ?_
    refine r_iconst dX11_leaves_51 ⟨by decide, by decide⟩ ?_
    obtain ⟨h, k⟩ := k
    refine r_isub dX11_leaves_52 h ?_
    refine r_iast dX11_leaves_53 (k_127 hS) (by decide) (by decide) ?_
    exact s_vret dX11_leaves_54 rfl k
  · have k := k.2 h
    refine r_aload_n dX11_leaves_24 rfl ?_
    refine r_getRv dX11_leaves_25 fl_X11_17 rfl (k_125 hS) (f_125_6 hS) (by decide) ?_
    refine r_iload_n dX11_leaves_28 rfl ?_
    refine r_aload_n dX11_leaves_29 rfl ?_
    refine r_getRv dX11_leaves_30 fl_X11_17 rfl (k_125 hS) (f_125_6 hS) (by decide) ?_
    refine r_iload_n dX11_leaves_33 rfl ?_
    refine r_iconst dX11_leaves_34 ⟨by decide, by decide⟩ ?_
    obtain ⟨h, k⟩ := k
    refine r_iadd dX11_leaves_35 h ?_
    obtain ⟨⟨h0, h1⟩, k⟩ := k
    refine r_iald dX11_leaves_36 (Or.inl (k_127 hS)) h0 h1 ?_
    obtain ⟨⟨h0, h1⟩, k⟩ := k
    refine r_iast dX11_leaves_37 (k_127 hS) h0 h1 ?_
    obtain ⟨h, k⟩ := k
    refine r_iinc dX11_leaves_38 rfl (by decide) rfl rfl h ?_
    refine r_goto (tgt := 7) dX11_leaves_41 rfl ?_
    exact k
theorem e_X11_would {v1 v2 v3 v4 : Int} {S : ShT} {σ : StT} {Q : Int → StT → Prop} (hS : SHP S) (k : WPs mX11_strokeWhy [vR 125, vI v1, vI v2, vI v3, vI v4] S σ (fun r7 s7 => WPs mX11_isRefused [vR 125, vI r7] S s7 (fun r10 s10 => (r10 = 0 → WPs mX11_reckons [vR 125] S s10 (fun r21 s21 => WPs mX11_comes [vR 125, vI v1, vI v2, vI v3, vI v4] S s21 (fun r36 s36 => WPs mX11_reckons [vR 125] S s36 (fun r40 s40 => inR ((s40 125 50) - (s21 125 50)) ∧ ∀ x50 : Int, x50 = (s40 125 50) - (s21 125 50) → inR ((s40 127 2) - 1) ∧ Q x50 (up2 s40 127 2 ((s40 127 2) - 1)))))) ∧ (¬ (r10 = 0) → Q (-2147483648) s10)))) : WPs mX11_would [vR 125, vI v1, vI v2, vI v3, vI v4] S σ Q := by
  refine s_entry (by decide) (Nat.le_of_ble_eq_true rfl) rfl rfl ?_
  refine r_aload_n dX11_would_0 rfl ?_
  refine r_aload_n dX11_would_1 rfl ?_
  refine r_iload_n dX11_would_2 rfl ?_
  refine r_iload_n dX11_would_3 rfl ?_
  refine r_iload_n dX11_would_4 rfl ?_
  refine r_iload dX11_would_5 rfl ?_
  refine s_callVv (z := mX11_strokeWhy) [vI v1, vI v2, vI v3, vI v4] dX11_would_7 mv_X11_strokeWhy lk_X11_409 rfl (by decide) (k_125 hS) (Nat.le_of_ble_eq_true rfl) (WPs.mono k (fun r7 s7 k => ?_))
  refine s_callVv (z := mX11_isRefused) [vI r7] dX11_would_10 mv_X11_isRefused lk_X11_207 rfl (by decide) (k_125 hS) (Nat.le_of_ble_eq_true rfl) (WPs.mono k (fun r10 s10 k => ?_))
  refine r_if_eq (tgt := 20) dX11_would_13 rfl (fun h => ?_) (fun h => ?_)
  · have k := k.1 h
    refine r_aload_n dX11_would_20 rfl ?_
    refine s_callVv (z := mX11_reckons) [] dX11_would_21 mv_X11_reckons lk_X11_311 rfl (by decide) (k_125 hS) (Nat.le_of_ble_eq_true rfl) (WPs.mono k (fun r21 s21 k => ?_))
    refine r_aload_n dX11_would_24 rfl ?_
    refine r_getIv dX11_would_25 fl_X11_296 rfl (k_125 hS) ?_
    refine r_istore dX11_would_28 (by decide) rfl rfl ?_
    refine r_aload_n dX11_would_30 rfl ?_
    refine r_iload_n dX11_would_31 rfl ?_
    refine r_iload_n dX11_would_32 rfl ?_
    refine r_iload_n dX11_would_33 rfl ?_
    refine r_iload dX11_would_34 rfl ?_
    refine s_callVv (z := mX11_comes) [vI v1, vI v2, vI v3, vI v4] dX11_would_36 mv_X11_comes lk_X11_413 rfl (by decide) (k_125 hS) (Nat.le_of_ble_eq_true rfl) (WPs.mono k (fun r36 s36 k => ?_))
    refine r_aload_n dX11_would_39 rfl ?_
    refine s_callVv (z := mX11_reckons) [] dX11_would_40 mv_X11_reckons lk_X11_311 rfl (by decide) (k_125 hS) (Nat.le_of_ble_eq_true rfl) (WPs.mono k (fun r40 s40 k => ?_))
    refine r_aload_n dX11_would_43 rfl ?_
    refine r_getIv dX11_would_44 fl_X11_296 rfl (k_125 hS) ?_
    refine r_iload dX11_would_47 rfl ?_
    obtain ⟨h, k⟩ := k
    refine r_isub dX11_would_49 h ?_
    refine r_gen (fun x50 hx50 => ?_)
    have k := k x50 hx50
    refine r_istore dX11_would_50 (by decide) rfl rfl ?_
    refine r_aload_n dX11_would_52 rfl ?_
    refine r_getRv dX11_would_53 fl_X11_17 rfl (k_125 hS) (f_125_6 hS) (by decide) ?_
    refine r_iconst dX11_would_56 ⟨by decide, by decide⟩ ?_
    refine r_dup2 dX11_would_57 rfl rfl ?_
    refine r_iald dX11_would_58 (Or.inl (k_127 hS)) (by decide) (by decide) ?_
    refine r_iconst dX11_would_59 ⟨by decide, by decide⟩ ?_
    obtain ⟨h, k⟩ := k
    refine r_isub dX11_would_60 h ?_
    refine r_iast dX11_would_61 (k_127 hS) (by decide) (by decide) ?_
    refine r_iload dX11_would_62 rfl ?_
    exact s_iret dX11_would_64 rfl k
  · have k := k.2 h
    refine r_ldcw dX11_would_16 ct_X11_386 ⟨by decide, by decide⟩ ?_
    exact s_iret dX11_would_19 rfl k
theorem e_X11_worst {S : ShT} {σ : StT} {Q : Int → StT → Prop} (hS : SHP S) (k : WPs mX11_isAsked [vR 125, vI 1] S σ (fun r2 s2 => (¬ r2 = 0 → WPs mX11_laysAside [vR 125] S s2 (fun r18 s18 => AWs mX11_worst 23 [(0, vR 125), (1, vI (-2)), (2, vI 1000000), (3, vI 0)] [] S s18 Q)) ∧ (r2 = 0 → Q (-1) s2))) : WPs mX11_worst [vR 125] S σ Q := by
  refine s_entry (by decide) (Nat.le_of_ble_eq_true rfl) rfl rfl ?_
  refine r_aload_n dX11_worst_0 rfl ?_
  refine r_iconst dX11_worst_1 ⟨by decide, by decide⟩ ?_
  refine s_callVv (z := mX11_isAsked) [vI 1] dX11_worst_2 mv_X11_isAsked lk_X11_318 rfl (by decide) (k_125 hS) (Nat.le_of_ble_eq_true rfl) (WPs.mono k (fun r2 s2 k => ?_))
  refine r_if_ne (tgt := 10) dX11_worst_5 rfl (fun h => ?_) (fun h => ?_)
  · have k := k.1 h
    refine r_bipush dX11_worst_10 (by decide +kernel) ⟨by decide, by decide⟩ ?_
    refine r_istore_n dX11_worst_12 (by decide) rfl rfl ?_
    refine r_ldcw dX11_worst_13 ct_X11_283 ⟨by decide, by decide⟩ ?_
    refine r_istore_n dX11_worst_16 (by decide) rfl rfl ?_
    refine r_aload_n dX11_worst_17 rfl ?_
    refine s_callVv (z := mX11_laysAside) [] dX11_worst_18 mv_X11_laysAside lk_X11_364 rfl (by decide) (k_125 hS) (Nat.le_of_ble_eq_true rfl) (WPs.mono k (fun r18 s18 k => ?_))
    refine r_iconst dX11_worst_21 ⟨by decide, by decide⟩ ?_
    refine r_istore_n dX11_worst_22 (by decide) rfl rfl ?_
    exact k
  · have k := k.2 h
    refine r_iconst dX11_worst_8 ⟨by decide, by decide⟩ ?_
    exact s_iret dX11_worst_9 rfl k
theorem t_X11_worst_23 {v1 v2 v3 : Int} {S : ShT} {σ : StT} {Q : Int → StT → Prop} (hS : SHP S) (k : (σ 129 2 ≤ v3 → Q v1 σ) ∧ (¬ (σ 129 2 ≤ v3) → WPs mX11_leaves [vR 125, vI v3] S σ (fun r35 s35 => WPs mX11_reckons [vR 125] S s35 (fun r39 s39 => (v2 ≤ s39 125 50 → WPs mX11_takesBack [vR 125] S s39 (fun r58 s58 => inR (v3 + 1) ∧ AWs mX11_worst 23 [(0, vR 125), (1, vI v1), (2, vI v2), (3, vI (v3 + 1))] [] S s58 Q)) ∧ (¬ (v2 ≤ s39 125 50) → WPs mX11_takesBack [vR 125] S s39 (fun r58 s58 => inR (v3 + 1) ∧ AWs mX11_worst 23 [(0, vR 125), (1, vI v3), (2, vI (s39 125 50)), (3, vI (v3 + 1))] [] S s58 Q)))))) : AWs mX11_worst 23 [(0, vR 125), (1, vI v1), (2, vI v2), (3, vI v3)] [] S σ Q := by
  refine r_iload_n dX11_worst_23 rfl ?_
  refine r_aload_n dX11_worst_24 rfl ?_
  refine r_getRv dX11_worst_25 fl_X11_23 rfl (k_125 hS) (f_125_8 hS) (by decide) ?_
  refine r_iconst dX11_worst_28 ⟨by decide, by decide⟩ ?_
  refine r_iald dX11_worst_29 (Or.inl (k_129 hS)) (by decide) (by decide) ?_
  refine r_icmp_ge (tgt := 67) dX11_worst_30 rfl (fun h => ?_) (fun h => ?_)
  · have k := k.1 h
    refine r_iload_n dX11_worst_67 rfl ?_
    exact s_iret dX11_worst_68 rfl k
  · have k := k.2 h
    refine r_aload_n dX11_worst_33 rfl ?_
    refine r_iload_n dX11_worst_34 rfl ?_
    refine s_callVv (z := mX11_leaves) [vI v3] dX11_worst_35 mv_X11_leaves lk_X11_417 rfl (by decide) (k_125 hS) (Nat.le_of_ble_eq_true rfl) (WPs.mono k (fun r35 s35 k => ?_))
    refine r_aload_n dX11_worst_38 rfl ?_
    refine s_callVv (z := mX11_reckons) [] dX11_worst_39 mv_X11_reckons lk_X11_311 rfl (by decide) (k_125 hS) (Nat.le_of_ble_eq_true rfl) (WPs.mono k (fun r39 s39 k => ?_))
    refine r_aload_n dX11_worst_42 rfl ?_
    refine r_getIv dX11_worst_43 fl_X11_296 rfl (k_125 hS) ?_
    refine r_iload_n dX11_worst_46 rfl ?_
    refine r_icmp_ge (tgt := 57) dX11_worst_47 rfl (fun h => ?_) (fun h => ?_)
    · have k := k.1 h
      refine r_aload_n dX11_worst_57 rfl ?_
      refine s_callVv (z := mX11_takesBack) [] dX11_worst_58 mv_X11_takesBack lk_X11_367 rfl (by decide) (k_125 hS) (Nat.le_of_ble_eq_true rfl) (WPs.mono k (fun r58 s58 k => ?_))
      obtain ⟨h, k⟩ := k
      refine r_iinc dX11_worst_61 rfl (by decide) rfl rfl h ?_
      refine r_goto (tgt := 23) dX11_worst_64 rfl ?_
      exact k
    · have k := k.2 h
      refine r_aload_n dX11_worst_50 rfl ?_
      refine r_getIv dX11_worst_51 fl_X11_296 rfl (k_125 hS) ?_
      refine r_istore_n dX11_worst_54 (by decide) rfl rfl ?_
      refine r_iload_n dX11_worst_55 rfl ?_
      refine r_istore_n dX11_worst_56 (by decide) rfl rfl ?_
      refine r_aload_n dX11_worst_57 rfl ?_
      refine s_callVv (z := mX11_takesBack) [] dX11_worst_58 mv_X11_takesBack lk_X11_367 rfl (by decide) (k_125 hS) (Nat.le_of_ble_eq_true rfl) (WPs.mono k (fun r58 s58 k => ?_))
      obtain ⟨h, k⟩ := k
      refine r_iinc dX11_worst_61 rfl (by decide) rfl rfl h ?_
      refine r_goto (tgt := 23) dX11_worst_64 rfl ?_
      exact k
theorem e_X11_trailsBy {v1 : Int} {S : ShT} {σ : StT} {Q : Int → StT → Prop} (hS : SHP S) (k : WPs mX11_reckons [vR 125] S (up2 σ 127 1 v1) (fun r15 s15 => Q (s15 125 50) (up2 s15 127 1 (σ 127 1)))) : WPs mX11_trailsBy [vR 125, vI v1] S σ Q := by
  refine s_entry (by decide) (Nat.le_of_ble_eq_true rfl) rfl rfl ?_
  refine r_aload_n dX11_trailsBy_0 rfl ?_
  refine r_getRv dX11_trailsBy_1 fl_X11_17 rfl (k_125 hS) (f_125_6 hS) (by decide) ?_
  refine r_iconst dX11_trailsBy_4 ⟨by decide, by decide⟩ ?_
  refine r_iald dX11_trailsBy_5 (Or.inl (k_127 hS)) (by decide) (by decide) ?_
  refine r_istore_n dX11_trailsBy_6 (by decide) rfl rfl ?_
  refine r_aload_n dX11_trailsBy_7 rfl ?_
  refine r_getRv dX11_trailsBy_8 fl_X11_17 rfl (k_125 hS) (f_125_6 hS) (by decide) ?_
  refine r_iconst dX11_trailsBy_11 ⟨by decide, by decide⟩ ?_
  refine r_iload_n dX11_trailsBy_12 rfl ?_
  refine r_iast dX11_trailsBy_13 (k_127 hS) (by decide) (by decide) ?_
  refine r_aload_n dX11_trailsBy_14 rfl ?_
  refine s_callVv (z := mX11_reckons) [] dX11_trailsBy_15 mv_X11_reckons lk_X11_311 rfl (by decide) (k_125 hS) (Nat.le_of_ble_eq_true rfl) (WPs.mono k (fun r15 s15 k => ?_))
  refine r_aload_n dX11_trailsBy_18 rfl ?_
  refine r_getRv dX11_trailsBy_19 fl_X11_17 rfl (k_125 hS) (f_125_6 hS) (by decide) ?_
  refine r_iconst dX11_trailsBy_22 ⟨by decide, by decide⟩ ?_
  refine r_iload_n dX11_trailsBy_23 rfl ?_
  refine r_iast dX11_trailsBy_24 (k_127 hS) (by decide) (by decide) ?_
  refine r_aload_n dX11_trailsBy_25 rfl ?_
  refine r_getIv dX11_trailsBy_26 fl_X11_296 rfl (k_125 hS) ?_
  refine r_top (up2_a (by decide)) ?_
  exact s_iret dX11_trailsBy_29 rfl k
theorem e_X11_nearest {S : ShT} {σ : StT} {Q : Int → StT → Prop} (hS : SHP S) (k : WPs mX11_isAsked [vR 125, vI 1] S σ (fun r2 s2 => (¬ r2 = 0 → AWs mX11_nearest 18 [(0, vR 125), (1, vI 0), (2, vI 1000000), (3, vI 0)] [] S s2 Q) ∧ (r2 = 0 → Q (-1) s2))) : WPs mX11_nearest [vR 125] S σ Q := by
  refine s_entry (by decide) (Nat.le_of_ble_eq_true rfl) rfl rfl ?_
  refine r_aload_n dX11_nearest_0 rfl ?_
  refine r_iconst dX11_nearest_1 ⟨by decide, by decide⟩ ?_
  refine s_callVv (z := mX11_isAsked) [vI 1] dX11_nearest_2 mv_X11_isAsked lk_X11_318 rfl (by decide) (k_125 hS) (Nat.le_of_ble_eq_true rfl) (WPs.mono k (fun r2 s2 k => ?_))
  refine r_if_ne (tgt := 10) dX11_nearest_5 rfl (fun h => ?_) (fun h => ?_)
  · have k := k.1 h
    refine r_iconst dX11_nearest_10 ⟨by decide, by decide⟩ ?_
    refine r_istore_n dX11_nearest_11 (by decide) rfl rfl ?_
    refine r_ldcw dX11_nearest_12 ct_X11_283 ⟨by decide, by decide⟩ ?_
    refine r_istore_n dX11_nearest_15 (by decide) rfl rfl ?_
    refine r_iconst dX11_nearest_16 ⟨by decide, by decide⟩ ?_
    refine r_istore_n dX11_nearest_17 (by decide) rfl rfl ?_
    exact k
  · have k := k.2 h
    refine r_iconst dX11_nearest_8 ⟨by decide, by decide⟩ ?_
    exact s_iret dX11_nearest_9 rfl k
theorem t_X11_nearest_18 {v1 v2 v3 : Int} {S : ShT} {σ : StT} {Q : Int → StT → Prop} (hS : SHP S) (k : (50 < v3 → Q v1 σ) ∧ (¬ (50 < v3) → WPs mX11_trailsBy [vR 125, vI v3] S σ (fun r26 s26 => (v2 ≤ r26 → (v2 ≤ r26 → inR (v3 + 1) ∧ AWs mX11_nearest 18 [(0, vR 125), (1, vI v1), (2, vI v2), (3, vI (v3 + 1))] [] S s26 Q) ∧ (¬ (v2 ≤ r26) → inR (v3 + 1) ∧ AWs mX11_nearest 18 [(0, vR 125), (1, vI v1), (2, vI r26), (3, vI (v3 + 1))] [] S s26 Q)) ∧ (¬ (v2 ≤ r26) → (v2 ≤ r26 → inR (v3 + 1) ∧ AWs mX11_nearest 18 [(0, vR 125), (1, vI v3), (2, vI v2), (3, vI (v3 + 1))] [] S s26 Q) ∧ (¬ (v2 ≤ r26) → inR (v3 + 1) ∧ AWs mX11_nearest 18 [(0, vR 125), (1, vI v3), (2, vI r26), (3, vI (v3 + 1))] [] S s26 Q))))) : AWs mX11_nearest 18 [(0, vR 125), (1, vI v1), (2, vI v2), (3, vI v3)] [] S σ Q := by
  refine r_iload_n dX11_nearest_18 rfl ?_
  refine r_bipush dX11_nearest_19 (by decide +kernel) ⟨by decide, by decide⟩ ?_
  refine r_icmp_gt (tgt := 62) dX11_nearest_21 rfl (fun h => ?_) (fun h => ?_)
  · have k := k.1 h
    refine r_iload_n dX11_nearest_62 rfl ?_
    exact s_iret dX11_nearest_63 rfl k
  · have k := k.2 h
    refine r_aload_n dX11_nearest_24 rfl ?_
    refine r_iload_n dX11_nearest_25 rfl ?_
    refine s_callVv (z := mX11_trailsBy) [vI v3] dX11_nearest_26 mv_X11_trailsBy lk_X11_420 rfl (by decide) (k_125 hS) (Nat.le_of_ble_eq_true rfl) (WPs.mono k (fun r26 s26 k => ?_))
    refine r_istore dX11_nearest_29 (by decide) rfl rfl ?_
    refine r_iload dX11_nearest_31 rfl ?_
    refine r_iload_n dX11_nearest_33 rfl ?_
    refine r_icmp_ge (tgt := 41) dX11_nearest_34 rfl (fun h => ?_) (fun h => ?_)
    · have k := k.1 h
      refine r_iload_n dX11_nearest_41 rfl ?_
      refine r_istore_n dX11_nearest_42 (by decide) rfl rfl ?_
      refine r_iload dX11_nearest_43 rfl ?_
      refine r_iload_n dX11_nearest_45 rfl ?_
      refine r_icmp_ge (tgt := 54) dX11_nearest_46 rfl (fun h => ?_) (fun h => ?_)
      · have k := k.1 h
        refine r_iload_n dX11_nearest_54 rfl ?_
        refine r_istore_n dX11_nearest_55 (by decide) rfl rfl ?_
        obtain ⟨h, k⟩ := k
        refine r_iinc dX11_nearest_56 rfl (by decide) rfl rfl h ?_
        refine r_goto (tgt := 18) dX11_nearest_59 rfl ?_
        refine r_loc [0, 1, 2, 3] rfl ?_
        exact k
      · have k := k.2 h
        refine r_iload dX11_nearest_49 rfl ?_
        refine r_goto (tgt := 55) dX11_nearest_51 rfl ?_
        refine r_istore_n dX11_nearest_55 (by decide) rfl rfl ?_
        obtain ⟨h, k⟩ := k
        refine r_iinc dX11_nearest_56 rfl (by decide) rfl rfl h ?_
        refine r_goto (tgt := 18) dX11_nearest_59 rfl ?_
        refine r_loc [0, 1, 2, 3] rfl ?_
        exact k
    · have k := k.2 h
      refine r_iload_n dX11_nearest_37 rfl ?_
      refine r_goto (tgt := 42) dX11_nearest_38 rfl ?_
      refine r_istore_n dX11_nearest_42 (by decide) rfl rfl ?_
      refine r_iload dX11_nearest_43 rfl ?_
      refine r_iload_n dX11_nearest_45 rfl ?_
      refine r_icmp_ge (tgt := 54) dX11_nearest_46 rfl (fun h => ?_) (fun h => ?_)
      · have k := k.1 h
        refine r_iload_n dX11_nearest_54 rfl ?_
        refine r_istore_n dX11_nearest_55 (by decide) rfl rfl ?_
        obtain ⟨h, k⟩ := k
        refine r_iinc dX11_nearest_56 rfl (by decide) rfl rfl h ?_
        refine r_goto (tgt := 18) dX11_nearest_59 rfl ?_
        refine r_loc [0, 1, 2, 3] rfl ?_
        exact k
      · have k := k.2 h
        refine r_iload dX11_nearest_49 rfl ?_
        refine r_goto (tgt := 55) dX11_nearest_51 rfl ?_
        refine r_istore_n dX11_nearest_55 (by decide) rfl rfl ?_
        obtain ⟨h, k⟩ := k
        refine r_iinc dX11_nearest_56 rfl (by decide) rfl rfl h ?_
        refine r_goto (tgt := 18) dX11_nearest_59 rfl ?_
        refine r_loc [0, 1, 2, 3] rfl ?_
        exact k
theorem e_X11_enough {v1 : Int} {S : ShT} {σ : StT} {Q : Int → StT → Prop} (hS : SHP S) (k : WPs mX11_in [vI v1, vI 1, vI 24] S σ (fun r9 s9 => WPs mX11_unless_ [vI (σ 125 11), vI r9] S s9 (fun r12 s12 => WPs mX11_isRefused [vR 125, vI r12] S s12 (fun r15 s15 => (r15 = 0 → AWs mX11_enough 25 [(0, vR 125), (1, vI v1), (2, vI 0)] [] S s15 Q) ∧ (¬ (r15 = 0) → Q (-1) s15))))) : WPs mX11_enough [vR 125, vI v1] S σ Q := by
  refine s_entry (by decide) (Nat.le_of_ble_eq_true rfl) rfl rfl ?_
  refine r_aload_n dX11_enough_0 rfl ?_
  refine r_aload_n dX11_enough_1 rfl ?_
  refine r_getIv dX11_enough_2 fl_X11_223 rfl (k_125 hS) ?_
  refine r_iload_n dX11_enough_5 rfl ?_
  refine r_iconst dX11_enough_6 ⟨by decide, by decide⟩ ?_
  refine r_bipush dX11_enough_7 (by decide +kernel) ⟨by decide, by decide⟩ ?_
  refine s_callS (z := mX11_in) [vI v1, vI 1, vI 24] dX11_enough_9 ms_X11_in lk_X11_128 rfl (by decide) (Nat.le_of_ble_eq_true rfl) (WPs.mono k (fun r9 s9 k => ?_))
  refine s_callS (z := mX11_unless_) [vI (σ 125 11), vI r9] dX11_enough_12 ms_X11_unless_ lk_X11_423 rfl (by decide) (Nat.le_of_ble_eq_true rfl) (WPs.mono k (fun r12 s12 k => ?_))
  refine s_callVv (z := mX11_isRefused) [vI r12] dX11_enough_15 mv_X11_isRefused lk_X11_207 rfl (by decide) (k_125 hS) (Nat.le_of_ble_eq_true rfl) (WPs.mono k (fun r15 s15 k => ?_))
  refine r_if_eq (tgt := 23) dX11_enough_18 rfl (fun h => ?_) (fun h => ?_)
  · have k := k.1 h
    refine r_iconst dX11_enough_23 ⟨by decide, by decide⟩ ?_
    refine r_istore_n dX11_enough_24 (by decide) rfl rfl ?_
    exact k
  · have k := k.2 h
    refine r_iconst dX11_enough_21 ⟨by decide, by decide⟩ ?_
    exact s_iret dX11_enough_22 rfl k
theorem t_X11_enough_25 {v1 v2 : Int} {S : ShT} {σ : StT} {Q : Int → StT → Prop} (hS : SHP S) (k : (50 < v2 → Q (-2) σ) ∧ (¬ (50 < v2) → WPs mX11_trailsBy [vR 125, vI v2] S σ (fun r33 s33 => (v1 < r33 → inR (v2 + 1) ∧ AWs mX11_enough 25 [(0, vR 125), (1, vI v1), (2, vI (v2 + 1))] [] S s33 Q) ∧ (¬ (v1 < r33) → Q v2 s33)))) : AWs mX11_enough 25 [(0, vR 125), (1, vI v1), (2, vI v2)] [] S σ Q := by
  refine r_iload_n dX11_enough_25 rfl ?_
  refine r_bipush dX11_enough_26 (by decide +kernel) ⟨by decide, by decide⟩ ?_
  refine r_icmp_gt (tgt := 48) dX11_enough_28 rfl (fun h => ?_) (fun h => ?_)
  · have k := k.1 h
    refine r_bipush dX11_enough_48 (by decide +kernel) ⟨by decide, by decide⟩ ?_
    exact s_iret dX11_enough_50 rfl k
  · have k := k.2 h
    refine r_aload_n dX11_enough_31 rfl ?_
    refine r_iload_n dX11_enough_32 rfl ?_
    refine s_callVv (z := mX11_trailsBy) [vI v2] dX11_enough_33 mv_X11_trailsBy lk_X11_420 rfl (by decide) (k_125 hS) (Nat.le_of_ble_eq_true rfl) (WPs.mono k (fun r33 s33 k => ?_))
    refine r_iload_n dX11_enough_36 rfl ?_
    refine r_icmp_gt (tgt := 42) dX11_enough_37 rfl (fun h => ?_) (fun h => ?_)
    · have k := k.1 h
      obtain ⟨h, k⟩ := k
      refine r_iinc dX11_enough_42 rfl (by decide) rfl rfl h ?_
      refine r_goto (tgt := 25) dX11_enough_45 rfl ?_
      exact k
    · have k := k.2 h
      refine r_iload_n dX11_enough_40 rfl ?_
      exact s_iret dX11_enough_41 rfl k
theorem e_X11_keeps {S : ShT} {σ : StT} {Q : Int → StT → Prop} (hS : SHP S) (k : (¬ σ 125 10 = 10 → AWs mX11_keeps 50 [(0, vR 125)] [] S σ Q) ∧ (σ 125 10 = 10 → AWs mX11_keeps 11 [(0, vR 125), (1, vI 0)] [] S σ Q)) : WPs mX11_keeps [vR 125] S σ Q := by
  refine s_entry (by decide) (Nat.le_of_ble_eq_true rfl) rfl rfl ?_
  refine r_aload_n dX11_keeps_0 rfl ?_
  refine r_getIv dX11_keeps_1 fl_X11_226 rfl (k_125 hS) ?_
  refine r_bipush dX11_keeps_4 (by decide +kernel) ⟨by decide, by decide⟩ ?_
  refine r_icmp_ne (tgt := 50) dX11_keeps_6 rfl (fun h => ?_) (fun h => ?_)
  · have k := k.1 h
    exact k
  · have k := k.2 h
    refine r_iconst dX11_keeps_9 ⟨by decide, by decide⟩ ?_
    refine r_istore_n dX11_keeps_10 (by decide) rfl rfl ?_
    exact k
theorem t_X11_keeps_11 {v1 : Int} {S : ShT} {σ : StT} {Q : Int → StT → Prop} (hS : SHP S) (k : (1368 ≤ v1 → inR ((σ 125 10) - 1) ∧ AWs mX11_keeps 50 [(0, vR 125)] [] S (up2 σ 125 10 ((σ 125 10) - 1)) Q) ∧ (¬ (1368 ≤ v1) → inR (v1 + 152) ∧ (0 ≤ v1 + 152 ∧ v1 + 152 < 1520) ∧ (0 ≤ v1 ∧ v1 < 1520) ∧ inR (v1 + 1) ∧ AWs mX11_keeps 11 [(0, vR 125), (1, vI (v1 + 1))] [] S (up2 σ 130 v1.toNat (σ 130 (v1 + 152).toNat)) Q)) : AWs mX11_keeps 11 [(0, vR 125), (1, vI v1)] [] S σ Q := by
  refine r_iload_n dX11_keeps_11 rfl ?_
  refine r_sipush dX11_keeps_12 (by decide +kernel) ⟨by decide, by decide⟩ ?_
  refine r_icmp_ge (tgt := 40) dX11_keeps_15 rfl (fun h => ?_) (fun h => ?_)
  · have k := k.1 h
    refine r_aload_n dX11_keeps_40 rfl ?_
    refine r_dup dX11_keeps_41 rfl ?_
    refine r_getIv dX11_keeps_42 fl_X11_226 rfl (k_125 hS) ?_
    refine r_iconst dX11_keeps_45 ⟨by decide, by decide⟩ ?_
    obtain ⟨h, k⟩ := k
    refine r_isub dX11_keeps_46 h ?_
    refine r_putIv dX11_keeps_47 fl_X11_226 (fun _ h => by cases h; rfl) (Or.inl rfl) (k_125 hS) ?_
    refine r_loc [0] rfl ?_
    exact k
  · have k := k.2 h
    refine r_aload_n dX11_keeps_18 rfl ?_
    refine r_getRv dX11_keeps_19 fl_X11_26 rfl (k_125 hS) (f_125_9 hS) (by decide) ?_
    refine r_iload_n dX11_keeps_22 rfl ?_
    refine r_aload_n dX11_keeps_23 rfl ?_
    refine r_getRv dX11_keeps_24 fl_X11_26 rfl (k_125 hS) (f_125_9 hS) (by decide) ?_
    refine r_iload_n dX11_keeps_27 rfl ?_
    refine r_sipush dX11_keeps_28 (by decide +kernel) ⟨by decide, by decide⟩ ?_
    obtain ⟨h, k⟩ := k
    refine r_iadd dX11_keeps_31 h ?_
    obtain ⟨⟨h0, h1⟩, k⟩ := k
    refine r_iald dX11_keeps_32 (Or.inl (k_130 hS)) h0 h1 ?_
    obtain ⟨⟨h0, h1⟩, k⟩ := k
    refine r_iast dX11_keeps_33 (k_130 hS) h0 h1 ?_
    obtain ⟨h, k⟩ := k
    refine r_iinc dX11_keeps_34 rfl (by decide) rfl rfl h ?_
    refine r_goto (tgt := 11) dX11_keeps_37 rfl ?_
    exact k
theorem t_X11_keeps_50 {S : ShT} {σ : StT} {Q : Int → StT → Prop} (hS : SHP S) (k : inR (152 * (σ 125 10)) ∧ WPs mX11_copies [vR 127, vI 0, vR 130, vI (152 * (σ 125 10))] S σ (fun r67 s67 => inR ((s67 125 10) + 1) ∧ Q 0 (up2 s67 125 10 ((s67 125 10) + 1)))) : AWs mX11_keeps 50 [(0, vR 125)] [] S σ Q := by
  refine r_aload_n dX11_keeps_50 rfl ?_
  refine r_getRv dX11_keeps_51 fl_X11_17 rfl (k_125 hS) (f_125_6 hS) (by decide) ?_
  refine r_iconst dX11_keeps_54 ⟨by decide, by decide⟩ ?_
  refine r_aload_n dX11_keeps_55 rfl ?_
  refine r_getRv dX11_keeps_56 fl_X11_26 rfl (k_125 hS) (f_125_9 hS) (by decide) ?_
  refine r_sipush dX11_keeps_59 (by decide +kernel) ⟨by decide, by decide⟩ ?_
  refine r_aload_n dX11_keeps_62 rfl ?_
  refine r_getIv dX11_keeps_63 fl_X11_226 rfl (k_125 hS) ?_
  obtain ⟨h, k⟩ := k
  refine r_imul dX11_keeps_66 h ?_
  refine s_callS (z := mX11_copies) [vR 127, vI 0, vR 130, vI (152 * (σ 125 10))] dX11_keeps_67 ms_X11_copies lk_X11_219 rfl (by decide) (Nat.le_of_ble_eq_true rfl) (WPs.mono k (fun r67 s67 k => ?_))
  refine r_aload_n dX11_keeps_70 rfl ?_
  refine r_dup dX11_keeps_71 rfl ?_
  refine r_getIv dX11_keeps_72 fl_X11_226 rfl (k_125 hS) ?_
  refine r_iconst dX11_keeps_75 ⟨by decide, by decide⟩ ?_
  obtain ⟨h, k⟩ := k
  refine r_iadd dX11_keeps_76 h ?_
  refine r_putIv dX11_keeps_77 fl_X11_226 (fun _ h => by cases h; rfl) (Or.inl rfl) (k_125 hS) ?_
  exact s_vret dX11_keeps_80 rfl k
theorem e_X11_add {v1 v2 v3 v4 : Int} {S : ShT} {σ : StT} {Q : Int → StT → Prop} (hS : SHP S) (k : WPs mX11_strokeWhy [vR 125, vI v1, vI v2, vI v3, vI v4] S σ (fun r7 s7 => WPs mX11_isRefused [vR 125, vI r7] S s7 (fun r10 s10 => (r10 = 0 → WPs mX11_keeps [vR 125] S s10 (fun r19 s19 => WPs mX11_comes [vR 125, vI v1, vI v2, vI v3, vI v4] S s19 (fun r28 s28 => WPs mX11_plansAnew [vR 125] S s28 (fun r32 s32 => Q (s32 127 2) s32)))) ∧ (¬ (r10 = 0) → Q (-1) s10)))) : WPs mX11_add [vR 125, vI v1, vI v2, vI v3, vI v4] S σ Q := by
  refine s_entry (by decide) (Nat.le_of_ble_eq_true rfl) rfl rfl ?_
  refine r_aload_n dX11_add_0 rfl ?_
  refine r_aload_n dX11_add_1 rfl ?_
  refine r_iload_n dX11_add_2 rfl ?_
  refine r_iload_n dX11_add_3 rfl ?_
  refine r_iload_n dX11_add_4 rfl ?_
  refine r_iload dX11_add_5 rfl ?_
  refine s_callVv (z := mX11_strokeWhy) [vI v1, vI v2, vI v3, vI v4] dX11_add_7 mv_X11_strokeWhy lk_X11_409 rfl (by decide) (k_125 hS) (Nat.le_of_ble_eq_true rfl) (WPs.mono k (fun r7 s7 k => ?_))
  refine s_callVv (z := mX11_isRefused) [vI r7] dX11_add_10 mv_X11_isRefused lk_X11_207 rfl (by decide) (k_125 hS) (Nat.le_of_ble_eq_true rfl) (WPs.mono k (fun r10 s10 k => ?_))
  refine r_if_eq (tgt := 18) dX11_add_13 rfl (fun h => ?_) (fun h => ?_)
  · have k := k.1 h
    refine r_aload_n dX11_add_18 rfl ?_
    refine s_callVv (z := mX11_keeps) [] dX11_add_19 mv_X11_keeps lk_X11_426 rfl (by decide) (k_125 hS) (Nat.le_of_ble_eq_true rfl) (WPs.mono k (fun r19 s19 k => ?_))
    refine r_aload_n dX11_add_22 rfl ?_
    refine r_iload_n dX11_add_23 rfl ?_
    refine r_iload_n dX11_add_24 rfl ?_
    refine r_iload_n dX11_add_25 rfl ?_
    refine r_iload dX11_add_26 rfl ?_
    refine s_callVv (z := mX11_comes) [vI v1, vI v2, vI v3, vI v4] dX11_add_28 mv_X11_comes lk_X11_413 rfl (by decide) (k_125 hS) (Nat.le_of_ble_eq_true rfl) (WPs.mono k (fun r28 s28 k => ?_))
    refine r_aload_n dX11_add_31 rfl ?_
    refine s_callVv (z := mX11_plansAnew) [] dX11_add_32 mv_X11_plansAnew lk_X11_229 rfl (by decide) (k_125 hS) (Nat.le_of_ble_eq_true rfl) (WPs.mono k (fun r32 s32 k => ?_))
    refine r_aload_n dX11_add_35 rfl ?_
    refine r_getRv dX11_add_36 fl_X11_17 rfl (k_125 hS) (f_125_6 hS) (by decide) ?_
    refine r_iconst dX11_add_39 ⟨by decide, by decide⟩ ?_
    refine r_iald dX11_add_40 (Or.inl (k_127 hS)) (by decide) (by decide) ?_
    exact s_iret dX11_add_41 rfl k
  · have k := k.2 h
    refine r_iconst dX11_add_16 ⟨by decide, by decide⟩ ?_
    exact s_iret dX11_add_17 rfl k
theorem e_X11_drop {v1 : Int} {S : ShT} {σ : StT} {Q : Int → StT → Prop} (hS : SHP S) (k : (σ 125 11 = 0 → WPs mX11_unless [vI 0] S σ (fun r29 s29 => WPs mX11_isRefused [vR 125, vI r29] S s29 (fun r32 s32 => (r32 = 0 → WPs mX11_keeps [vR 125] S s32 (fun r41 s41 => WPs mX11_leaves [vR 125, vI v1] S s41 (fun r46 s46 => WPs mX11_plansAnew [vR 125] S s46 (fun r50 s50 => Q (s50 127 2) s50)))) ∧ (¬ (r32 = 0) → Q (-1) s32)))) ∧ (¬ (σ 125 11 = 0) → inR ((σ 127 2) - 1) ∧ WPs mX11_in [vI v1, vI 0, vI ((σ 127 2) - 1)] S σ (fun r18 s18 => (r18 = 0 → WPs mX11_unless [vI 0] S s18 (fun r29 s29 => WPs mX11_isRefused [vR 125, vI r29] S s29 (fun r32 s32 => (r32 = 0 → WPs mX11_keeps [vR 125] S s32 (fun r41 s41 => WPs mX11_leaves [vR 125, vI v1] S s41 (fun r46 s46 => WPs mX11_plansAnew [vR 125] S s46 (fun r50 s50 => Q (s50 127 2) s50)))) ∧ (¬ (r32 = 0) → Q (-1) s32)))) ∧ (¬ (r18 = 0) → WPs mX11_unless [vI 1] S s18 (fun r29 s29 => WPs mX11_isRefused [vR 125, vI r29] S s29 (fun r32 s32 => (r32 = 0 → WPs mX11_keeps [vR 125] S s32 (fun r41 s41 => WPs mX11_leaves [vR 125, vI v1] S s41 (fun r46 s46 => WPs mX11_plansAnew [vR 125] S s46 (fun r50 s50 => Q (s50 127 2) s50)))) ∧ (¬ (r32 = 0) → Q (-1) s32))))))) : WPs mX11_drop [vR 125, vI v1] S σ Q := by
  refine s_entry (by decide) (Nat.le_of_ble_eq_true rfl) rfl rfl ?_
  refine r_aload_n dX11_drop_0 rfl ?_
  refine r_aload_n dX11_drop_1 rfl ?_
  refine r_getIv dX11_drop_2 fl_X11_223 rfl (k_125 hS) ?_
  refine r_if_eq (tgt := 28) dX11_drop_5 rfl (fun h => ?_) (fun h => ?_)
  · have k := k.1 h
    refine r_iconst dX11_drop_28 ⟨by decide, by decide⟩ ?_
    refine s_callS (z := mX11_unless) [vI 0] dX11_drop_29 ms_X11_unless lk_X11_314 rfl (by decide) (Nat.le_of_ble_eq_true rfl) (WPs.mono k (fun r29 s29 k => ?_))
    refine s_callVv (z := mX11_isRefused) [vI r29] dX11_drop_32 mv_X11_isRefused lk_X11_207 rfl (by decide) (k_125 hS) (Nat.le_of_ble_eq_true rfl) (WPs.mono k (fun r32 s32 k => ?_))
    refine r_if_eq (tgt := 40) dX11_drop_35 rfl (fun h => ?_) (fun h => ?_)
    · have k := k.1 h
      refine r_aload_n dX11_drop_40 rfl ?_
      refine s_callVv (z := mX11_keeps) [] dX11_drop_41 mv_X11_keeps lk_X11_426 rfl (by decide) (k_125 hS) (Nat.le_of_ble_eq_true rfl) (WPs.mono k (fun r41 s41 k => ?_))
      refine r_aload_n dX11_drop_44 rfl ?_
      refine r_iload_n dX11_drop_45 rfl ?_
      refine s_callVv (z := mX11_leaves) [vI v1] dX11_drop_46 mv_X11_leaves lk_X11_417 rfl (by decide) (k_125 hS) (Nat.le_of_ble_eq_true rfl) (WPs.mono k (fun r46 s46 k => ?_))
      refine r_aload_n dX11_drop_49 rfl ?_
      refine s_callVv (z := mX11_plansAnew) [] dX11_drop_50 mv_X11_plansAnew lk_X11_229 rfl (by decide) (k_125 hS) (Nat.le_of_ble_eq_true rfl) (WPs.mono k (fun r50 s50 k => ?_))
      refine r_aload_n dX11_drop_53 rfl ?_
      refine r_getRv dX11_drop_54 fl_X11_17 rfl (k_125 hS) (f_125_6 hS) (by decide) ?_
      refine r_iconst dX11_drop_57 ⟨by decide, by decide⟩ ?_
      refine r_iald dX11_drop_58 (Or.inl (k_127 hS)) (by decide) (by decide) ?_
      exact s_iret dX11_drop_59 rfl k
    · have k := k.2 h
      refine r_iconst dX11_drop_38 ⟨by decide, by decide⟩ ?_
      exact s_iret dX11_drop_39 rfl k
  · have k := k.2 h
    refine r_iload_n dX11_drop_8 rfl ?_
    refine r_iconst dX11_drop_9 ⟨by decide, by decide⟩ ?_
    refine r_aload_n dX11_drop_10 rfl ?_
    refine r_getRv dX11_drop_11 fl_X11_17 rfl (k_125 hS) (f_125_6 hS) (by decide) ?_
    refine r_iconst dX11_drop_14 ⟨by decide, by decide⟩ ?_
    refine r_iald dX11_drop_15 (Or.inl (k_127 hS)) (by decide) (by decide) ?_
    refine r_iconst dX11_drop_16 ⟨by decide, by decide⟩ ?_
    obtain ⟨h, k⟩ := k
    refine r_isub dX11_drop_17 h ?_
    refine s_callS (z := mX11_in) [vI v1, vI 0, vI ((σ 127 2) - 1)] dX11_drop_18 ms_X11_in lk_X11_128 rfl (by decide) (Nat.le_of_ble_eq_true rfl) (WPs.mono k (fun r18 s18 k => ?_))
    refine r_if_eq (tgt := 28) dX11_drop_21 rfl (fun h => ?_) (fun h => ?_)
    · have k := k.1 h
      refine r_iconst dX11_drop_28 ⟨by decide, by decide⟩ ?_
      refine s_callS (z := mX11_unless) [vI 0] dX11_drop_29 ms_X11_unless lk_X11_314 rfl (by decide) (Nat.le_of_ble_eq_true rfl) (WPs.mono k (fun r29 s29 k => ?_))
      refine s_callVv (z := mX11_isRefused) [vI r29] dX11_drop_32 mv_X11_isRefused lk_X11_207 rfl (by decide) (k_125 hS) (Nat.le_of_ble_eq_true rfl) (WPs.mono k (fun r32 s32 k => ?_))
      refine r_if_eq (tgt := 40) dX11_drop_35 rfl (fun h => ?_) (fun h => ?_)
      · have k := k.1 h
        refine r_aload_n dX11_drop_40 rfl ?_
        refine s_callVv (z := mX11_keeps) [] dX11_drop_41 mv_X11_keeps lk_X11_426 rfl (by decide) (k_125 hS) (Nat.le_of_ble_eq_true rfl) (WPs.mono k (fun r41 s41 k => ?_))
        refine r_aload_n dX11_drop_44 rfl ?_
        refine r_iload_n dX11_drop_45 rfl ?_
        refine s_callVv (z := mX11_leaves) [vI v1] dX11_drop_46 mv_X11_leaves lk_X11_417 rfl (by decide) (k_125 hS) (Nat.le_of_ble_eq_true rfl) (WPs.mono k (fun r46 s46 k => ?_))
        refine r_aload_n dX11_drop_49 rfl ?_
        refine s_callVv (z := mX11_plansAnew) [] dX11_drop_50 mv_X11_plansAnew lk_X11_229 rfl (by decide) (k_125 hS) (Nat.le_of_ble_eq_true rfl) (WPs.mono k (fun r50 s50 k => ?_))
        refine r_aload_n dX11_drop_53 rfl ?_
        refine r_getRv dX11_drop_54 fl_X11_17 rfl (k_125 hS) (f_125_6 hS) (by decide) ?_
        refine r_iconst dX11_drop_57 ⟨by decide, by decide⟩ ?_
        refine r_iald dX11_drop_58 (Or.inl (k_127 hS)) (by decide) (by decide) ?_
        exact s_iret dX11_drop_59 rfl k
      · have k := k.2 h
        refine r_iconst dX11_drop_38 ⟨by decide, by decide⟩ ?_
        exact s_iret dX11_drop_39 rfl k
    · have k := k.2 h
      refine r_iconst dX11_drop_24 ⟨by decide, by decide⟩ ?_
      refine r_goto (tgt := 29) dX11_drop_25 rfl ?_
      refine s_callS (z := mX11_unless) [vI 1] dX11_drop_29 ms_X11_unless lk_X11_314 rfl (by decide) (Nat.le_of_ble_eq_true rfl) (WPs.mono k (fun r29 s29 k => ?_))
      refine s_callVv (z := mX11_isRefused) [vI r29] dX11_drop_32 mv_X11_isRefused lk_X11_207 rfl (by decide) (k_125 hS) (Nat.le_of_ble_eq_true rfl) (WPs.mono k (fun r32 s32 k => ?_))
      refine r_if_eq (tgt := 40) dX11_drop_35 rfl (fun h => ?_) (fun h => ?_)
      · have k := k.1 h
        refine r_aload_n dX11_drop_40 rfl ?_
        refine s_callVv (z := mX11_keeps) [] dX11_drop_41 mv_X11_keeps lk_X11_426 rfl (by decide) (k_125 hS) (Nat.le_of_ble_eq_true rfl) (WPs.mono k (fun r41 s41 k => ?_))
        refine r_aload_n dX11_drop_44 rfl ?_
        refine r_iload_n dX11_drop_45 rfl ?_
        refine s_callVv (z := mX11_leaves) [vI v1] dX11_drop_46 mv_X11_leaves lk_X11_417 rfl (by decide) (k_125 hS) (Nat.le_of_ble_eq_true rfl) (WPs.mono k (fun r46 s46 k => ?_))
        refine r_aload_n dX11_drop_49 rfl ?_
        refine s_callVv (z := mX11_plansAnew) [] dX11_drop_50 mv_X11_plansAnew lk_X11_229 rfl (by decide) (k_125 hS) (Nat.le_of_ble_eq_true rfl) (WPs.mono k (fun r50 s50 k => ?_))
        refine r_aload_n dX11_drop_53 rfl ?_
        refine r_getRv dX11_drop_54 fl_X11_17 rfl (k_125 hS) (f_125_6 hS) (by decide) ?_
        refine r_iconst dX11_drop_57 ⟨by decide, by decide⟩ ?_
        refine r_iald dX11_drop_58 (Or.inl (k_127 hS)) (by decide) (by decide) ?_
        exact s_iret dX11_drop_59 rfl k
      · have k := k.2 h
        refine r_iconst dX11_drop_38 ⟨by decide, by decide⟩ ?_
        exact s_iret dX11_drop_39 rfl k
theorem e_X11_home {v1 v2 : Int} {S : ShT} {σ : StT} {Q : Int → StT → Prop} (hS : SHP S) (k : WPs mX11_isPoint [vR 125, vI v1, vI v2] S σ (fun r8 s8 => WPs mX11_unless_ [vI (σ 125 11), vI r8] S s8 (fun r11 s11 => WPs mX11_isRefused [vR 125, vI r11] S s11 (fun r14 s14 => (r14 = 0 → WPs mX11_keeps [vR 125] S s14 (fun r23 s23 => WPs mX11_reckons [vR 125] S (up2 (up2 s23 127 3 v1) 127 4 v2) (fun r41 s41 => WPs mX11_leaps [vR 125] S s41 (fun r45 s45 => Q r45 s45)))) ∧ (¬ (r14 = 0) → Q (-1) s14))))) : WPs mX11_home [vR 125, vI v1, vI v2] S σ Q := by
  refine s_entry (by decide) (Nat.le_of_ble_eq_true rfl) rfl rfl ?_
  refine r_aload_n dX11_home_0 rfl ?_
  refine r_aload_n dX11_home_1 rfl ?_
  refine r_getIv dX11_home_2 fl_X11_223 rfl (k_125 hS) ?_
  refine r_aload_n dX11_home_5 rfl ?_
  refine r_iload_n dX11_home_6 rfl ?_
  refine r_iload_n dX11_home_7 rfl ?_
  refine s_callVv (z := mX11_isPoint) [vI v1, vI v2] dX11_home_8 mv_X11_isPoint lk_X11_406 rfl (by decide) (k_125 hS) (Nat.le_of_ble_eq_true rfl) (WPs.mono k (fun r8 s8 k => ?_))
  refine s_callS (z := mX11_unless_) [vI (σ 125 11), vI r8] dX11_home_11 ms_X11_unless_ lk_X11_423 rfl (by decide) (Nat.le_of_ble_eq_true rfl) (WPs.mono k (fun r11 s11 k => ?_))
  refine s_callVv (z := mX11_isRefused) [vI r11] dX11_home_14 mv_X11_isRefused lk_X11_207 rfl (by decide) (k_125 hS) (Nat.le_of_ble_eq_true rfl) (WPs.mono k (fun r14 s14 k => ?_))
  refine r_if_eq (tgt := 22) dX11_home_17 rfl (fun h => ?_) (fun h => ?_)
  · have k := k.1 h
    refine r_aload_n dX11_home_22 rfl ?_
    refine s_callVv (z := mX11_keeps) [] dX11_home_23 mv_X11_keeps lk_X11_426 rfl (by decide) (k_125 hS) (Nat.le_of_ble_eq_true rfl) (WPs.mono k (fun r23 s23 k => ?_))
    refine r_aload_n dX11_home_26 rfl ?_
    refine r_getRv dX11_home_27 fl_X11_17 rfl (k_125 hS) (f_125_6 hS) (by decide) ?_
    refine r_iconst dX11_home_30 ⟨by decide, by decide⟩ ?_
    refine r_iload_n dX11_home_31 rfl ?_
    refine r_iast dX11_home_32 (k_127 hS) (by decide) (by decide) ?_
    refine r_aload_n dX11_home_33 rfl ?_
    refine r_getRv dX11_home_34 fl_X11_17 rfl (k_125 hS) (f_125_6 hS) (by decide) ?_
    refine r_iconst dX11_home_37 ⟨by decide, by decide⟩ ?_
    refine r_iload_n dX11_home_38 rfl ?_
    refine r_iast dX11_home_39 (k_127 hS) (by decide) (by decide) ?_
    refine r_aload_n dX11_home_40 rfl ?_
    refine s_callVv (z := mX11_reckons) [] dX11_home_41 mv_X11_reckons lk_X11_311 rfl (by decide) (k_125 hS) (Nat.le_of_ble_eq_true rfl) (WPs.mono k (fun r41 s41 k => ?_))
    refine r_aload_n dX11_home_44 rfl ?_
    refine s_callVv (z := mX11_leaps) [] dX11_home_45 mv_X11_leaps lk_X11_361 rfl (by decide) (k_125 hS) (Nat.le_of_ble_eq_true rfl) (WPs.mono k (fun r45 s45 k => ?_))
    exact s_iret dX11_home_48 rfl k
  · have k := k.2 h
    refine r_iconst dX11_home_20 ⟨by decide, by decide⟩ ?_
    exact s_iret dX11_home_21 rfl k
theorem e_X11_join {v1 : Int} {S : ShT} {σ : StT} {Q : Int → StT → Prop} (hS : SHP S) (k : WPs mX11_in [vI v1, vI 0, vI 50] S σ (fun r9 s9 => WPs mX11_unless_ [vI (σ 125 11), vI r9] S s9 (fun r12 s12 => WPs mX11_isRefused [vR 125, vI r12] S s12 (fun r15 s15 => (r15 = 0 → WPs mX11_keeps [vR 125] S s15 (fun r24 s24 => (s24 127 1 = v1 → Q (s24 127 103) (up2 s24 127 1 v1)) ∧ (¬ (s24 127 1 = v1) → WPs mX11_plansAnew [vR 125] S (up2 s24 127 1 v1) (fun r55 s55 => Q (s55 127 103) s55)))) ∧ (¬ (r15 = 0) → Q (-1) s15))))) : WPs mX11_join [vR 125, vI v1] S σ Q := by
  refine s_entry (by decide) (Nat.le_of_ble_eq_true rfl) rfl rfl ?_
  refine r_aload_n dX11_join_0 rfl ?_
  refine r_aload_n dX11_join_1 rfl ?_
  refine r_getIv dX11_join_2 fl_X11_223 rfl (k_125 hS) ?_
  refine r_iload_n dX11_join_5 rfl ?_
  refine r_iconst dX11_join_6 ⟨by decide, by decide⟩ ?_
  refine r_bipush dX11_join_7 (by decide +kernel) ⟨by decide, by decide⟩ ?_
  refine s_callS (z := mX11_in) [vI v1, vI 0, vI 50] dX11_join_9 ms_X11_in lk_X11_128 rfl (by decide) (Nat.le_of_ble_eq_true rfl) (WPs.mono k (fun r9 s9 k => ?_))
  refine s_callS (z := mX11_unless_) [vI (σ 125 11), vI r9] dX11_join_12 ms_X11_unless_ lk_X11_423 rfl (by decide) (Nat.le_of_ble_eq_true rfl) (WPs.mono k (fun r12 s12 k => ?_))
  refine s_callVv (z := mX11_isRefused) [vI r12] dX11_join_15 mv_X11_isRefused lk_X11_207 rfl (by decide) (k_125 hS) (Nat.le_of_ble_eq_true rfl) (WPs.mono k (fun r15 s15 k => ?_))
  refine r_if_eq (tgt := 23) dX11_join_18 rfl (fun h => ?_) (fun h => ?_)
  · have k := k.1 h
    refine r_aload_n dX11_join_23 rfl ?_
    refine s_callVv (z := mX11_keeps) [] dX11_join_24 mv_X11_keeps lk_X11_426 rfl (by decide) (k_125 hS) (Nat.le_of_ble_eq_true rfl) (WPs.mono k (fun r24 s24 k => ?_))
    refine r_aload_n dX11_join_27 rfl ?_
    refine r_getRv dX11_join_28 fl_X11_17 rfl (k_125 hS) (f_125_6 hS) (by decide) ?_
    refine r_iconst dX11_join_31 ⟨by decide, by decide⟩ ?_
    refine r_iald dX11_join_32 (Or.inl (k_127 hS)) (by decide) (by decide) ?_
    refine r_iload_n dX11_join_33 rfl ?_
    refine r_icmp_eq (tgt := 41) dX11_join_34 rfl (fun h => ?_) (fun h => ?_)
    · have k := k.1 h
      refine r_iconst dX11_join_41 ⟨by decide, by decide⟩ ?_
      refine r_istore_n dX11_join_42 (by decide) rfl rfl ?_
      refine r_aload_n dX11_join_43 rfl ?_
      refine r_getRv dX11_join_44 fl_X11_17 rfl (k_125 hS) (f_125_6 hS) (by decide) ?_
      refine r_iconst dX11_join_47 ⟨by decide, by decide⟩ ?_
      refine r_iload_n dX11_join_48 rfl ?_
      refine r_iast dX11_join_49 (k_127 hS) (by decide) (by decide) ?_
      refine r_iload_n dX11_join_50 rfl ?_
      refine r_if_eq (tgt := 58) dX11_join_51 rfl (fun h => ?_) (fun h => ?_)
      · skip
        refine r_aload_n dX11_join_58 rfl ?_
        refine r_getRv dX11_join_59 fl_X11_17 rfl (k_125 hS) (f_125_6 hS) (by decide) ?_
        refine r_bipush dX11_join_62 (by decide +kernel) ⟨by decide, by decide⟩ ?_
        refine r_iald dX11_join_64 (Or.inl (k_127 hS)) (by decide) (by decide) ?_
        refine r_top (up2_i (by decide)) ?_
        exact s_iret dX11_join_65 rfl k
      · exact absurd (by decide) h
    · have k := k.2 h
      refine r_iconst dX11_join_37 ⟨by decide, by decide⟩ ?_
      refine r_goto (tgt := 42) dX11_join_38 rfl ?_
      refine r_istore_n dX11_join_42 (by decide) rfl rfl ?_
      refine r_aload_n dX11_join_43 rfl ?_
      refine r_getRv dX11_join_44 fl_X11_17 rfl (k_125 hS) (f_125_6 hS) (by decide) ?_
      refine r_iconst dX11_join_47 ⟨by decide, by decide⟩ ?_
      refine r_iload_n dX11_join_48 rfl ?_
      refine r_iast dX11_join_49 (k_127 hS) (by decide) (by decide) ?_
      refine r_iload_n dX11_join_50 rfl ?_
      refine r_if_eq (tgt := 58) dX11_join_51 rfl (fun h => ?_) (fun h => ?_)
      · exact absurd h (by decide)
      · skip
        refine r_aload_n dX11_join_54 rfl ?_
        refine s_callVv (z := mX11_plansAnew) [] dX11_join_55 mv_X11_plansAnew lk_X11_229 rfl (by decide) (k_125 hS) (Nat.le_of_ble_eq_true rfl) (WPs.mono k (fun r55 s55 k => ?_))
        refine r_aload_n dX11_join_58 rfl ?_
        refine r_getRv dX11_join_59 fl_X11_17 rfl (k_125 hS) (f_125_6 hS) (by decide) ?_
        refine r_bipush dX11_join_62 (by decide +kernel) ⟨by decide, by decide⟩ ?_
        refine r_iald dX11_join_64 (Or.inl (k_127 hS)) (by decide) (by decide) ?_
        exact s_iret dX11_join_65 rfl k
  · have k := k.2 h
    refine r_iconst dX11_join_21 ⟨by decide, by decide⟩ ?_
    exact s_iret dX11_join_22 rfl k
theorem e_X11_pace {v1 v2 : Int} {S : ShT} {σ : StT} {Q : Int → StT → Prop} (hS : SHP S) (k : WPs mX11_in [vI v1, vI 1, vI 9] S σ (fun r9 s9 => (r9 = 0 → WPs mX11_unless_ [vI (σ 125 11), vI 0] S s9 (fun r30 s30 => WPs mX11_isRefused [vR 125, vI r30] S s30 (fun r33 s33 => (r33 = 0 → WPs mX11_keeps [vR 125] S s33 (fun r42 s42 => WPs mX11_reckons [vR 125] S (up2 (up2 s42 127 5 v1) 127 6 v2) (fun r61 s61 => WPs mX11_allTime [vR 125] S s61 (fun r65 s65 => Q r65 s65)))) ∧ (¬ (r33 = 0) → Q (-1) s33)))) ∧ (¬ (r9 = 0) → WPs mX11_in [vI v2, vI 1, vI 9] S s9 (fun r19 s19 => (r19 = 0 → WPs mX11_unless_ [vI (σ 125 11), vI 0] S s19 (fun r30 s30 => WPs mX11_isRefused [vR 125, vI r30] S s30 (fun r33 s33 => (r33 = 0 → WPs mX11_keeps [vR 125] S s33 (fun r42 s42 => WPs mX11_reckons [vR 125] S (up2 (up2 s42 127 5 v1) 127 6 v2) (fun r61 s61 => WPs mX11_allTime [vR 125] S s61 (fun r65 s65 => Q r65 s65)))) ∧ (¬ (r33 = 0) → Q (-1) s33)))) ∧ (¬ (r19 = 0) → WPs mX11_unless_ [vI (σ 125 11), vI 1] S s19 (fun r30 s30 => WPs mX11_isRefused [vR 125, vI r30] S s30 (fun r33 s33 => (r33 = 0 → WPs mX11_keeps [vR 125] S s33 (fun r42 s42 => WPs mX11_reckons [vR 125] S (up2 (up2 s42 127 5 v1) 127 6 v2) (fun r61 s61 => WPs mX11_allTime [vR 125] S s61 (fun r65 s65 => Q r65 s65)))) ∧ (¬ (r33 = 0) → Q (-1) s33)))))))) : WPs mX11_pace [vR 125, vI v1, vI v2] S σ Q := by
  refine s_entry (by decide) (Nat.le_of_ble_eq_true rfl) rfl rfl ?_
  refine r_aload_n dX11_pace_0 rfl ?_
  refine r_aload_n dX11_pace_1 rfl ?_
  refine r_getIv dX11_pace_2 fl_X11_223 rfl (k_125 hS) ?_
  refine r_iload_n dX11_pace_5 rfl ?_
  refine r_iconst dX11_pace_6 ⟨by decide, by decide⟩ ?_
  refine r_bipush dX11_pace_7 (by decide +kernel) ⟨by decide, by decide⟩ ?_
  refine s_callS (z := mX11_in) [vI v1, vI 1, vI 9] dX11_pace_9 ms_X11_in lk_X11_128 rfl (by decide) (Nat.le_of_ble_eq_true rfl) (WPs.mono k (fun r9 s9 k => ?_))
  refine r_if_eq (tgt := 29) dX11_pace_12 rfl (fun h => ?_) (fun h => ?_)
  · have k := k.1 h
    refine r_iconst dX11_pace_29 ⟨by decide, by decide⟩ ?_
    refine s_callS (z := mX11_unless_) [vI (σ 125 11), vI 0] dX11_pace_30 ms_X11_unless_ lk_X11_423 rfl (by decide) (Nat.le_of_ble_eq_true rfl) (WPs.mono k (fun r30 s30 k => ?_))
    refine s_callVv (z := mX11_isRefused) [vI r30] dX11_pace_33 mv_X11_isRefused lk_X11_207 rfl (by decide) (k_125 hS) (Nat.le_of_ble_eq_true rfl) (WPs.mono k (fun r33 s33 k => ?_))
    refine r_if_eq (tgt := 41) dX11_pace_36 rfl (fun h => ?_) (fun h => ?_)
    · have k := k.1 h
      refine r_aload_n dX11_pace_41 rfl ?_
      refine s_callVv (z := mX11_keeps) [] dX11_pace_42 mv_X11_keeps lk_X11_426 rfl (by decide) (k_125 hS) (Nat.le_of_ble_eq_true rfl) (WPs.mono k (fun r42 s42 k => ?_))
      refine r_aload_n dX11_pace_45 rfl ?_
      refine r_getRv dX11_pace_46 fl_X11_17 rfl (k_125 hS) (f_125_6 hS) (by decide) ?_
      refine r_iconst dX11_pace_49 ⟨by decide, by decide⟩ ?_
      refine r_iload_n dX11_pace_50 rfl ?_
      refine r_iast dX11_pace_51 (k_127 hS) (by decide) (by decide) ?_
      refine r_aload_n dX11_pace_52 rfl ?_
      refine r_getRv dX11_pace_53 fl_X11_17 rfl (k_125 hS) (f_125_6 hS) (by decide) ?_
      refine r_bipush dX11_pace_56 (by decide +kernel) ⟨by decide, by decide⟩ ?_
      refine r_iload_n dX11_pace_58 rfl ?_
      refine r_iast dX11_pace_59 (k_127 hS) (by decide) (by decide) ?_
      refine r_aload_n dX11_pace_60 rfl ?_
      refine s_callVv (z := mX11_reckons) [] dX11_pace_61 mv_X11_reckons lk_X11_311 rfl (by decide) (k_125 hS) (Nat.le_of_ble_eq_true rfl) (WPs.mono k (fun r61 s61 k => ?_))
      refine r_aload_n dX11_pace_64 rfl ?_
      refine s_callVv (z := mX11_allTime) [] dX11_pace_65 mv_X11_allTime lk_X11_390 rfl (by decide) (k_125 hS) (Nat.le_of_ble_eq_true rfl) (WPs.mono k (fun r65 s65 k => ?_))
      exact s_iret dX11_pace_68 rfl k
    · have k := k.2 h
      refine r_iconst dX11_pace_39 ⟨by decide, by decide⟩ ?_
      exact s_iret dX11_pace_40 rfl k
  · have k := k.2 h
    refine r_iload_n dX11_pace_15 rfl ?_
    refine r_iconst dX11_pace_16 ⟨by decide, by decide⟩ ?_
    refine r_bipush dX11_pace_17 (by decide +kernel) ⟨by decide, by decide⟩ ?_
    refine s_callS (z := mX11_in) [vI v2, vI 1, vI 9] dX11_pace_19 ms_X11_in lk_X11_128 rfl (by decide) (Nat.le_of_ble_eq_true rfl) (WPs.mono k (fun r19 s19 k => ?_))
    refine r_if_eq (tgt := 29) dX11_pace_22 rfl (fun h => ?_) (fun h => ?_)
    · have k := k.1 h
      refine r_iconst dX11_pace_29 ⟨by decide, by decide⟩ ?_
      refine s_callS (z := mX11_unless_) [vI (σ 125 11), vI 0] dX11_pace_30 ms_X11_unless_ lk_X11_423 rfl (by decide) (Nat.le_of_ble_eq_true rfl) (WPs.mono k (fun r30 s30 k => ?_))
      refine s_callVv (z := mX11_isRefused) [vI r30] dX11_pace_33 mv_X11_isRefused lk_X11_207 rfl (by decide) (k_125 hS) (Nat.le_of_ble_eq_true rfl) (WPs.mono k (fun r33 s33 k => ?_))
      refine r_if_eq (tgt := 41) dX11_pace_36 rfl (fun h => ?_) (fun h => ?_)
      · have k := k.1 h
        refine r_aload_n dX11_pace_41 rfl ?_
        refine s_callVv (z := mX11_keeps) [] dX11_pace_42 mv_X11_keeps lk_X11_426 rfl (by decide) (k_125 hS) (Nat.le_of_ble_eq_true rfl) (WPs.mono k (fun r42 s42 k => ?_))
        refine r_aload_n dX11_pace_45 rfl ?_
        refine r_getRv dX11_pace_46 fl_X11_17 rfl (k_125 hS) (f_125_6 hS) (by decide) ?_
        refine r_iconst dX11_pace_49 ⟨by decide, by decide⟩ ?_
        refine r_iload_n dX11_pace_50 rfl ?_
        refine r_iast dX11_pace_51 (k_127 hS) (by decide) (by decide) ?_
        refine r_aload_n dX11_pace_52 rfl ?_
        refine r_getRv dX11_pace_53 fl_X11_17 rfl (k_125 hS) (f_125_6 hS) (by decide) ?_
        refine r_bipush dX11_pace_56 (by decide +kernel) ⟨by decide, by decide⟩ ?_
        refine r_iload_n dX11_pace_58 rfl ?_
        refine r_iast dX11_pace_59 (k_127 hS) (by decide) (by decide) ?_
        refine r_aload_n dX11_pace_60 rfl ?_
        refine s_callVv (z := mX11_reckons) [] dX11_pace_61 mv_X11_reckons lk_X11_311 rfl (by decide) (k_125 hS) (Nat.le_of_ble_eq_true rfl) (WPs.mono k (fun r61 s61 k => ?_))
        refine r_aload_n dX11_pace_64 rfl ?_
        refine s_callVv (z := mX11_allTime) [] dX11_pace_65 mv_X11_allTime lk_X11_390 rfl (by decide) (k_125 hS) (Nat.le_of_ble_eq_true rfl) (WPs.mono k (fun r65 s65 k => ?_))
        exact s_iret dX11_pace_68 rfl k
      · have k := k.2 h
        refine r_iconst dX11_pace_39 ⟨by decide, by decide⟩ ?_
        exact s_iret dX11_pace_40 rfl k
    · have k := k.2 h
      refine r_iconst dX11_pace_25 ⟨by decide, by decide⟩ ?_
      refine r_goto (tgt := 30) dX11_pace_26 rfl ?_
      refine s_callS (z := mX11_unless_) [vI (σ 125 11), vI 1] dX11_pace_30 ms_X11_unless_ lk_X11_423 rfl (by decide) (Nat.le_of_ble_eq_true rfl) (WPs.mono k (fun r30 s30 k => ?_))
      refine s_callVv (z := mX11_isRefused) [vI r30] dX11_pace_33 mv_X11_isRefused lk_X11_207 rfl (by decide) (k_125 hS) (Nat.le_of_ble_eq_true rfl) (WPs.mono k (fun r33 s33 k => ?_))
      refine r_if_eq (tgt := 41) dX11_pace_36 rfl (fun h => ?_) (fun h => ?_)
      · have k := k.1 h
        refine r_aload_n dX11_pace_41 rfl ?_
        refine s_callVv (z := mX11_keeps) [] dX11_pace_42 mv_X11_keeps lk_X11_426 rfl (by decide) (k_125 hS) (Nat.le_of_ble_eq_true rfl) (WPs.mono k (fun r42 s42 k => ?_))
        refine r_aload_n dX11_pace_45 rfl ?_
        refine r_getRv dX11_pace_46 fl_X11_17 rfl (k_125 hS) (f_125_6 hS) (by decide) ?_
        refine r_iconst dX11_pace_49 ⟨by decide, by decide⟩ ?_
        refine r_iload_n dX11_pace_50 rfl ?_
        refine r_iast dX11_pace_51 (k_127 hS) (by decide) (by decide) ?_
        refine r_aload_n dX11_pace_52 rfl ?_
        refine r_getRv dX11_pace_53 fl_X11_17 rfl (k_125 hS) (f_125_6 hS) (by decide) ?_
        refine r_bipush dX11_pace_56 (by decide +kernel) ⟨by decide, by decide⟩ ?_
        refine r_iload_n dX11_pace_58 rfl ?_
        refine r_iast dX11_pace_59 (k_127 hS) (by decide) (by decide) ?_
        refine r_aload_n dX11_pace_60 rfl ?_
        refine s_callVv (z := mX11_reckons) [] dX11_pace_61 mv_X11_reckons lk_X11_311 rfl (by decide) (k_125 hS) (Nat.le_of_ble_eq_true rfl) (WPs.mono k (fun r61 s61 k => ?_))
        refine r_aload_n dX11_pace_64 rfl ?_
        refine s_callVv (z := mX11_allTime) [] dX11_pace_65 mv_X11_allTime lk_X11_390 rfl (by decide) (k_125 hS) (Nat.le_of_ble_eq_true rfl) (WPs.mono k (fun r65 s65 k => ?_))
        exact s_iret dX11_pace_68 rfl k
      · have k := k.2 h
        refine r_iconst dX11_pace_39 ⟨by decide, by decide⟩ ?_
        exact s_iret dX11_pace_40 rfl k
theorem e_X11_exchange {v1 v2 : Int} {S : ShT} {σ : StT} {Q : Int → StT → Prop} (hS : SHP S) (k : WPs mX11_isRun [vR 125, vI v1, vI v2] S σ (fun r4 s4 => (v2 < v1 → WPs mX11_unless_ [vI r4, vI 0] S s4 (fun r17 s17 => WPs mX11_isRefused [vR 125, vI r17] S s17 (fun r20 s20 => (r20 = 0 → WPs mX11_keeps [vR 125] S s20 (fun r29 s29 => WPs mX11_reckons [vR 125] S s29 (fun r33 s33 => WPs mX11_exchanges [vR 125, vI v1, vI v2] S s33 (fun r39 s39 => WPs mX11_leaps [vR 125] S s39 (fun r43 s43 => Q r43 s43))))) ∧ (¬ (r20 = 0) → Q (-1) s20)))) ∧ (¬ (v2 < v1) → WPs mX11_unless_ [vI r4, vI 1] S s4 (fun r17 s17 => WPs mX11_isRefused [vR 125, vI r17] S s17 (fun r20 s20 => (r20 = 0 → WPs mX11_keeps [vR 125] S s20 (fun r29 s29 => WPs mX11_reckons [vR 125] S s29 (fun r33 s33 => WPs mX11_exchanges [vR 125, vI v1, vI v2] S s33 (fun r39 s39 => WPs mX11_leaps [vR 125] S s39 (fun r43 s43 => Q r43 s43))))) ∧ (¬ (r20 = 0) → Q (-1) s20)))))) : WPs mX11_exchange [vR 125, vI v1, vI v2] S σ Q := by
  refine s_entry (by decide) (Nat.le_of_ble_eq_true rfl) rfl rfl ?_
  refine r_aload_n dX11_exchange_0 rfl ?_
  refine r_aload_n dX11_exchange_1 rfl ?_
  refine r_iload_n dX11_exchange_2 rfl ?_
  refine r_iload_n dX11_exchange_3 rfl ?_
  refine s_callVv (z := mX11_isRun) [vI v1, vI v2] dX11_exchange_4 mv_X11_isRun lk_X11_380 rfl (by decide) (k_125 hS) (Nat.le_of_ble_eq_true rfl) (WPs.mono k (fun r4 s4 k => ?_))
  refine r_iload_n dX11_exchange_7 rfl ?_
  refine r_iload_n dX11_exchange_8 rfl ?_
  refine r_icmp_gt (tgt := 16) dX11_exchange_9 rfl (fun h => ?_) (fun h => ?_)
  · have k := k.1 h
    refine r_iconst dX11_exchange_16 ⟨by decide, by decide⟩ ?_
    refine s_callS (z := mX11_unless_) [vI r4, vI 0] dX11_exchange_17 ms_X11_unless_ lk_X11_423 rfl (by decide) (Nat.le_of_ble_eq_true rfl) (WPs.mono k (fun r17 s17 k => ?_))
    refine s_callVv (z := mX11_isRefused) [vI r17] dX11_exchange_20 mv_X11_isRefused lk_X11_207 rfl (by decide) (k_125 hS) (Nat.le_of_ble_eq_true rfl) (WPs.mono k (fun r20 s20 k => ?_))
    refine r_if_eq (tgt := 28) dX11_exchange_23 rfl (fun h => ?_) (fun h => ?_)
    · have k := k.1 h
      refine r_aload_n dX11_exchange_28 rfl ?_
      refine s_callVv (z := mX11_keeps) [] dX11_exchange_29 mv_X11_keeps lk_X11_426 rfl (by decide) (k_125 hS) (Nat.le_of_ble_eq_true rfl) (WPs.mono k (fun r29 s29 k => ?_))
      refine r_aload_n dX11_exchange_32 rfl ?_
      refine s_callVv (z := mX11_reckons) [] dX11_exchange_33 mv_X11_reckons lk_X11_311 rfl (by decide) (k_125 hS) (Nat.le_of_ble_eq_true rfl) (WPs.mono k (fun r33 s33 k => ?_))
      refine r_aload_n dX11_exchange_36 rfl ?_
      refine r_iload_n dX11_exchange_37 rfl ?_
      refine r_iload_n dX11_exchange_38 rfl ?_
      refine s_callVv (z := mX11_exchanges) [vI v1, vI v2] dX11_exchange_39 mv_X11_exchanges lk_X11_370 rfl (by decide) (k_125 hS) (Nat.le_of_ble_eq_true rfl) (WPs.mono k (fun r39 s39 k => ?_))
      refine r_aload_n dX11_exchange_42 rfl ?_
      refine s_callVv (z := mX11_leaps) [] dX11_exchange_43 mv_X11_leaps lk_X11_361 rfl (by decide) (k_125 hS) (Nat.le_of_ble_eq_true rfl) (WPs.mono k (fun r43 s43 k => ?_))
      exact s_iret dX11_exchange_46 rfl k
    · have k := k.2 h
      refine r_iconst dX11_exchange_26 ⟨by decide, by decide⟩ ?_
      exact s_iret dX11_exchange_27 rfl k
  · have k := k.2 h
    refine r_iconst dX11_exchange_12 ⟨by decide, by decide⟩ ?_
    refine r_goto (tgt := 17) dX11_exchange_13 rfl ?_
    refine s_callS (z := mX11_unless_) [vI r4, vI 1] dX11_exchange_17 ms_X11_unless_ lk_X11_423 rfl (by decide) (Nat.le_of_ble_eq_true rfl) (WPs.mono k (fun r17 s17 k => ?_))
    refine s_callVv (z := mX11_isRefused) [vI r17] dX11_exchange_20 mv_X11_isRefused lk_X11_207 rfl (by decide) (k_125 hS) (Nat.le_of_ble_eq_true rfl) (WPs.mono k (fun r20 s20 k => ?_))
    refine r_if_eq (tgt := 28) dX11_exchange_23 rfl (fun h => ?_) (fun h => ?_)
    · have k := k.1 h
      refine r_aload_n dX11_exchange_28 rfl ?_
      refine s_callVv (z := mX11_keeps) [] dX11_exchange_29 mv_X11_keeps lk_X11_426 rfl (by decide) (k_125 hS) (Nat.le_of_ble_eq_true rfl) (WPs.mono k (fun r29 s29 k => ?_))
      refine r_aload_n dX11_exchange_32 rfl ?_
      refine s_callVv (z := mX11_reckons) [] dX11_exchange_33 mv_X11_reckons lk_X11_311 rfl (by decide) (k_125 hS) (Nat.le_of_ble_eq_true rfl) (WPs.mono k (fun r33 s33 k => ?_))
      refine r_aload_n dX11_exchange_36 rfl ?_
      refine r_iload_n dX11_exchange_37 rfl ?_
      refine r_iload_n dX11_exchange_38 rfl ?_
      refine s_callVv (z := mX11_exchanges) [vI v1, vI v2] dX11_exchange_39 mv_X11_exchanges lk_X11_370 rfl (by decide) (k_125 hS) (Nat.le_of_ble_eq_true rfl) (WPs.mono k (fun r39 s39 k => ?_))
      refine r_aload_n dX11_exchange_42 rfl ?_
      refine s_callVv (z := mX11_leaps) [] dX11_exchange_43 mv_X11_leaps lk_X11_361 rfl (by decide) (k_125 hS) (Nat.le_of_ble_eq_true rfl) (WPs.mono k (fun r43 s43 k => ?_))
      exact s_iret dX11_exchange_46 rfl k
    · have k := k.2 h
      refine r_iconst dX11_exchange_26 ⟨by decide, by decide⟩ ?_
      exact s_iret dX11_exchange_27 rfl k
theorem e_X11_undo {S : ShT} {σ : StT} {Q : Int → StT → Prop} (hS : SHP S) (k : (σ 125 10 ≤ 0 → WPs mX11_unless [vI 0] S σ (fun r13 s13 => WPs mX11_isRefused [vR 125, vI r13] S s13 (fun r16 s16 => (r16 = 0 → inR ((s16 125 10) - 1) ∧ inR (152 * ((s16 125 10) - 1)) ∧ WPs mX11_copies [vR 130, vI (152 * ((s16 125 10) - 1)), vR 127, vI 0] S (up2 s16 125 10 ((s16 125 10) - 1)) (fun r51 s51 => Q 1 s51)) ∧ (¬ (r16 = 0) → Q 0 s16)))) ∧ (¬ (σ 125 10 ≤ 0) → WPs mX11_unless [vI 1] S σ (fun r13 s13 => WPs mX11_isRefused [vR 125, vI r13] S s13 (fun r16 s16 => (r16 = 0 → inR ((s16 125 10) - 1) ∧ inR (152 * ((s16 125 10) - 1)) ∧ WPs mX11_copies [vR 130, vI (152 * ((s16 125 10) - 1)), vR 127, vI 0] S (up2 s16 125 10 ((s16 125 10) - 1)) (fun r51 s51 => Q 1 s51)) ∧ (¬ (r16 = 0) → Q 0 s16))))) : WPs mX11_undo [vR 125] S σ Q := by
  refine s_entry (by decide) (Nat.le_of_ble_eq_true rfl) rfl rfl ?_
  refine r_aload_n dX11_undo_0 rfl ?_
  refine r_aload_n dX11_undo_1 rfl ?_
  refine r_getIv dX11_undo_2 fl_X11_226 rfl (k_125 hS) ?_
  refine r_if_le (tgt := 12) dX11_undo_5 rfl (fun h => ?_) (fun h => ?_)
  · have k := k.1 h
    refine r_iconst dX11_undo_12 ⟨by decide, by decide⟩ ?_
    refine s_callS (z := mX11_unless) [vI 0] dX11_undo_13 ms_X11_unless lk_X11_314 rfl (by decide) (Nat.le_of_ble_eq_true rfl) (WPs.mono k (fun r13 s13 k => ?_))
    refine s_callVv (z := mX11_isRefused) [vI r13] dX11_undo_16 mv_X11_isRefused lk_X11_207 rfl (by decide) (k_125 hS) (Nat.le_of_ble_eq_true rfl) (WPs.mono k (fun r16 s16 k => ?_))
    refine r_if_eq (tgt := 24) dX11_undo_19 rfl (fun h => ?_) (fun h => ?_)
    · have k := k.1 h
      refine r_aload_n dX11_undo_24 rfl ?_
      refine r_dup dX11_undo_25 rfl ?_
      refine r_getIv dX11_undo_26 fl_X11_226 rfl (k_125 hS) ?_
      refine r_iconst dX11_undo_29 ⟨by decide, by decide⟩ ?_
      obtain ⟨h, k⟩ := k
      refine r_isub dX11_undo_30 h ?_
      refine r_putIv dX11_undo_31 fl_X11_226 (fun _ h => by cases h; rfl) (Or.inl rfl) (k_125 hS) ?_
      refine r_aload_n dX11_undo_34 rfl ?_
      refine r_getRv dX11_undo_35 fl_X11_26 rfl (k_125 hS) (f_125_9 hS) (by decide) ?_
      refine r_sipush dX11_undo_38 (by decide +kernel) ⟨by decide, by decide⟩ ?_
      refine r_aload_n dX11_undo_41 rfl ?_
      refine r_getIv dX11_undo_42 fl_X11_226 rfl (k_125 hS) ?_
      refine r_top (up2_s _ _ _ _) ?_
      obtain ⟨h, k⟩ := k
      refine r_imul dX11_undo_45 h ?_
      refine r_aload_n dX11_undo_46 rfl ?_
      refine r_getRv dX11_undo_47 fl_X11_17 rfl (k_125 hS) (f_125_6 hS) (by decide) ?_
      refine r_iconst dX11_undo_50 ⟨by decide, by decide⟩ ?_
      refine s_callS (z := mX11_copies) [vR 130, vI (152 * ((s16 125 10) - 1)), vR 127, vI 0] dX11_undo_51 ms_X11_copies lk_X11_219 rfl (by decide) (Nat.le_of_ble_eq_true rfl) (WPs.mono k (fun r51 s51 k => ?_))
      refine r_iconst dX11_undo_54 ⟨by decide, by decide⟩ ?_
      exact s_zret dX11_undo_55 rfl (by decide) k
    · have k := k.2 h
      refine r_iconst dX11_undo_22 ⟨by decide, by decide⟩ ?_
      exact s_zret dX11_undo_23 rfl (by decide) k
  · have k := k.2 h
    refine r_iconst dX11_undo_8 ⟨by decide, by decide⟩ ?_
    refine r_goto (tgt := 13) dX11_undo_9 rfl ?_
    refine s_callS (z := mX11_unless) [vI 1] dX11_undo_13 ms_X11_unless lk_X11_314 rfl (by decide) (Nat.le_of_ble_eq_true rfl) (WPs.mono k (fun r13 s13 k => ?_))
    refine s_callVv (z := mX11_isRefused) [vI r13] dX11_undo_16 mv_X11_isRefused lk_X11_207 rfl (by decide) (k_125 hS) (Nat.le_of_ble_eq_true rfl) (WPs.mono k (fun r16 s16 k => ?_))
    refine r_if_eq (tgt := 24) dX11_undo_19 rfl (fun h => ?_) (fun h => ?_)
    · have k := k.1 h
      refine r_aload_n dX11_undo_24 rfl ?_
      refine r_dup dX11_undo_25 rfl ?_
      refine r_getIv dX11_undo_26 fl_X11_226 rfl (k_125 hS) ?_
      refine r_iconst dX11_undo_29 ⟨by decide, by decide⟩ ?_
      obtain ⟨h, k⟩ := k
      refine r_isub dX11_undo_30 h ?_
      refine r_putIv dX11_undo_31 fl_X11_226 (fun _ h => by cases h; rfl) (Or.inl rfl) (k_125 hS) ?_
      refine r_aload_n dX11_undo_34 rfl ?_
      refine r_getRv dX11_undo_35 fl_X11_26 rfl (k_125 hS) (f_125_9 hS) (by decide) ?_
      refine r_sipush dX11_undo_38 (by decide +kernel) ⟨by decide, by decide⟩ ?_
      refine r_aload_n dX11_undo_41 rfl ?_
      refine r_getIv dX11_undo_42 fl_X11_226 rfl (k_125 hS) ?_
      refine r_top (up2_s _ _ _ _) ?_
      obtain ⟨h, k⟩ := k
      refine r_imul dX11_undo_45 h ?_
      refine r_aload_n dX11_undo_46 rfl ?_
      refine r_getRv dX11_undo_47 fl_X11_17 rfl (k_125 hS) (f_125_6 hS) (by decide) ?_
      refine r_iconst dX11_undo_50 ⟨by decide, by decide⟩ ?_
      refine s_callS (z := mX11_copies) [vR 130, vI (152 * ((s16 125 10) - 1)), vR 127, vI 0] dX11_undo_51 ms_X11_copies lk_X11_219 rfl (by decide) (Nat.le_of_ble_eq_true rfl) (WPs.mono k (fun r51 s51 k => ?_))
      refine r_iconst dX11_undo_54 ⟨by decide, by decide⟩ ?_
      exact s_zret dX11_undo_55 rfl (by decide) k
    · have k := k.2 h
      refine r_iconst dX11_undo_22 ⟨by decide, by decide⟩ ?_
      exact s_zret dX11_undo_23 rfl (by decide) k
theorem e_X11_loose {v1 : Int} {S : ShT} {σ : StT} {Q : Int → StT → Prop} (hS : SHP S) (k : (σ 125 11 = 0 → AWs mX11_loose 20 [(0, vR 125), (1, vI v1), (2, vI 0), (3, vI 0)] [] S (up2 σ 125 0 0) Q) ∧ (¬ (σ 125 11 = 0) → WPs mX11_reckons [vR 125] S (up2 σ 125 0 0) (fun r15 s15 => AWs mX11_loose 20 [(0, vR 125), (1, vI v1), (2, vI 0), (3, vI 0)] [] S s15 Q))) : WPs mX11_loose [vR 125, vI v1] S σ Q := by
  refine s_entry (by decide) (Nat.le_of_ble_eq_true rfl) rfl rfl ?_
  refine r_aload_n dX11_loose_0 rfl ?_
  refine r_iconst dX11_loose_1 ⟨by decide, by decide⟩ ?_
  refine r_putIv dX11_loose_2 fl_X11_99 (fun _ h => by cases h; rfl) (Or.inl rfl) (k_125 hS) ?_
  refine r_iconst dX11_loose_5 ⟨by decide, by decide⟩ ?_
  refine r_istore_n dX11_loose_6 (by decide) rfl rfl ?_
  refine r_aload_n dX11_loose_7 rfl ?_
  refine r_getIv dX11_loose_8 fl_X11_223 rfl (k_125 hS) ?_
  refine r_top (up2_i (by decide)) ?_
  refine r_if_eq (tgt := 18) dX11_loose_11 rfl (fun h => ?_) (fun h => ?_)
  · have k := k.1 h
    refine r_iconst dX11_loose_18 ⟨by decide, by decide⟩ ?_
    refine r_istore_n dX11_loose_19 (by decide) rfl rfl ?_
    exact k
  · have k := k.2 h
    refine r_aload_n dX11_loose_14 rfl ?_
    refine s_callVv (z := mX11_reckons) [] dX11_loose_15 mv_X11_reckons lk_X11_311 rfl (by decide) (k_125 hS) (Nat.le_of_ble_eq_true rfl) (WPs.mono k (fun r15 s15 k => ?_))
    refine r_iconst dX11_loose_18 ⟨by decide, by decide⟩ ?_
    refine r_istore_n dX11_loose_19 (by decide) rfl rfl ?_
    exact k
theorem t_X11_loose_20 {v1 v2 v3 : Int} {S : ShT} {σ : StT} {Q : Int → StT → Prop} (hS : SHP S) (k : (σ 125 11 = 0 → Q 0 (up2 σ 125 0 1)) ∧ (¬ (σ 125 11 = 0) → (σ 125 26 ≤ v3 → Q 0 (up2 σ 125 0 1)) ∧ (¬ (σ 125 26 ≤ v3) → (0 ≤ v3 ∧ v3 < 48) ∧ ((¬ σ 133 v3.toNat = 1 → inR (v3 + 1) ∧ AWs mX11_loose 20 [(0, vR 125), (1, vI v1), (2, vI v2), (3, vI (v3 + 1))] [] S σ Q) ∧ (σ 133 v3.toNat = 1 → (¬ v2 = v1 → inR (v2 + 1) ∧ inR (v3 + 1) ∧ AWs mX11_loose 20 [(0, vR 125), (1, vI v1), (2, vI (v2 + 1)), (3, vI (v3 + 1))] [] S σ Q) ∧ (v2 = v1 → Q v3 σ)))))) : AWs mX11_loose 20 [(0, vR 125), (1, vI v1), (2, vI v2), (3, vI v3)] [] S σ Q := by
  refine r_aload_n dX11_loose_20 rfl ?_
  refine r_getIv dX11_loose_21 fl_X11_223 rfl (k_125 hS) ?_
  refine r_if_eq (tgt := 61) dX11_loose_24 rfl (fun h => ?_) (fun h => ?_)
  · have k := k.1 h
    refine r_aload_n dX11_loose_61 rfl ?_
    refine r_iconst dX11_loose_62 ⟨by decide, by decide⟩ ?_
    refine r_putIv dX11_loose_63 fl_X11_99 (fun _ h => by cases h; rfl) (Or.inl rfl) (k_125 hS) ?_
    refine r_iconst dX11_loose_66 ⟨by decide, by decide⟩ ?_
    exact s_iret dX11_loose_67 rfl k
  · have k := k.2 h
    refine r_iload_n dX11_loose_27 rfl ?_
    refine r_aload_n dX11_loose_28 rfl ?_
    refine r_getIv dX11_loose_29 fl_X11_249 rfl (k_125 hS) ?_
    refine r_icmp_ge (tgt := 61) dX11_loose_32 rfl (fun h => ?_) (fun h => ?_)
    · have k := k.1 h
      refine r_aload_n dX11_loose_61 rfl ?_
      refine r_iconst dX11_loose_62 ⟨by decide, by decide⟩ ?_
      refine r_putIv dX11_loose_63 fl_X11_99 (fun _ h => by cases h; rfl) (Or.inl rfl) (k_125 hS) ?_
      refine r_iconst dX11_loose_66 ⟨by decide, by decide⟩ ?_
      exact s_iret dX11_loose_67 rfl k
    · have k := k.2 h
      refine r_aload_n dX11_loose_35 rfl ?_
      refine r_getRv dX11_loose_36 fl_X11_35 rfl (k_125 hS) (f_125_24 hS) (by decide) ?_
      refine r_iload_n dX11_loose_39 rfl ?_
      obtain ⟨⟨h0, h1⟩, k⟩ := k
      refine r_iald dX11_loose_40 (Or.inl (k_133 hS)) h0 h1 ?_
      refine r_iconst dX11_loose_41 ⟨by decide, by decide⟩ ?_
      refine r_icmp_ne (tgt := 55) dX11_loose_42 rfl (fun h => ?_) (fun h => ?_)
      · have k := k.1 h
        obtain ⟨h, k⟩ := k
        refine r_iinc dX11_loose_55 rfl (by decide) rfl rfl h ?_
        refine r_goto (tgt := 20) dX11_loose_58 rfl ?_
        exact k
      · have k := k.2 h
        refine r_iload_n dX11_loose_45 rfl ?_
        refine r_iload_n dX11_loose_46 rfl ?_
        refine r_icmp_ne (tgt := 52) dX11_loose_47 rfl (fun h => ?_) (fun h => ?_)
        · have k := k.1 h
          obtain ⟨h, k⟩ := k
          refine r_iinc dX11_loose_52 rfl (by decide) rfl rfl h ?_
          obtain ⟨h, k⟩ := k
          refine r_iinc dX11_loose_55 rfl (by decide) rfl rfl h ?_
          refine r_goto (tgt := 20) dX11_loose_58 rfl ?_
          exact k
        · have k := k.2 h
          refine r_iload_n dX11_loose_50 rfl ?_
          exact s_iret dX11_loose_51 rfl k
theorem e_X11_size {v1 : Int} {S : ShT} {σ : StT} {Q : Int → StT → Prop} (hS : SHP S) (k : (¬ v1 = 2 → AWs mX11_size 21 [(0, vR 125), (1, vI v1)] [] S (up2 σ 125 0 0) Q) ∧ (v1 = 2 → (σ 125 11 = 0 → AWs mX11_size 21 [(0, vR 125), (1, vI v1)] [] S (up2 σ 125 0 0) Q) ∧ (¬ (σ 125 11 = 0) → WPs mX11_reckons [vR 125] S (up2 σ 125 0 0) (fun r18 s18 => AWs mX11_size 21 [(0, vR 125), (1, vI v1)] [] S s18 Q)))) : WPs mX11_size [vR 125, vI v1] S σ Q := by
  refine s_entry (by decide) (Nat.le_of_ble_eq_true rfl) rfl rfl ?_
  refine r_aload_n dX11_size_0 rfl ?_
  refine r_iconst dX11_size_1 ⟨by decide, by decide⟩ ?_
  refine r_putIv dX11_size_2 fl_X11_99 (fun _ h => by cases h; rfl) (Or.inl rfl) (k_125 hS) ?_
  refine r_iload_n dX11_size_5 rfl ?_
  refine r_iconst dX11_size_6 ⟨by decide, by decide⟩ ?_
  refine r_icmp_ne (tgt := 21) dX11_size_7 rfl (fun h => ?_) (fun h => ?_)
  · have k := k.1 h
    exact k
  · have k := k.2 h
    refine r_aload_n dX11_size_10 rfl ?_
    refine r_getIv dX11_size_11 fl_X11_223 rfl (k_125 hS) ?_
    refine r_top (up2_i (by decide)) ?_
    refine r_if_eq (tgt := 21) dX11_size_14 rfl (fun h => ?_) (fun h => ?_)
    · have k := k.1 h
      exact k
    · have k := k.2 h
      refine r_aload_n dX11_size_17 rfl ?_
      refine s_callVv (z := mX11_reckons) [] dX11_size_18 mv_X11_reckons lk_X11_311 rfl (by decide) (k_125 hS) (Nat.le_of_ble_eq_true rfl) (WPs.mono k (fun r18 s18 k => ?_))
      exact k
theorem t_X11_size_21 {v1 : Int} {S : ShT} {σ : StT} {Q : Int → StT → Prop} (hS : SHP S) (k : (v1 < 0 ∨ 2 < v1 → Q (-1) σ) ∧ (v1 = 0 → Q (σ 125 5) σ) ∧ (v1 = 1 → Q (σ 125 10) σ) ∧ (v1 = 2 → (σ 125 11 = 0 → Q 0 σ) ∧ (¬ (σ 125 11 = 0) → Q (σ 125 31) σ))) : AWs mX11_size 21 [(0, vR 125), (1, vI v1)] [] S σ Q := by
  refine r_iload_n dX11_size_21 rfl ?_
  refine r_tsw (dt := 74) [48, 53, 58] dX11_size_22 rfl (by decide +kernel) rfl (fun h => ?_) ⟨fun h => ?_, fun h => ?_, fun h => ?_, trivial⟩
  · have k := k.1 h
    refine r_iconst dX11_size_74 ⟨by decide, by decide⟩ ?_
    exact s_iret dX11_size_75 rfl k
  · have k := k.2.1 h
    refine r_aload_n dX11_size_48 rfl ?_
    refine r_getIv dX11_size_49 fl_X11_105 rfl (k_125 hS) ?_
    exact s_iret dX11_size_52 rfl k
  · have k := k.2.2.1 h
    refine r_aload_n dX11_size_53 rfl ?_
    refine r_getIv dX11_size_54 fl_X11_226 rfl (k_125 hS) ?_
    exact s_iret dX11_size_57 rfl k
  · have k := k.2.2.2 h
    refine r_aload_n dX11_size_58 rfl ?_
    refine r_getIv dX11_size_59 fl_X11_223 rfl (k_125 hS) ?_
    refine r_if_eq (tgt := 72) dX11_size_62 rfl (fun h => ?_) (fun h => ?_)
    · have k := k.1 h
      refine r_iconst dX11_size_72 ⟨by decide, by decide⟩ ?_
      exact s_iret dX11_size_73 rfl k
    · have k := k.2 h
      refine r_aload_n dX11_size_65 rfl ?_
      refine r_getIv dX11_size_66 fl_X11_258 rfl (k_125 hS) ?_
      refine r_goto (tgt := 73) dX11_size_69 rfl ?_
      exact s_iret dX11_size_73 rfl k
theorem e_X11_trouble {S : ShT} {σ : StT} {Q : Int → StT → Prop} (hS : SHP S) (k : Q (σ 125 1) (up2 σ 125 0 0)) : WPs mX11_trouble [vR 125] S σ Q := by
  refine s_entry (by decide) (Nat.le_of_ble_eq_true rfl) rfl rfl ?_
  refine r_aload_n dX11_trouble_0 rfl ?_
  refine r_iconst dX11_trouble_1 ⟨by decide, by decide⟩ ?_
  refine r_putIv dX11_trouble_2 fl_X11_99 (fun _ h => by cases h; rfl) (Or.inl rfl) (k_125 hS) ?_
  refine r_aload_n dX11_trouble_5 rfl ?_
  refine r_getIv dX11_trouble_6 fl_X11_102 rfl (k_125 hS) ?_
  refine r_top (up2_i (by decide)) ?_
  exact s_iret dX11_trouble_9 rfl k
