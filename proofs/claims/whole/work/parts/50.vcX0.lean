theorem e_X0_clear {d : Nat} {S : ShT} {σ : StT} {Q : Int → StT → Prop} (hS : SHP S) (hd : isD d) (k : Q 0 (up2 (up2 (up2 (up2 (up2 (up2 (up2 σ d 2 0) d 3 0) d 4 0) d 5 0) d 6 0) d 7 1) d 8 1)) : WPs mX0_clear [vR d] S σ Q := by
  refine s_entry (by decide) (Nat.le_of_ble_eq_true rfl) rfl rfl ?_
  refine r_aload_n dX0_clear_0 rfl ?_
  refine r_iconst dX0_clear_1 ⟨by decide, by decide⟩ ?_
  refine r_putIv dX0_clear_2 fl_X0_18 (fun _ h => by cases h; rfl) (Or.inl rfl) (kD hS hd) ?_
  refine r_aload_n dX0_clear_5 rfl ?_
  refine r_iconst dX0_clear_6 ⟨by decide, by decide⟩ ?_
  refine r_putIv dX0_clear_7 fl_X0_22 (fun _ h => by cases h; rfl) (Or.inl rfl) (kD hS hd) ?_
  refine r_aload_n dX0_clear_10 rfl ?_
  refine r_iconst dX0_clear_11 ⟨by decide, by decide⟩ ?_
  refine r_putIv dX0_clear_12 fl_X0_25 (fun _ h => by cases h; rfl) (Or.inl rfl) (kD hS hd) ?_
  refine r_aload_n dX0_clear_15 rfl ?_
  refine r_iconst dX0_clear_16 ⟨by decide, by decide⟩ ?_
  refine r_putIv dX0_clear_17 fl_X0_28 (fun _ h => by cases h; rfl) (Or.inl rfl) (kD hS hd) ?_
  refine r_aload_n dX0_clear_20 rfl ?_
  refine r_iconst dX0_clear_21 ⟨by decide, by decide⟩ ?_
  refine r_putIv dX0_clear_22 fl_X0_31 (fun _ h => by cases h; rfl) (Or.inl rfl) (kD hS hd) ?_
  refine r_aload_n dX0_clear_25 rfl ?_
  refine r_iconst dX0_clear_26 ⟨by decide, by decide⟩ ?_
  refine r_putIv dX0_clear_27 fl_X0_34 (fun _ h => by cases h; rfl) (Or.inl rfl) (kD hS hd) ?_
  refine r_aload_n dX0_clear_30 rfl ?_
  refine r_iconst dX0_clear_31 ⟨by decide, by decide⟩ ?_
  refine r_putIv dX0_clear_32 fl_X0_37 (fun _ h => by cases h; rfl) (Or.inl rfl) (kD hS hd) ?_
  exact s_vret dX0_clear_35 rfl k
theorem e_X0_copy {d : Nat} {e : Nat} {S : ShT} {σ : StT} {Q : Int → StT → Prop} (hS : SHP S) (hd : isD d) (he : isD e) (hne : d + 2 < e ∨ e + 2 < d) (k : AWs mX0_copy 58 [(0, vR d), (1, vR e), (2, vI 0)] [] S (up2 (up2 (up2 (up2 (up2 (up2 (up2 σ d 2 (σ e 2)) d 3 (σ e 3)) d 4 (σ e 4)) d 5 (σ e 5)) d 6 (σ e 6)) d 7 (σ e 7)) d 8 (σ e 8)) Q) : WPs mX0_copy [vR d, vR e] S σ Q := by
  refine s_entry (by decide) (Nat.le_of_ble_eq_true rfl) rfl rfl ?_
  refine r_aload_n dX0_copy_0 rfl ?_
  refine r_aload_n dX0_copy_1 rfl ?_
  refine r_getIv dX0_copy_2 fl_X0_18 rfl (kD hS he) ?_
  refine r_putIv dX0_copy_5 fl_X0_18 (fun _ h => by cases h; rfl) (Or.inl rfl) (kD hS hd) ?_
  refine r_aload_n dX0_copy_8 rfl ?_
  refine r_aload_n dX0_copy_9 rfl ?_
  refine r_getIv dX0_copy_10 fl_X0_22 rfl (kD hS he) ?_
  refine r_top (up2_a (by omega)) ?_
  refine r_putIv dX0_copy_13 fl_X0_22 (fun _ h => by cases h; rfl) (Or.inl rfl) (kD hS hd) ?_
  refine r_aload_n dX0_copy_16 rfl ?_
  refine r_aload_n dX0_copy_17 rfl ?_
  refine r_getIv dX0_copy_18 fl_X0_25 rfl (kD hS he) ?_
  refine r_top ((up2_a (by omega)).trans (up2_a (by omega))) ?_
  refine r_putIv dX0_copy_21 fl_X0_25 (fun _ h => by cases h; rfl) (Or.inl rfl) (kD hS hd) ?_
  refine r_aload_n dX0_copy_24 rfl ?_
  refine r_aload_n dX0_copy_25 rfl ?_
  refine r_getIv dX0_copy_26 fl_X0_28 rfl (kD hS he) ?_
  refine r_top ((up2_a (by omega)).trans ((up2_a (by omega)).trans (up2_a (by omega)))) ?_
  refine r_putIv dX0_copy_29 fl_X0_28 (fun _ h => by cases h; rfl) (Or.inl rfl) (kD hS hd) ?_
  refine r_aload_n dX0_copy_32 rfl ?_
  refine r_aload_n dX0_copy_33 rfl ?_
  refine r_getIv dX0_copy_34 fl_X0_31 rfl (kD hS he) ?_
  refine r_top ((up2_a (by omega)).trans ((up2_a (by omega)).trans ((up2_a (by omega)).trans (up2_a (by omega))))) ?_
  refine r_putIv dX0_copy_37 fl_X0_31 (fun _ h => by cases h; rfl) (Or.inl rfl) (kD hS hd) ?_
  refine r_aload_n dX0_copy_40 rfl ?_
  refine r_aload_n dX0_copy_41 rfl ?_
  refine r_getIv dX0_copy_42 fl_X0_34 rfl (kD hS he) ?_
  refine r_top ((up2_a (by omega)).trans ((up2_a (by omega)).trans ((up2_a (by omega)).trans ((up2_a (by omega)).trans (up2_a (by omega)))))) ?_
  refine r_putIv dX0_copy_45 fl_X0_34 (fun _ h => by cases h; rfl) (Or.inl rfl) (kD hS hd) ?_
  refine r_aload_n dX0_copy_48 rfl ?_
  refine r_aload_n dX0_copy_49 rfl ?_
  refine r_getIv dX0_copy_50 fl_X0_37 rfl (kD hS he) ?_
  refine r_top ((up2_a (by omega)).trans ((up2_a (by omega)).trans ((up2_a (by omega)).trans ((up2_a (by omega)).trans ((up2_a (by omega)).trans (up2_a (by omega))))))) ?_
  refine r_putIv dX0_copy_53 fl_X0_37 (fun _ h => by cases h; rfl) (Or.inl rfl) (kD hS hd) ?_
  refine r_iconst dX0_copy_56 ⟨by decide, by decide⟩ ?_
  refine r_istore_n dX0_copy_57 (by decide) rfl rfl ?_
  exact k
theorem t_X0_copy_58 {d : Nat} {e : Nat} {v2 : Int} {S : ShT} {σ : StT} {Q : Int → StT → Prop} (hS : SHP S) (hd : isD d) (he : isD e) (hne : d + 2 < e ∨ e + 2 < d) (k : inR (2 * (σ d 2)) ∧ ((2 * (σ d 2) ≤ v2 → Q 0 σ) ∧ (¬ (2 * (σ d 2) ≤ v2) → (0 ≤ v2 ∧ v2 < 48) ∧ (0 ≤ v2 ∧ v2 < 48) ∧ (0 ≤ v2 ∧ v2 < 48) ∧ (0 ≤ v2 ∧ v2 < 48) ∧ inR (v2 + 1) ∧ AWs mX0_copy 58 [(0, vR d), (1, vR e), (2, vI (v2 + 1))] [] S (up2 (up2 σ (d + 1) v2.toNat (σ (e + 1) v2.toNat)) (d + 2) v2.toNat (σ (e + 2) v2.toNat)) Q))) : AWs mX0_copy 58 [(0, vR d), (1, vR e), (2, vI v2)] [] S σ Q := by
  refine r_iload_n dX0_copy_58 rfl ?_
  refine r_iconst dX0_copy_59 ⟨by decide, by decide⟩ ?_
  refine r_aload_n dX0_copy_60 rfl ?_
  refine r_getIv dX0_copy_61 fl_X0_18 rfl (kD hS hd) ?_
  obtain ⟨h, k⟩ := k
  refine r_imul dX0_copy_64 h ?_
  refine r_icmp_ge (tgt := 98) dX0_copy_65 rfl (fun h => ?_) (fun h => ?_)
  · have k := k.1 h
    exact s_vret dX0_copy_98 rfl k
  · have k := k.2 h
    refine r_aload_n dX0_copy_68 rfl ?_
    refine r_getRv dX0_copy_69 fl_X0_9 rfl (kD hS hd) (fD1 hS hd) (Nat.succ_ne_zero _) ?_
    refine r_iload_n dX0_copy_72 rfl ?_
    refine r_aload_n dX0_copy_73 rfl ?_
    refine r_getRv dX0_copy_74 fl_X0_9 rfl (kD hS he) (fD1 hS he) (Nat.succ_ne_zero _) ?_
    refine r_iload_n dX0_copy_77 rfl ?_
    obtain ⟨⟨h0, h1⟩, k⟩ := k
    refine r_iald dX0_copy_78 (Or.inl (kD1 hS he)) h0 h1 ?_
    obtain ⟨⟨h0, h1⟩, k⟩ := k
    refine r_iast dX0_copy_79 (kD1 hS hd) h0 h1 ?_
    refine r_aload_n dX0_copy_80 rfl ?_
    refine r_getRv dX0_copy_81 fl_X0_15 rfl (kD hS hd) (fD2 hS hd) (Nat.succ_ne_zero _) ?_
    refine r_iload_n dX0_copy_84 rfl ?_
    refine r_aload_n dX0_copy_85 rfl ?_
    refine r_getRv dX0_copy_86 fl_X0_15 rfl (kD hS he) (fD2 hS he) (Nat.succ_ne_zero _) ?_
    refine r_iload_n dX0_copy_89 rfl ?_
    obtain ⟨⟨h0, h1⟩, k⟩ := k
    refine r_iald dX0_copy_90 (Or.inl (kD2 hS he)) h0 h1 ?_
    refine r_top (up2_a (by omega)) ?_
    obtain ⟨⟨h0, h1⟩, k⟩ := k
    refine r_iast dX0_copy_91 (kD2 hS hd) h0 h1 ?_
    obtain ⟨h, k⟩ := k
    refine r_iinc dX0_copy_92 rfl (by decide) rfl rfl h ?_
    refine r_goto (tgt := 58) dX0_copy_95 rfl ?_
    exact k
theorem e_X0_hasPoint {d : Nat} {v1 v2 : Int} {S : ShT} {σ : StT} {Q : Int → StT → Prop} (hS : SHP S) (hd : isD d) (k : (v1 < 0 → Q 0 σ) ∧ (¬ (v1 < 0) → (σ d 3 < v1 → Q 0 σ) ∧ (¬ (σ d 3 < v1) → (v2 < 0 → Q 0 σ) ∧ (¬ (v2 < 0) → (σ d 3 < v2 → Q 0 σ) ∧ (¬ (σ d 3 < v2) → Q 1 σ))))) : WPs mX0_hasPoint [vR d, vI v1, vI v2] S σ Q := by
  refine s_entry (by decide) (Nat.le_of_ble_eq_true rfl) rfl rfl ?_
  refine r_iload_n dX0_hasPoint_0 rfl ?_
  refine r_if_lt (tgt := 28) dX0_hasPoint_1 rfl (fun h => ?_) (fun h => ?_)
  · have k := k.1 h
    refine r_iconst dX0_hasPoint_28 ⟨by decide, by decide⟩ ?_
    exact s_zret dX0_hasPoint_29 rfl (by decide) k
  · have k := k.2 h
    refine r_iload_n dX0_hasPoint_4 rfl ?_
    refine r_aload_n dX0_hasPoint_5 rfl ?_
    refine r_getIv dX0_hasPoint_6 fl_X0_22 rfl (kD hS hd) ?_
    refine r_icmp_gt (tgt := 28) dX0_hasPoint_9 rfl (fun h => ?_) (fun h => ?_)
    · have k := k.1 h
      refine r_iconst dX0_hasPoint_28 ⟨by decide, by decide⟩ ?_
      exact s_zret dX0_hasPoint_29 rfl (by decide) k
    · have k := k.2 h
      refine r_iload_n dX0_hasPoint_12 rfl ?_
      refine r_if_lt (tgt := 28) dX0_hasPoint_13 rfl (fun h => ?_) (fun h => ?_)
      · have k := k.1 h
        refine r_iconst dX0_hasPoint_28 ⟨by decide, by decide⟩ ?_
        exact s_zret dX0_hasPoint_29 rfl (by decide) k
      · have k := k.2 h
        refine r_iload_n dX0_hasPoint_16 rfl ?_
        refine r_aload_n dX0_hasPoint_17 rfl ?_
        refine r_getIv dX0_hasPoint_18 fl_X0_22 rfl (kD hS hd) ?_
        refine r_icmp_gt (tgt := 28) dX0_hasPoint_21 rfl (fun h => ?_) (fun h => ?_)
        · have k := k.1 h
          refine r_iconst dX0_hasPoint_28 ⟨by decide, by decide⟩ ?_
          exact s_zret dX0_hasPoint_29 rfl (by decide) k
        · have k := k.2 h
          refine r_iconst dX0_hasPoint_24 ⟨by decide, by decide⟩ ?_
          refine r_goto (tgt := 29) dX0_hasPoint_25 rfl ?_
          exact s_zret dX0_hasPoint_29 rfl (by decide) k
theorem e_X0_putStroke {d : Nat} {v1 v2 v3 v4 : Int} {S : ShT} {σ : StT} {Q : Int → StT → Prop} (hS : SHP S) (hd : isD d) (k : (σ d 2 < 24 → inR (2 * (σ d 2)) ∧ (0 ≤ 2 * (σ d 2) ∧ 2 * (σ d 2) < 48) ∧ inR (2 * (σ d 2)) ∧ (0 ≤ 2 * (σ d 2) ∧ 2 * (σ d 2) < 48) ∧ inR (2 * (σ d 2)) ∧ inR ((2 * (σ d 2)) + 1) ∧ (0 ≤ (2 * (σ d 2)) + 1 ∧ (2 * (σ d 2)) + 1 < 48) ∧ inR (2 * (σ d 2)) ∧ inR ((2 * (σ d 2)) + 1) ∧ (0 ≤ (2 * (σ d 2)) + 1 ∧ (2 * (σ d 2)) + 1 < 48) ∧ inR ((σ d 2) + 1) ∧ Q 0 (up2 (up2 (up2 (up2 (up2 σ (d + 1) (2 * (σ d 2)).toNat v1) (d + 2) (2 * (σ d 2)).toNat v2) (d + 1) ((2 * (σ d 2)) + 1).toNat v3) (d + 2) ((2 * (σ d 2)) + 1).toNat v4) d 2 ((σ d 2) + 1))) ∧ (¬ (σ d 2 < 24) → Q 0 σ)) : WPs mX0_putStroke [vR d, vI v1, vI v2, vI v3, vI v4] S σ Q := by
  refine s_entry (by decide) (Nat.le_of_ble_eq_true rfl) rfl rfl ?_
  refine r_aload_n dX0_putStroke_0 rfl ?_
  refine r_getIv dX0_putStroke_1 fl_X0_18 rfl (kD hS hd) ?_
  refine r_bipush dX0_putStroke_4 (by decide +kernel) ⟨by decide, by decide⟩ ?_
  refine r_icmp_lt (tgt := 10) dX0_putStroke_6 rfl (fun h => ?_) (fun h => ?_)
  · have k := k.1 h
    refine r_aload_n dX0_putStroke_10 rfl ?_
    refine r_getRv dX0_putStroke_11 fl_X0_9 rfl (kD hS hd) (fD1 hS hd) (Nat.succ_ne_zero _) ?_
    refine r_iconst dX0_putStroke_14 ⟨by decide, by decide⟩ ?_
    refine r_aload_n dX0_putStroke_15 rfl ?_
    refine r_getIv dX0_putStroke_16 fl_X0_18 rfl (kD hS hd) ?_
    obtain ⟨h, k⟩ := k
    refine r_imul dX0_putStroke_19 h ?_
    refine r_iload_n dX0_putStroke_20 rfl ?_
    obtain ⟨⟨h0, h1⟩, k⟩ := k
    refine r_iast dX0_putStroke_21 (kD1 hS hd) h0 h1 ?_
    refine r_aload_n dX0_putStroke_22 rfl ?_
    refine r_getRv dX0_putStroke_23 fl_X0_15 rfl (kD hS hd) (fD2 hS hd) (Nat.succ_ne_zero _) ?_
    refine r_iconst dX0_putStroke_26 ⟨by decide, by decide⟩ ?_
    refine r_aload_n dX0_putStroke_27 rfl ?_
    refine r_getIv dX0_putStroke_28 fl_X0_18 rfl (kD hS hd) ?_
    refine r_top (up2_a (by omega)) ?_
    obtain ⟨h, k⟩ := k
    refine r_imul dX0_putStroke_31 h ?_
    refine r_iload_n dX0_putStroke_32 rfl ?_
    obtain ⟨⟨h0, h1⟩, k⟩ := k
    refine r_iast dX0_putStroke_33 (kD2 hS hd) h0 h1 ?_
    refine r_aload_n dX0_putStroke_34 rfl ?_
    refine r_getRv dX0_putStroke_35 fl_X0_9 rfl (kD hS hd) (fD1 hS hd) (Nat.succ_ne_zero _) ?_
    refine r_iconst dX0_putStroke_38 ⟨by decide, by decide⟩ ?_
    refine r_aload_n dX0_putStroke_39 rfl ?_
    refine r_getIv dX0_putStroke_40 fl_X0_18 rfl (kD hS hd) ?_
    refine r_top ((up2_a (by omega)).trans (up2_a (by omega))) ?_
    obtain ⟨h, k⟩ := k
    refine r_imul dX0_putStroke_43 h ?_
    refine r_iconst dX0_putStroke_44 ⟨by decide, by decide⟩ ?_
    obtain ⟨h, k⟩ := k
    refine r_iadd dX0_putStroke_45 h ?_
    refine r_iload_n dX0_putStroke_46 rfl ?_
    obtain ⟨⟨h0, h1⟩, k⟩ := k
    refine r_iast dX0_putStroke_47 (kD1 hS hd) h0 h1 ?_
    refine r_aload_n dX0_putStroke_48 rfl ?_
    refine r_getRv dX0_putStroke_49 fl_X0_15 rfl (kD hS hd) (fD2 hS hd) (Nat.succ_ne_zero _) ?_
    refine r_iconst dX0_putStroke_52 ⟨by decide, by decide⟩ ?_
    refine r_aload_n dX0_putStroke_53 rfl ?_
    refine r_getIv dX0_putStroke_54 fl_X0_18 rfl (kD hS hd) ?_
    refine r_top ((up2_a (by omega)).trans ((up2_a (by omega)).trans (up2_a (by omega)))) ?_
    obtain ⟨h, k⟩ := k
    refine r_imul dX0_putStroke_57 h ?_
    refine r_iconst dX0_putStroke_58 ⟨by decide, by decide⟩ ?_
    obtain ⟨h, k⟩ := k
    refine r_iadd dX0_putStroke_59 h ?_
    refine r_iload dX0_putStroke_60 rfl ?_
    obtain ⟨⟨h0, h1⟩, k⟩ := k
    refine r_iast dX0_putStroke_62 (kD2 hS hd) h0 h1 ?_
    refine r_aload_n dX0_putStroke_63 rfl ?_
    refine r_dup dX0_putStroke_64 rfl ?_
    refine r_getIv dX0_putStroke_65 fl_X0_18 rfl (kD hS hd) ?_
    refine r_top ((up2_a (by omega)).trans ((up2_a (by omega)).trans ((up2_a (by omega)).trans (up2_a (by omega))))) ?_
    refine r_iconst dX0_putStroke_68 ⟨by decide, by decide⟩ ?_
    obtain ⟨h, k⟩ := k
    refine r_iadd dX0_putStroke_69 h ?_
    refine r_putIv dX0_putStroke_70 fl_X0_18 (fun _ h => by cases h; rfl) (Or.inl rfl) (kD hS hd) ?_
    exact s_vret dX0_putStroke_73 rfl k
  · have k := k.2 h
    exact s_vret dX0_putStroke_9 rfl k
theorem e_X0_removeStroke {d : Nat} {v1 : Int} {S : ShT} {σ : StT} {Q : Int → StT → Prop} (hS : SHP S) (hd : isD d) (k : (v1 < 0 → Q 0 σ) ∧ (¬ (v1 < 0) → (v1 < σ d 2 → inR ((σ d 2) - 1) ∧ inR (2 * v1) ∧ AWs mX0_removeStroke 27 [(0, vR d), (2, vI (2 * v1))] [] S (up2 σ d 2 ((σ d 2) - 1)) Q) ∧ (¬ (v1 < σ d 2) → Q 0 σ))) : WPs mX0_removeStroke [vR d, vI v1] S σ Q := by
  refine s_entry (by decide) (Nat.le_of_ble_eq_true rfl) rfl rfl ?_
  refine r_iload_n dX0_removeStroke_0 rfl ?_
  refine r_if_lt (tgt := 12) dX0_removeStroke_1 rfl (fun h => ?_) (fun h => ?_)
  · have k := k.1 h
    exact s_vret dX0_removeStroke_12 rfl k
  · have k := k.2 h
    refine r_iload_n dX0_removeStroke_4 rfl ?_
    refine r_aload_n dX0_removeStroke_5 rfl ?_
    refine r_getIv dX0_removeStroke_6 fl_X0_18 rfl (kD hS hd) ?_
    refine r_icmp_lt (tgt := 13) dX0_removeStroke_9 rfl (fun h => ?_) (fun h => ?_)
    · have k := k.1 h
      refine r_aload_n dX0_removeStroke_13 rfl ?_
      refine r_dup dX0_removeStroke_14 rfl ?_
      refine r_getIv dX0_removeStroke_15 fl_X0_18 rfl (kD hS hd) ?_
      refine r_iconst dX0_removeStroke_18 ⟨by decide, by decide⟩ ?_
      obtain ⟨h, k⟩ := k
      refine r_isub dX0_removeStroke_19 h ?_
      refine r_putIv dX0_removeStroke_20 fl_X0_18 (fun _ h => by cases h; rfl) (Or.inl rfl) (kD hS hd) ?_
      refine r_iconst dX0_removeStroke_23 ⟨by decide, by decide⟩ ?_
      refine r_iload_n dX0_removeStroke_24 rfl ?_
      obtain ⟨h, k⟩ := k
      refine r_imul dX0_removeStroke_25 h ?_
      refine r_istore_n dX0_removeStroke_26 (by decide) rfl rfl ?_
      refine r_loc [0, 2] rfl ?_
      exact k
    · have k := k.2 h
      exact s_vret dX0_removeStroke_12 rfl k
theorem t_X0_removeStroke_27 {d : Nat} {v2 : Int} {S : ShT} {σ : StT} {Q : Int → StT → Prop} (hS : SHP S) (hd : isD d) (k : inR (2 * (σ d 2)) ∧ ((2 * (σ d 2) ≤ v2 → Q 0 σ) ∧ (¬ (2 * (σ d 2) ≤ v2) → inR (v2 + 2) ∧ (0 ≤ v2 + 2 ∧ v2 + 2 < 48) ∧ (0 ≤ v2 ∧ v2 < 48) ∧ inR (v2 + 2) ∧ (0 ≤ v2 + 2 ∧ v2 + 2 < 48) ∧ (0 ≤ v2 ∧ v2 < 48) ∧ inR (v2 + 1) ∧ AWs mX0_removeStroke 27 [(0, vR d), (2, vI (v2 + 1))] [] S (up2 (up2 σ (d + 1) v2.toNat (σ (d + 1) (v2 + 2).toNat)) (d + 2) v2.toNat (σ (d + 2) (v2 + 2).toNat)) Q))) : AWs mX0_removeStroke 27 [(0, vR d), (2, vI v2)] [] S σ Q := by
  refine r_iload_n dX0_removeStroke_27 rfl ?_
  refine r_iconst dX0_removeStroke_28 ⟨by decide, by decide⟩ ?_
  refine r_aload_n dX0_removeStroke_29 rfl ?_
  refine r_getIv dX0_removeStroke_30 fl_X0_18 rfl (kD hS hd) ?_
  obtain ⟨h, k⟩ := k
  refine r_imul dX0_removeStroke_33 h ?_
  refine r_icmp_ge (tgt := 71) dX0_removeStroke_34 rfl (fun h => ?_) (fun h => ?_)
  · have k := k.1 h
    exact s_vret dX0_removeStroke_71 rfl k
  · have k := k.2 h
    refine r_aload_n dX0_removeStroke_37 rfl ?_
    refine r_getRv dX0_removeStroke_38 fl_X0_9 rfl (kD hS hd) (fD1 hS hd) (Nat.succ_ne_zero _) ?_
    refine r_iload_n dX0_removeStroke_41 rfl ?_
    refine r_aload_n dX0_removeStroke_42 rfl ?_
    refine r_getRv dX0_removeStroke_43 fl_X0_9 rfl (kD hS hd) (fD1 hS hd) (Nat.succ_ne_zero _) ?_
    refine r_iload_n dX0_removeStroke_46 rfl ?_
    refine r_iconst dX0_removeStroke_47 ⟨by decide, by decide⟩ ?_
    obtain ⟨h, k⟩ := k
    refine r_iadd dX0_removeStroke_48 h ?_
    obtain ⟨⟨h0, h1⟩, k⟩ := k
    refine r_iald dX0_removeStroke_49 (Or.inl (kD1 hS hd)) h0 h1 ?_
    obtain ⟨⟨h0, h1⟩, k⟩ := k
    refine r_iast dX0_removeStroke_50 (kD1 hS hd) h0 h1 ?_
    refine r_aload_n dX0_removeStroke_51 rfl ?_
    refine r_getRv dX0_removeStroke_52 fl_X0_15 rfl (kD hS hd) (fD2 hS hd) (Nat.succ_ne_zero _) ?_
    refine r_iload_n dX0_removeStroke_55 rfl ?_
    refine r_aload_n dX0_removeStroke_56 rfl ?_
    refine r_getRv dX0_removeStroke_57 fl_X0_15 rfl (kD hS hd) (fD2 hS hd) (Nat.succ_ne_zero _) ?_
    refine r_iload_n dX0_removeStroke_60 rfl ?_
    refine r_iconst dX0_removeStroke_61 ⟨by decide, by decide⟩ ?_
    obtain ⟨h, k⟩ := k
    refine r_iadd dX0_removeStroke_62 h ?_
    obtain ⟨⟨h0, h1⟩, k⟩ := k
    refine r_iald dX0_removeStroke_63 (Or.inl (kD2 hS hd)) h0 h1 ?_
    refine r_top (up2_a (by omega)) ?_
    obtain ⟨⟨h0, h1⟩, k⟩ := k
    refine r_iast dX0_removeStroke_64 (kD2 hS hd) h0 h1 ?_
    obtain ⟨h, k⟩ := k
    refine r_iinc dX0_removeStroke_65 rfl (by decide) rfl rfl h ?_
    refine r_goto (tgt := 27) dX0_removeStroke_68 rfl ?_
    exact k
theorem e_X0_endsApart {d : Nat} {v1 v2 : Int} {S : ShT} {σ : StT} {Q : Int → StT → Prop} (hS : SHP S) (hd : isD d) (k : (0 ≤ v1 ∧ v1 < 48) ∧ (0 ≤ v2 ∧ v2 < 48) ∧ inR ((σ (d + 1) v1.toNat) - (σ (d + 1) v2.toNat)) ∧ inR (-((σ (d + 1) v1.toNat) - (σ (d + 1) v2.toNat))) ∧ (0 ≤ v1 ∧ v1 < 48) ∧ (0 ≤ v2 ∧ v2 < 48) ∧ inR ((σ (d + 2) v1.toNat) - (σ (d + 2) v2.toNat)) ∧ inR (-((σ (d + 2) v1.toNat) - (σ (d + 2) v2.toNat))) ∧ inR ((iab ((σ (d + 1) v1.toNat) - (σ (d + 1) v2.toNat))) + (iab ((σ (d + 2) v1.toNat) - (σ (d + 2) v2.toNat)))) ∧ Q ((iab ((σ (d + 1) v1.toNat) - (σ (d + 1) v2.toNat))) + (iab ((σ (d + 2) v1.toNat) - (σ (d + 2) v2.toNat)))) σ) : WPs mX0_endsApart [vR d, vI v1, vI v2] S σ Q := by
  refine s_entry (by decide) (Nat.le_of_ble_eq_true rfl) rfl rfl ?_
  refine r_aload_n dX0_endsApart_0 rfl ?_
  refine r_getRv dX0_endsApart_1 fl_X0_9 rfl (kD hS hd) (fD1 hS hd) (Nat.succ_ne_zero _) ?_
  refine r_iload_n dX0_endsApart_4 rfl ?_
  obtain ⟨⟨h0, h1⟩, k⟩ := k
  refine r_iald dX0_endsApart_5 (Or.inl (kD1 hS hd)) h0 h1 ?_
  refine r_aload_n dX0_endsApart_6 rfl ?_
  refine r_getRv dX0_endsApart_7 fl_X0_9 rfl (kD hS hd) (fD1 hS hd) (Nat.succ_ne_zero _) ?_
  refine r_iload_n dX0_endsApart_10 rfl ?_
  obtain ⟨⟨h0, h1⟩, k⟩ := k
  refine r_iald dX0_endsApart_11 (Or.inl (kD1 hS hd)) h0 h1 ?_
  obtain ⟨h, k⟩ := k
  refine r_isub dX0_endsApart_12 h ?_
  obtain ⟨h, k⟩ := k
  refine r_mabs dX0_endsApart_13 lk_X0_40 (by decide) (Nat.le_of_ble_eq_true rfl) h ?_
  refine r_aload_n dX0_endsApart_16 rfl ?_
  refine r_getRv dX0_endsApart_17 fl_X0_15 rfl (kD hS hd) (fD2 hS hd) (Nat.succ_ne_zero _) ?_
  refine r_iload_n dX0_endsApart_20 rfl ?_
  obtain ⟨⟨h0, h1⟩, k⟩ := k
  refine r_iald dX0_endsApart_21 (Or.inl (kD2 hS hd)) h0 h1 ?_
  refine r_aload_n dX0_endsApart_22 rfl ?_
  refine r_getRv dX0_endsApart_23 fl_X0_15 rfl (kD hS hd) (fD2 hS hd) (Nat.succ_ne_zero _) ?_
  refine r_iload_n dX0_endsApart_26 rfl ?_
  obtain ⟨⟨h0, h1⟩, k⟩ := k
  refine r_iald dX0_endsApart_27 (Or.inl (kD2 hS hd)) h0 h1 ?_
  obtain ⟨h, k⟩ := k
  refine r_isub dX0_endsApart_28 h ?_
  obtain ⟨h, k⟩ := k
  refine r_mabs dX0_endsApart_29 lk_X0_40 (by decide) (Nat.le_of_ble_eq_true rfl) h ?_
  obtain ⟨h, k⟩ := k
  refine r_iadd dX0_endsApart_32 h ?_
  exact s_iret dX0_endsApart_33 rfl k
theorem e_X0_strokeLength {d : Nat} {v1 : Int} {S : ShT} {σ : StT} {Q : Int → StT → Prop} (hS : SHP S) (hd : isD d) (k : inR (2 * v1) ∧ inR (2 * v1) ∧ inR ((2 * v1) + 1) ∧ WPs mX0_endsApart [vR d, vI (2 * v1), vI ((2 * v1) + 1)] S σ (fun r9 s9 => Q r9 s9)) : WPs mX0_strokeLength [vR d, vI v1] S σ Q := by
  refine s_entry (by decide) (Nat.le_of_ble_eq_true rfl) rfl rfl ?_
  refine r_aload_n dX0_strokeLength_0 rfl ?_
  refine r_iconst dX0_strokeLength_1 ⟨by decide, by decide⟩ ?_
  refine r_iload_n dX0_strokeLength_2 rfl ?_
  obtain ⟨h, k⟩ := k
  refine r_imul dX0_strokeLength_3 h ?_
  refine r_iconst dX0_strokeLength_4 ⟨by decide, by decide⟩ ?_
  refine r_iload_n dX0_strokeLength_5 rfl ?_
  obtain ⟨h, k⟩ := k
  refine r_imul dX0_strokeLength_6 h ?_
  refine r_iconst dX0_strokeLength_7 ⟨by decide, by decide⟩ ?_
  obtain ⟨h, k⟩ := k
  refine r_iadd dX0_strokeLength_8 h ?_
  refine s_callVv (z := mX0_endsApart) [vI (2 * v1), vI ((2 * v1) + 1)] dX0_strokeLength_9 mv_X0_endsApart lk_X0_46 rfl (by decide) (kD hS hd) (Nat.le_of_ble_eq_true rfl) (WPs.mono k (fun r9 s9 k => ?_))
  exact s_iret dX0_strokeLength_12 rfl k
theorem e_X0_allLengths {d : Nat} {S : ShT} {σ : StT} {Q : Int → StT → Prop} (hS : SHP S) (hd : isD d) (k : AWs mX0_allLengths 4 [(0, vR d), (1, vI 0), (2, vI 0)] [] S σ Q) : WPs mX0_allLengths [vR d] S σ Q := by
  refine s_entry (by decide) (Nat.le_of_ble_eq_true rfl) rfl rfl ?_
  refine r_iconst dX0_allLengths_0 ⟨by decide, by decide⟩ ?_
  refine r_istore_n dX0_allLengths_1 (by decide) rfl rfl ?_
  refine r_iconst dX0_allLengths_2 ⟨by decide, by decide⟩ ?_
  refine r_istore_n dX0_allLengths_3 (by decide) rfl rfl ?_
  exact k
theorem t_X0_allLengths_4 {d : Nat} {v1 v2 : Int} {S : ShT} {σ : StT} {Q : Int → StT → Prop} (hS : SHP S) (hd : isD d) (k : (σ d 2 ≤ v2 → Q v1 σ) ∧ (¬ (σ d 2 ≤ v2) → WPs mX0_strokeLength [vR d, vI v2] S σ (fun r15 s15 => inR (v1 + r15) ∧ inR (v2 + 1) ∧ AWs mX0_allLengths 4 [(0, vR d), (1, vI (v1 + r15)), (2, vI (v2 + 1))] [] S s15 Q))) : AWs mX0_allLengths 4 [(0, vR d), (1, vI v1), (2, vI v2)] [] S σ Q := by
  refine r_iload_n dX0_allLengths_4 rfl ?_
  refine r_aload_n dX0_allLengths_5 rfl ?_
  refine r_getIv dX0_allLengths_6 fl_X0_18 rfl (kD hS hd) ?_
  refine r_icmp_ge (tgt := 26) dX0_allLengths_9 rfl (fun h => ?_) (fun h => ?_)
  · have k := k.1 h
    refine r_iload_n dX0_allLengths_26 rfl ?_
    exact s_iret dX0_allLengths_27 rfl k
  · have k := k.2 h
    refine r_iload_n dX0_allLengths_12 rfl ?_
    refine r_aload_n dX0_allLengths_13 rfl ?_
    refine r_iload_n dX0_allLengths_14 rfl ?_
    refine s_callVv (z := mX0_strokeLength) [vI v2] dX0_allLengths_15 mv_X0_strokeLength lk_X0_50 rfl (by decide) (kD hS hd) (Nat.le_of_ble_eq_true rfl) (WPs.mono k (fun r15 s15 k => ?_))
    obtain ⟨h, k⟩ := k
    refine r_iadd dX0_allLengths_18 h ?_
    refine r_istore_n dX0_allLengths_19 (by decide) rfl rfl ?_
    obtain ⟨h, k⟩ := k
    refine r_iinc dX0_allLengths_20 rfl (by decide) rfl rfl h ?_
    refine r_goto (tgt := 4) dX0_allLengths_23 rfl ?_
    exact k
