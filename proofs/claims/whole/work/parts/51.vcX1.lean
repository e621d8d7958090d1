theorem e_X1_begin {g : Nat} {v1 : Int} {S : ShT} {σ : StT} {Q : Int → StT → Prop} (hS : SHP S) (hg : isG g) (k : AWs mX1_begin 12 [(0, vR g), (2, vI 0)] [] S (up2 σ g 4 (min v1 48)) Q) : WPs mX1_begin [vR g, vI v1] S σ Q := by
  refine s_entry (by decide) (Nat.le_of_ble_eq_true rfl) rfl rfl ?_
  refine r_aload_n dX1_begin_0 rfl ?_
  refine r_iload_n dX1_begin_1 rfl ?_
  refine r_bipush dX1_begin_2 (by decide +kernel) ⟨by decide, by decide⟩ ?_
  refine r_mmin dX1_begin_4 lk_X1_28 (by decide) (Nat.le_of_ble_eq_true rfl) ?_
  refine r_putIv dX1_begin_7 fl_X1_25 (fun _ h => by cases h; rfl) (Or.inl rfl) (kG hS hg) ?_
  refine r_iconst dX1_begin_10 ⟨by decide, by decide⟩ ?_
  refine r_istore_n dX1_begin_11 (by decide) rfl rfl ?_
  refine r_loc [0, 2] rfl ?_
  exact k
theorem t_X1_begin_12 {g : Nat} {v2 : Int} {S : ShT} {σ : StT} {Q : Int → StT → Prop} (hS : SHP S) (hg : isG g) (k : (σ g 4 ≤ v2 → Q 0 σ) ∧ (¬ (σ g 4 ≤ v2) → (0 ≤ v2 ∧ v2 < 48) ∧ inR (v2 + 1) ∧ AWs mX1_begin 12 [(0, vR g), (2, vI (v2 + 1))] [] S (up2 σ (g + 3) v2.toNat v2) Q)) : AWs mX1_begin 12 [(0, vR g), (2, vI v2)] [] S σ Q := by
  refine r_iload_n dX1_begin_12 rfl ?_
  refine r_aload_n dX1_begin_13 rfl ?_
  refine r_getIv dX1_begin_14 fl_X1_25 rfl (kG hS hg) ?_
  refine r_icmp_ge (tgt := 33) dX1_begin_17 rfl (fun h => ?_) (fun h => ?_)
  · have k := k.1 h
    exact s_vret dX1_begin_33 rfl k
  · have k := k.2 h
    refine r_aload_n dX1_begin_20 rfl ?_
    refine r_getRv dX1_begin_21 fl_X1_22 rfl (kG hS hg) (fG3 hS hg) (Nat.succ_ne_zero _) ?_
    refine r_iload_n dX1_begin_24 rfl ?_
    refine r_iload_n dX1_begin_25 rfl ?_
    obtain ⟨⟨h0, h1⟩, k⟩ := k
    refine r_iast dX1_begin_26 (kG3 hS hg) h0 h1 ?_
    obtain ⟨h, k⟩ := k
    refine r_iinc dX1_begin_27 rfl (by decide) rfl rfl h ?_
    refine r_goto (tgt := 12) dX1_begin_30 rfl ?_
    exact k
theorem e_X1_tie {g : Nat} {v1 v2 : Int} {S : ShT} {σ : StT} {Q : Int → StT → Prop} (hS : SHP S) (hg : isG g) (k : (0 ≤ v1 ∧ v1 < 48) ∧ ((0 ≤ v2 ∧ v2 < 48) ∧ ∀ x15 : Int, x15 = min (σ (g + 3) v1.toNat) (σ (g + 3) v2.toNat) → (0 ≤ v1 ∧ v1 < 48) ∧ ((0 ≤ v2 ∧ v2 < 48) ∧ ∀ x31 : Int, x31 = max (σ (g + 3) v1.toNat) (σ (g + 3) v2.toNat) → (¬ x15 = x31 → AWs mX1_tie 44 [(0, vR g), (3, vI x15), (4, vI x31), (5, vI x31)] [] S σ Q) ∧ (x15 = x31 → Q 0 σ)))) : WPs mX1_tie [vR g, vI v1, vI v2] S σ Q := by
  refine s_entry (by decide) (Nat.le_of_ble_eq_true rfl) rfl rfl ?_
  refine r_aload_n dX1_tie_0 rfl ?_
  refine r_getRv dX1_tie_1 fl_X1_22 rfl (kG hS hg) (fG3 hS hg) (Nat.succ_ne_zero _) ?_
  refine r_iload_n dX1_tie_4 rfl ?_
  obtain ⟨⟨h0, h1⟩, k⟩ := k
  refine r_iald dX1_tie_5 (Or.inl (kG3 hS hg)) h0 h1 ?_
  refine r_aload_n dX1_tie_6 rfl ?_
  refine r_getRv dX1_tie_7 fl_X1_22 rfl (kG hS hg) (fG3 hS hg) (Nat.succ_ne_zero _) ?_
  refine r_iload_n dX1_tie_10 rfl ?_
  obtain ⟨⟨h0, h1⟩, k⟩ := k
  refine r_iald dX1_tie_11 (Or.inl (kG3 hS hg)) h0 h1 ?_
  refine r_mmin dX1_tie_12 lk_X1_28 (by decide) (Nat.le_of_ble_eq_true rfl) ?_
  refine r_gen (fun x15 hx15 => ?_)
  have k := k x15 hx15
  refine r_istore_n dX1_tie_15 (by decide) rfl rfl ?_
  refine r_aload_n dX1_tie_16 rfl ?_
  refine r_getRv dX1_tie_17 fl_X1_22 rfl (kG hS hg) (fG3 hS hg) (Nat.succ_ne_zero _) ?_
  refine r_iload_n dX1_tie_20 rfl ?_
  obtain ⟨⟨h0, h1⟩, k⟩ := k
  refine r_iald dX1_tie_21 (Or.inl (kG3 hS hg)) h0 h1 ?_
  refine r_aload_n dX1_tie_22 rfl ?_
  refine r_getRv dX1_tie_23 fl_X1_22 rfl (kG hS hg) (fG3 hS hg) (Nat.succ_ne_zero _) ?_
  refine r_iload_n dX1_tie_26 rfl ?_
  obtain ⟨⟨h0, h1⟩, k⟩ := k
  refine r_iald dX1_tie_27 (Or.inl (kG3 hS hg)) h0 h1 ?_
  refine r_mmax dX1_tie_28 lk_X1_34 (by decide) (Nat.le_of_ble_eq_true rfl) ?_
  refine r_gen (fun x31 hx31 => ?_)
  have k := k x31 hx31
  refine r_istore dX1_tie_31 (by decide) rfl rfl ?_
  refine r_iload_n dX1_tie_33 rfl ?_
  refine r_iload dX1_tie_34 rfl ?_
  refine r_icmp_ne (tgt := 40) dX1_tie_36 rfl (fun h => ?_) (fun h => ?_)
  · have k := k.1 h
    refine r_iload dX1_tie_40 rfl ?_
    refine r_istore dX1_tie_42 (by decide) rfl rfl ?_
    refine r_loc [0, 3, 4, 5] rfl ?_
    exact k
  · have k := k.2 h
    exact s_vret dX1_tie_39 rfl k
theorem t_X1_tie_44 {g : Nat} {v3 v4 v5 : Int} {S : ShT} {σ : StT} {Q : Int → StT → Prop} (hS : SHP S) (hg : isG g) (k : (σ g 4 ≤ v5 → Q 0 σ) ∧ (¬ (σ g 4 ≤ v5) → (0 ≤ v5 ∧ v5 < 48) ∧ ((¬ σ (g + 3) v5.toNat = v4 → inR (v5 + 1) ∧ AWs mX1_tie 44 [(0, vR g), (3, vI v3), (4, vI v4), (5, vI (v5 + 1))] [] S σ Q) ∧ (σ (g + 3) v5.toNat = v4 → (0 ≤ v5 ∧ v5 < 48) ∧ inR (v5 + 1) ∧ AWs mX1_tie 44 [(0, vR g), (3, vI v3), (4, vI v4), (5, vI (v5 + 1))] [] S (up2 σ (g + 3) v5.toNat v3) Q)))) : AWs mX1_tie 44 [(0, vR g), (3, vI v3), (4, vI v4), (5, vI v5)] [] S σ Q := by
  refine r_iload dX1_tie_44 rfl ?_
  refine r_aload_n dX1_tie_46 rfl ?_
  refine r_getIv dX1_tie_47 fl_X1_25 rfl (kG hS hg) ?_
  refine r_icmp_ge (tgt := 79) dX1_tie_50 rfl (fun h => ?_) (fun h => ?_)
  · have k := k.1 h
    exact s_vret dX1_tie_79 rfl k
  · have k := k.2 h
    refine r_aload_n dX1_tie_53 rfl ?_
    refine r_getRv dX1_tie_54 fl_X1_22 rfl (kG hS hg) (fG3 hS hg) (Nat.succ_ne_zero _) ?_
    refine r_iload dX1_tie_57 rfl ?_
    obtain ⟨⟨h0, h1⟩, k⟩ := k
    refine r_iald dX1_tie_59 (Or.inl (kG3 hS hg)) h0 h1 ?_
    refine r_iload dX1_tie_60 rfl ?_
    refine r_icmp_ne (tgt := 73) dX1_tie_62 rfl (fun h => ?_) (fun h => ?_)
    · have k := k.1 h
      obtain ⟨h, k⟩ := k
      refine r_iinc dX1_tie_73 rfl (by decide) rfl rfl h ?_
      refine r_goto (tgt := 44) dX1_tie_76 rfl ?_
      exact k
    · have k := k.2 h
      refine r_aload_n dX1_tie_65 rfl ?_
      refine r_getRv dX1_tie_66 fl_X1_22 rfl (kG hS hg) (fG3 hS hg) (Nat.succ_ne_zero _) ?_
      refine r_iload dX1_tie_69 rfl ?_
      refine r_iload_n dX1_tie_71 rfl ?_
      obtain ⟨⟨h0, h1⟩, k⟩ := k
      refine r_iast dX1_tie_72 (kG3 hS hg) h0 h1 ?_
      obtain ⟨h, k⟩ := k
      refine r_iinc dX1_tie_73 rfl (by decide) rfl rfl h ?_
      refine r_goto (tgt := 44) dX1_tie_76 rfl ?_
      exact k
theorem e_X1_numberAll {g : Nat} {S : ShT} {σ : StT} {Q : Int → StT → Prop} (hS : SHP S) (hg : isG g) (k : AWs mX1_numberAll 7 [(0, vR g), (1, vI 0)] [] S (up2 σ g 2 0) Q) : WPs mX1_numberAll [vR g] S σ Q := by
  refine s_entry (by decide) (Nat.le_of_ble_eq_true rfl) rfl rfl ?_
  refine r_aload_n dX1_numberAll_0 rfl ?_
  refine r_iconst dX1_numberAll_1 ⟨by decide, by decide⟩ ?_
  refine r_putIv dX1_numberAll_2 fl_X1_18 (fun _ h => by cases h; rfl) (Or.inl rfl) (kG hS hg) ?_
  refine r_iconst dX1_numberAll_5 ⟨by decide, by decide⟩ ?_
  refine r_istore_n dX1_numberAll_6 (by decide) rfl rfl ?_
  exact k
theorem t_X1_numberAll_7 {g : Nat} {v1 : Int} {S : ShT} {σ : StT} {Q : Int → StT → Prop} (hS : SHP S) (hg : isG g) (k : (σ g 4 ≤ v1 → Q 0 σ) ∧ (¬ (σ g 4 ≤ v1) → (0 ≤ v1 ∧ v1 < 48) ∧ ((¬ σ (g + 3) v1.toNat = v1 → (0 ≤ v1 ∧ v1 < 48) ∧ (0 ≤ σ (g + 3) v1.toNat ∧ σ (g + 3) v1.toNat < 48) ∧ (0 ≤ v1 ∧ v1 < 48) ∧ inR (v1 + 1) ∧ AWs mX1_numberAll 7 [(0, vR g), (1, vI (v1 + 1))] [] S (up2 σ (g + 1) v1.toNat (σ (g + 1) (σ (g + 3) v1.toNat).toNat)) Q) ∧ (σ (g + 3) v1.toNat = v1 → (0 ≤ σ g 2 ∧ σ g 2 < 48) ∧ (0 ≤ v1 ∧ v1 < 48) ∧ inR ((σ g 2) + 1) ∧ inR (v1 + 1) ∧ AWs mX1_numberAll 7 [(0, vR g), (1, vI (v1 + 1))] [] S (up2 (up2 (up2 σ (g + 2) (σ g 2).toNat v1) (g + 1) v1.toNat (σ g 2)) g 2 ((σ g 2) + 1)) Q)))) : AWs mX1_numberAll 7 [(0, vR g), (1, vI v1)] [] S σ Q := by
  refine r_iload_n dX1_numberAll_7 rfl ?_
  refine r_aload_n dX1_numberAll_8 rfl ?_
  refine r_getIv dX1_numberAll_9 fl_X1_25 rfl (kG hS hg) ?_
  refine r_icmp_ge (tgt := 81) dX1_numberAll_12 rfl (fun h => ?_) (fun h => ?_)
  · have k := k.1 h
    exact s_vret dX1_numberAll_81 rfl k
  · have k := k.2 h
    refine r_aload_n dX1_numberAll_15 rfl ?_
    refine r_getRv dX1_numberAll_16 fl_X1_22 rfl (kG hS hg) (fG3 hS hg) (Nat.succ_ne_zero _) ?_
    refine r_iload_n dX1_numberAll_19 rfl ?_
    obtain ⟨⟨h0, h1⟩, k⟩ := k
    refine r_iald dX1_numberAll_20 (Or.inl (kG3 hS hg)) h0 h1 ?_
    refine r_iload_n dX1_numberAll_21 rfl ?_
    refine r_icmp_ne (tgt := 58) dX1_numberAll_22 rfl (fun h => ?_) (fun h => ?_)
    · have k := k.1 h
      refine r_aload_n dX1_numberAll_58 rfl ?_
      refine r_getRv dX1_numberAll_59 fl_X1_9 rfl (kG hS hg) (fG1 hS hg) (Nat.succ_ne_zero _) ?_
      refine r_iload_n dX1_numberAll_62 rfl ?_
      refine r_aload_n dX1_numberAll_63 rfl ?_
      refine r_getRv dX1_numberAll_64 fl_X1_9 rfl (kG hS hg) (fG1 hS hg) (Nat.succ_ne_zero _) ?_
      refine r_aload_n dX1_numberAll_67 rfl ?_
      refine r_getRv dX1_numberAll_68 fl_X1_22 rfl (kG hS hg) (fG3 hS hg) (Nat.succ_ne_zero _) ?_
      refine r_iload_n dX1_numberAll_71 rfl ?_
      obtain ⟨⟨h0, h1⟩, k⟩ := k
      refine r_iald dX1_numberAll_72 (Or.inl (kG3 hS hg)) h0 h1 ?_
      obtain ⟨⟨h0, h1⟩, k⟩ := k
      refine r_iald dX1_numberAll_73 (Or.inl (kG1 hS hg)) h0 h1 ?_
      obtain ⟨⟨h0, h1⟩, k⟩ := k
      refine r_iast dX1_numberAll_74 (kG1 hS hg) h0 h1 ?_
      obtain ⟨h, k⟩ := k
      refine r_iinc dX1_numberAll_75 rfl (by decide) rfl rfl h ?_
      refine r_goto (tgt := 7) dX1_numberAll_78 rfl ?_
      exact k
    · have k := k.2 h
      refine r_aload_n dX1_numberAll_25 rfl ?_
      refine r_getRv dX1_numberAll_26 fl_X1_15 rfl (kG hS hg) (fG2 hS hg) (Nat.succ_ne_zero _) ?_
      refine r_aload_n dX1_numberAll_29 rfl ?_
      refine r_getIv dX1_numberAll_30 fl_X1_18 rfl (kG hS hg) ?_
      refine r_iload_n dX1_numberAll_33 rfl ?_
      obtain ⟨⟨h0, h1⟩, k⟩ := k
      refine r_iast dX1_numberAll_34 (kG2 hS hg) h0 h1 ?_
      refine r_aload_n dX1_numberAll_35 rfl ?_
      refine r_getRv dX1_numberAll_36 fl_X1_9 rfl (kG hS hg) (fG1 hS hg) (Nat.succ_ne_zero _) ?_
      refine r_iload_n dX1_numberAll_39 rfl ?_
      refine r_aload_n dX1_numberAll_40 rfl ?_
      refine r_getIv dX1_numberAll_41 fl_X1_18 rfl (kG hS hg) ?_
      refine r_top (up2_a (by omega)) ?_
      obtain ⟨⟨h0, h1⟩, k⟩ := k
      refine r_iast dX1_numberAll_44 (kG1 hS hg) h0 h1 ?_
      refine r_aload_n dX1_numberAll_45 rfl ?_
      refine r_dup dX1_numberAll_46 rfl ?_
      refine r_getIv dX1_numberAll_47 fl_X1_18 rfl (kG hS hg) ?_
      refine r_top ((up2_a (by omega)).trans (up2_a (by omega))) ?_
      refine r_iconst dX1_numberAll_50 ⟨by decide, by decide⟩ ?_
      obtain ⟨h, k⟩ := k
      refine r_iadd dX1_numberAll_51 h ?_
      refine r_putIv dX1_numberAll_52 fl_X1_18 (fun _ h => by cases h; rfl) (Or.inl rfl) (kG hS hg) ?_
      refine r_goto (tgt := 75) dX1_numberAll_55 rfl ?_
      obtain ⟨h, k⟩ := k
      refine r_iinc dX1_numberAll_75 rfl (by decide) rfl rfl h ?_
      refine r_goto (tgt := 7) dX1_numberAll_78 rfl ?_
      exact k
