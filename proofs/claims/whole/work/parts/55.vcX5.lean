theorem e_X5_start {p : Nat} {S : ShT} {σ : StT} {Q : Int → StT → Prop} (hS : SHP S) (hp : isP p) (k : AWs mX5_start 13 [(0, vR p), (1, vI 0)] [] S (up2 σ p 4 (σ 40 9)) Q) : WPs mX5_start [vR p] S σ Q := by
  refine s_entry (by decide) (Nat.le_of_ble_eq_true rfl) rfl rfl ?_
  refine r_aload_n dX5_start_0 rfl ?_
  refine r_aload_n dX5_start_1 rfl ?_
  refine r_getRv dX5_start_2 fl_X5_27 rfl (kP hS hp) (fP2 hS hp) (by decide) ?_
  refine r_getIv dX5_start_5 fl_X5_31 rfl (k_40 hS) ?_
  refine r_putIv dX5_start_8 fl_X5_15 (fun _ h => by cases h; rfl) (Or.inl rfl) (kP hS hp) ?_
  refine r_iconst dX5_start_11 ⟨by decide, by decide⟩ ?_
  refine r_istore_n dX5_start_12 (by decide) rfl rfl ?_
  exact k
theorem t_X5_start_13 {p : Nat} {v1 : Int} {S : ShT} {σ : StT} {Q : Int → StT → Prop} (hS : SHP S) (hp : isP p) (k : (σ p 4 ≤ v1 → Q 0 σ) ∧ (¬ (σ p 4 ≤ v1) → inR (2 * v1) ∧ (0 ≤ v1 ∧ v1 < 24) ∧ inR (v1 + 1) ∧ AWs mX5_start 13 [(0, vR p), (1, vI (v1 + 1))] [] S (up2 σ (p + 1) v1.toNat (2 * v1)) Q)) : AWs mX5_start 13 [(0, vR p), (1, vI v1)] [] S σ Q := by
  refine r_iload_n dX5_start_13 rfl ?_
  refine r_aload_n dX5_start_14 rfl ?_
  refine r_getIv dX5_start_15 fl_X5_15 rfl (kP hS hp) ?_
  refine r_icmp_ge (tgt := 36) dX5_start_18 rfl (fun h => ?_) (fun h => ?_)
  · have k := k.1 h
    exact s_vret dX5_start_36 rfl k
  · have k := k.2 h
    refine r_aload_n dX5_start_21 rfl ?_
    refine r_getRv dX5_start_22 fl_X5_9 rfl (kP hS hp) (fP3 hS hp) (Nat.succ_ne_zero _) ?_
    refine r_iload_n dX5_start_25 rfl ?_
    refine r_iconst dX5_start_26 ⟨by decide, by decide⟩ ?_
    refine r_iload_n dX5_start_27 rfl ?_
    obtain ⟨h, k⟩ := k
    refine r_imul dX5_start_28 h ?_
    obtain ⟨⟨h0, h1⟩, k⟩ := k
    refine r_iast dX5_start_29 (kP1 hS hp) h0 h1 ?_
    obtain ⟨h, k⟩ := k
    refine r_iinc dX5_start_30 rfl (by decide) rfl rfl h ?_
    refine r_goto (tgt := 13) dX5_start_33 rfl ?_
    exact k
theorem e_X5_copy {p : Nat} {q : Nat} {S : ShT} {σ : StT} {Q : Int → StT → Prop} (hS : SHP S) (hp : isP p) (hq : isP q) (hne : p + 1 < q ∨ q + 1 < p) (k : AWs mX5_copy 10 [(0, vR p), (1, vR q), (2, vI 0)] [] S (up2 σ p 4 (σ q 4)) Q) : WPs mX5_copy [vR p, vR q] S σ Q := by
  refine s_entry (by decide) (Nat.le_of_ble_eq_true rfl) rfl rfl ?_
  refine r_aload_n dX5_copy_0 rfl ?_
  refine r_aload_n dX5_copy_1 rfl ?_
  refine r_getIv dX5_copy_2 fl_X5_15 rfl (kP hS hq) ?_
  refine r_putIv dX5_copy_5 fl_X5_15 (fun _ h => by cases h; rfl) (Or.inl rfl) (kP hS hp) ?_
  refine r_iconst dX5_copy_8 ⟨by decide, by decide⟩ ?_
  refine r_istore_n dX5_copy_9 (by decide) rfl rfl ?_
  exact k
theorem t_X5_copy_10 {p : Nat} {q : Nat} {v2 : Int} {S : ShT} {σ : StT} {Q : Int → StT → Prop} (hS : SHP S) (hp : isP p) (hq : isP q) (hne : p + 1 < q ∨ q + 1 < p) (k : (σ p 4 ≤ v2 → Q 0 σ) ∧ (¬ (σ p 4 ≤ v2) → (0 ≤ v2 ∧ v2 < 24) ∧ (0 ≤ v2 ∧ v2 < 24) ∧ inR (v2 + 1) ∧ AWs mX5_copy 10 [(0, vR p), (1, vR q), (2, vI (v2 + 1))] [] S (up2 σ (p + 1) v2.toNat (σ (q + 1) v2.toNat)) Q)) : AWs mX5_copy 10 [(0, vR p), (1, vR q), (2, vI v2)] [] S σ Q := by
  refine r_iload_n dX5_copy_10 rfl ?_
  refine r_aload_n dX5_copy_11 rfl ?_
  refine r_getIv dX5_copy_12 fl_X5_15 rfl (kP hS hp) ?_
  refine r_icmp_ge (tgt := 36) dX5_copy_15 rfl (fun h => ?_) (fun h => ?_)
  · have k := k.1 h
    exact s_vret dX5_copy_36 rfl k
  · have k := k.2 h
    refine r_aload_n dX5_copy_18 rfl ?_
    refine r_getRv dX5_copy_19 fl_X5_9 rfl (kP hS hp) (fP3 hS hp) (Nat.succ_ne_zero _) ?_
    refine r_iload_n dX5_copy_22 rfl ?_
    refine r_aload_n dX5_copy_23 rfl ?_
    refine r_getRv dX5_copy_24 fl_X5_9 rfl (kP hS hq) (fP3 hS hq) (Nat.succ_ne_zero _) ?_
    refine r_iload_n dX5_copy_27 rfl ?_
    obtain ⟨⟨h0, h1⟩, k⟩ := k
    refine r_iald dX5_copy_28 (Or.inl (kP1 hS hq)) h0 h1 ?_
    obtain ⟨⟨h0, h1⟩, k⟩ := k
    refine r_iast dX5_copy_29 (kP1 hS hp) h0 h1 ?_
    obtain ⟨h, k⟩ := k
    refine r_iinc dX5_copy_30 rfl (by decide) rfl rfl h ?_
    refine r_goto (tgt := 10) dX5_copy_33 rfl ?_
    exact k
theorem e_X5_trailAt {p : Nat} {v1 : Int} {S : ShT} {σ : StT} {Q : Int → StT → Prop} (hS : SHP S) (hp : isP p) (k : (0 ≤ v1 ∧ v1 < 24) ∧ 0 ≤ σ (p + 1) v1.toNat ∧ Q ((σ (p + 1) v1.toNat) / 2) σ) : WPs mX5_trailAt [vR p, vI v1] S σ Q := by
  refine s_entry (by decide) (Nat.le_of_ble_eq_true rfl) rfl rfl ?_
  refine r_aload_n dX5_trailAt_0 rfl ?_
  refine r_getRv dX5_trailAt_1 fl_X5_9 rfl (kP hS hp) (fP3 hS hp) (Nat.succ_ne_zero _) ?_
  refine r_iload_n dX5_trailAt_4 rfl ?_
  obtain ⟨⟨h0, h1⟩, k⟩ := k
  refine r_iald dX5_trailAt_5 (Or.inl (kP1 hS hp)) h0 h1 ?_
  refine r_iconst dX5_trailAt_6 ⟨by decide, by decide⟩ ?_
  obtain ⟨h, k⟩ := k
  refine r_idiv dX5_trailAt_7 h (by decide) ?_
  exact s_iret dX5_trailAt_8 rfl k
theorem e_X5_isBackwards {p : Nat} {v1 : Int} {S : ShT} {σ : StT} {Q : Int → StT → Prop} (hS : SHP S) (hp : isP p) (k : (0 ≤ v1 ∧ v1 < 24) ∧ 0 ≤ σ (p + 1) v1.toNat ∧ ((¬ (σ (p + 1) v1.toNat) % 2 = 1 → Q 0 σ) ∧ ((σ (p + 1) v1.toNat) % 2 = 1 → Q 1 σ))) : WPs mX5_isBackwards [vR p, vI v1] S σ Q := by
  refine s_entry (by decide) (Nat.le_of_ble_eq_true rfl) rfl rfl ?_
  refine r_aload_n dX5_isBackwards_0 rfl ?_
  refine r_getRv dX5_isBackwards_1 fl_X5_9 rfl (kP hS hp) (fP3 hS hp) (Nat.succ_ne_zero _) ?_
  refine r_iload_n dX5_isBackwards_4 rfl ?_
  obtain ⟨⟨h0, h1⟩, k⟩ := k
  refine r_iald dX5_isBackwards_5 (Or.inl (kP1 hS hp)) h0 h1 ?_
  refine r_iconst dX5_isBackwards_6 ⟨by decide, by decide⟩ ?_
  obtain ⟨h, k⟩ := k
  refine r_irem dX5_isBackwards_7 h (by decide) ?_
  refine r_iconst dX5_isBackwards_8 ⟨by decide, by decide⟩ ?_
  refine r_icmp_ne (tgt := 16) dX5_isBackwards_9 rfl (fun h => ?_) (fun h => ?_)
  · have k := k.1 h
    refine r_iconst dX5_isBackwards_16 ⟨by decide, by decide⟩ ?_
    exact s_zret dX5_isBackwards_17 rfl (by decide) k
  · have k := k.2 h
    refine r_iconst dX5_isBackwards_12 ⟨by decide, by decide⟩ ?_
    refine r_goto (tgt := 17) dX5_isBackwards_13 rfl ?_
    exact s_zret dX5_isBackwards_17 rfl (by decide) k
theorem e_X5_beginOf {p : Nat} {v1 : Int} {S : ShT} {σ : StT} {Q : Int → StT → Prop} (hS : SHP S) (hp : isP p) (k : WPs mX5_isBackwards [vR p, vI v1] S σ (fun r2 s2 => (r2 = 0 → WPs mX5_trailAt [vR p, vI v1] S s2 (fun r33 s33 => (0 ≤ r33 ∧ r33 < 24) ∧ Q (s33 43 r33.toNat) s33)) ∧ (¬ (r2 = 0) → WPs mX5_trailAt [vR p, vI v1] S s2 (fun r17 s17 => (0 ≤ r17 ∧ r17 < 24) ∧ Q (s17 44 r17.toNat) s17)))) : WPs mX5_beginOf [vR p, vI v1] S σ Q := by
  refine s_entry (by decide) (Nat.le_of_ble_eq_true rfl) rfl rfl ?_
  refine r_aload_n dX5_beginOf_0 rfl ?_
  refine r_iload_n dX5_beginOf_1 rfl ?_
  refine s_callVv (z := mX5_isBackwards) [vI v1] dX5_beginOf_2 mv_X5_isBackwards lk_X5_34 rfl (by decide) (kP hS hp) (Nat.le_of_ble_eq_true rfl) (WPs.mono k (fun r2 s2 k => ?_))
  refine r_if_eq (tgt := 24) dX5_beginOf_5 rfl (fun h => ?_) (fun h => ?_)
  · have k := k.1 h
    refine r_aload_n dX5_beginOf_24 rfl ?_
    refine r_getRv dX5_beginOf_25 fl_X5_27 rfl (kP hS hp) (fP2 hS hp) (by decide) ?_
    refine r_getRv dX5_beginOf_28 fl_X5_45 rfl (k_40 hS) (f_40_5 hS) (by decide) ?_
    refine r_aload_n dX5_beginOf_31 rfl ?_
    refine r_iload_n dX5_beginOf_32 rfl ?_
    refine s_callVv (z := mX5_trailAt) [vI v1] dX5_beginOf_33 mv_X5_trailAt lk_X5_41 rfl (by decide) (kP hS hp) (Nat.le_of_ble_eq_true rfl) (WPs.mono k (fun r33 s33 k => ?_))
    obtain ⟨⟨h0, h1⟩, k⟩ := k
    refine r_iald dX5_beginOf_36 (Or.inl (k_43 hS)) h0 h1 ?_
    exact s_iret dX5_beginOf_37 rfl k
  · have k := k.2 h
    refine r_aload_n dX5_beginOf_8 rfl ?_
    refine r_getRv dX5_beginOf_9 fl_X5_27 rfl (kP hS hp) (fP2 hS hp) (by decide) ?_
    refine r_getRv dX5_beginOf_12 fl_X5_38 rfl (k_40 hS) (f_40_6 hS) (by decide) ?_
    refine r_aload_n dX5_beginOf_15 rfl ?_
    refine r_iload_n dX5_beginOf_16 rfl ?_
    refine s_callVv (z := mX5_trailAt) [vI v1] dX5_beginOf_17 mv_X5_trailAt lk_X5_41 rfl (by decide) (kP hS hp) (Nat.le_of_ble_eq_true rfl) (WPs.mono k (fun r17 s17 k => ?_))
    obtain ⟨⟨h0, h1⟩, k⟩ := k
    refine r_iald dX5_beginOf_20 (Or.inl (k_44 hS)) h0 h1 ?_
    refine r_goto (tgt := 37) dX5_beginOf_21 rfl ?_
    exact s_iret dX5_beginOf_37 rfl k
theorem e_X5_endOf {p : Nat} {v1 : Int} {S : ShT} {σ : StT} {Q : Int → StT → Prop} (hS : SHP S) (hp : isP p) (k : WPs mX5_isBackwards [vR p, vI v1] S σ (fun r2 s2 => (r2 = 0 → WPs mX5_trailAt [vR p, vI v1] S s2 (fun r33 s33 => (0 ≤ r33 ∧ r33 < 24) ∧ Q (s33 44 r33.toNat) s33)) ∧ (¬ (r2 = 0) → WPs mX5_trailAt [vR p, vI v1] S s2 (fun r17 s17 => (0 ≤ r17 ∧ r17 < 24) ∧ Q (s17 43 r17.toNat) s17)))) : WPs mX5_endOf [vR p, vI v1] S σ Q := by
  refine s_entry (by decide) (Nat.le_of_ble_eq_true rfl) rfl rfl ?_
  refine r_aload_n dX5_endOf_0 rfl ?_
  refine r_iload_n dX5_endOf_1 rfl ?_
  refine s_callVv (z := mX5_isBackwards) [vI v1] dX5_endOf_2 mv_X5_isBackwards lk_X5_34 rfl (by decide) (kP hS hp) (Nat.le_of_ble_eq_true rfl) (WPs.mono k (fun r2 s2 k => ?_))
  refine r_if_eq (tgt := 24) dX5_endOf_5 rfl (fun h => ?_) (fun h => ?_)
  · have k := k.1 h
    refine r_aload_n dX5_endOf_24 rfl ?_
    refine r_getRv dX5_endOf_25 fl_X5_27 rfl (kP hS hp) (fP2 hS hp) (by decide) ?_
    refine r_getRv dX5_endOf_28 fl_X5_38 rfl (k_40 hS) (f_40_6 hS) (by decide) ?_
    refine r_aload_n dX5_endOf_31 rfl ?_
    refine r_iload_n dX5_endOf_32 rfl ?_
    refine s_callVv (z := mX5_trailAt) [vI v1] dX5_endOf_33 mv_X5_trailAt lk_X5_41 rfl (by decide) (kP hS hp) (Nat.le_of_ble_eq_true rfl) (WPs.mono k (fun r33 s33 k => ?_))
    obtain ⟨⟨h0, h1⟩, k⟩ := k
    refine r_iald dX5_endOf_36 (Or.inl (k_44 hS)) h0 h1 ?_
    exact s_iret dX5_endOf_37 rfl k
  · have k := k.2 h
    refine r_aload_n dX5_endOf_8 rfl ?_
    refine r_getRv dX5_endOf_9 fl_X5_27 rfl (kP hS hp) (fP2 hS hp) (by decide) ?_
    refine r_getRv dX5_endOf_12 fl_X5_45 rfl (k_40 hS) (f_40_5 hS) (by decide) ?_
    refine r_aload_n dX5_endOf_15 rfl ?_
    refine r_iload_n dX5_endOf_16 rfl ?_
    refine s_callVv (z := mX5_trailAt) [vI v1] dX5_endOf_17 mv_X5_trailAt lk_X5_41 rfl (by decide) (kP hS hp) (Nat.le_of_ble_eq_true rfl) (WPs.mono k (fun r17 s17 k => ?_))
    obtain ⟨⟨h0, h1⟩, k⟩ := k
    refine r_iald dX5_endOf_20 (Or.inl (k_43 hS)) h0 h1 ?_
    refine r_goto (tgt := 37) dX5_endOf_21 rfl ?_
    exact s_iret dX5_endOf_37 rfl k
theorem e_X5_strokeAt {p : Nat} {v1 v2 : Int} {S : ShT} {σ : StT} {Q : Int → StT → Prop} (hS : SHP S) (hp : isP p) (k : WPs mX5_trailAt [vR p, vI v1] S σ (fun r2 s2 => WPs mX5_isBackwards [vR p, vI v1] S s2 (fun r8 s8 => (r8 = 0 → WPs mX8_strokeOf [vR 40, vI r2, vI v2] S s8 (fun r44 s44 => Q r44 s44)) ∧ (¬ (r8 = 0) → (0 ≤ r2 ∧ r2 < 24) ∧ inR ((s8 42 r2.toNat) - 1) ∧ inR (((s8 42 r2.toNat) - 1) - v2) ∧ WPs mX8_strokeOf [vR 40, vI r2, vI (((s8 42 r2.toNat) - 1) - v2)] S s8 (fun r32 s32 => Q (iXor r32 1) s32))))) : WPs mX5_strokeAt [vR p, vI v1, vI v2] S σ Q := by
  refine s_entry (by decide) (Nat.le_of_ble_eq_true rfl) rfl rfl ?_
  refine r_aload_n dX5_strokeAt_0 rfl ?_
  refine r_iload_n dX5_strokeAt_1 rfl ?_
  refine s_callVv (z := mX5_trailAt) [vI v1] dX5_strokeAt_2 mv_X5_trailAt lk_X5_41 rfl (by decide) (kP hS hp) (Nat.le_of_ble_eq_true rfl) (WPs.mono k (fun r2 s2 k => ?_))
  refine r_istore_n dX5_strokeAt_5 (by decide) rfl rfl ?_
  refine r_aload_n dX5_strokeAt_6 rfl ?_
  refine r_iload_n dX5_strokeAt_7 rfl ?_
  refine s_callVv (z := mX5_isBackwards) [vI v1] dX5_strokeAt_8 mv_X5_isBackwards lk_X5_34 rfl (by decide) (kP hS hp) (Nat.le_of_ble_eq_true rfl) (WPs.mono k (fun r8 s8 k => ?_))
  refine r_if_eq (tgt := 38) dX5_strokeAt_11 rfl (fun h => ?_) (fun h => ?_)
  · have k := k.1 h
    refine r_aload_n dX5_strokeAt_38 rfl ?_
    refine r_getRv dX5_strokeAt_39 fl_X5_27 rfl (kP hS hp) (fP2 hS hp) (by decide) ?_
    refine r_iload_n dX5_strokeAt_42 rfl ?_
    refine r_iload_n dX5_strokeAt_43 rfl ?_
    refine s_callVv (z := mX8_strokeOf) [vI r2, vI v2] dX5_strokeAt_44 mv_X8_strokeOf lk_X5_51 rfl (by decide) (k_40 hS) (Nat.le_of_ble_eq_true rfl) (WPs.mono k (fun r44 s44 k => ?_))
    exact s_iret dX5_strokeAt_47 rfl k
  · have k := k.2 h
    refine r_aload_n dX5_strokeAt_14 rfl ?_
    refine r_getRv dX5_strokeAt_15 fl_X5_27 rfl (kP hS hp) (fP2 hS hp) (by decide) ?_
    refine r_iload_n dX5_strokeAt_18 rfl ?_
    refine r_aload_n dX5_strokeAt_19 rfl ?_
    refine r_getRv dX5_strokeAt_20 fl_X5_27 rfl (kP hS hp) (fP2 hS hp) (by decide) ?_
    refine r_getRv dX5_strokeAt_23 fl_X5_48 rfl (k_40 hS) (f_40_4 hS) (by decide) ?_
    refine r_iload_n dX5_strokeAt_26 rfl ?_
    obtain ⟨⟨h0, h1⟩, k⟩ := k
    refine r_iald dX5_strokeAt_27 (Or.inl (k_42 hS)) h0 h1 ?_
    refine r_iconst dX5_strokeAt_28 ⟨by decide, by decide⟩ ?_
    obtain ⟨h, k⟩ := k
    refine r_isub dX5_strokeAt_29 h ?_
    refine r_iload_n dX5_strokeAt_30 rfl ?_
    obtain ⟨h, k⟩ := k
    refine r_isub dX5_strokeAt_31 h ?_
    refine s_callVv (z := mX8_strokeOf) [vI r2, vI (((s8 42 r2.toNat) - 1) - v2)] dX5_strokeAt_32 mv_X8_strokeOf lk_X5_51 rfl (by decide) (k_40 hS) (Nat.le_of_ble_eq_true rfl) (WPs.mono k (fun r32 s32 k => ?_))
    refine r_iconst dX5_strokeAt_35 ⟨by decide, by decide⟩ ?_
    refine r_ixor dX5_strokeAt_36 ?_
    exact s_iret dX5_strokeAt_37 rfl k
theorem e_X5_placeOf {p : Nat} {v1 : Int} {S : ShT} {σ : StT} {Q : Int → StT → Prop} (hS : SHP S) (hp : isP p) (k : AWs mX5_placeOf 2 [(0, vR p), (1, vI v1), (2, vI 0)] [] S σ Q) : WPs mX5_placeOf [vR p, vI v1] S σ Q := by
  refine s_entry (by decide) (Nat.le_of_ble_eq_true rfl) rfl rfl ?_
  refine r_iconst dX5_placeOf_0 ⟨by decide, by decide⟩ ?_
  refine r_istore_n dX5_placeOf_1 (by decide) rfl rfl ?_
  exact k
theorem t_X5_placeOf_2 {p : Nat} {v1 v2 : Int} {S : ShT} {σ : StT} {Q : Int → StT → Prop} (hS : SHP S) (hp : isP p) (k : (σ p 4 ≤ v2 → Q (-1) σ) ∧ (¬ (σ p 4 ≤ v2) → WPs mX5_trailAt [vR p, vI v2] S σ (fun r12 s12 => (¬ r12 = v1 → inR (v2 + 1) ∧ AWs mX5_placeOf 2 [(0, vR p), (1, vI v1), (2, vI (v2 + 1))] [] S s12 Q) ∧ (r12 = v1 → Q v2 s12)))) : AWs mX5_placeOf 2 [(0, vR p), (1, vI v1), (2, vI v2)] [] S σ Q := by
  refine r_iload_n dX5_placeOf_2 rfl ?_
  refine r_aload_n dX5_placeOf_3 rfl ?_
  refine r_getIv dX5_placeOf_4 fl_X5_15 rfl (kP hS hp) ?_
  refine r_icmp_ge (tgt := 27) dX5_placeOf_7 rfl (fun h => ?_) (fun h => ?_)
  · have k := k.1 h
    refine r_iconst dX5_placeOf_27 ⟨by decide, by decide⟩ ?_
    exact s_iret dX5_placeOf_28 rfl k
  · have k := k.2 h
    refine r_aload_n dX5_placeOf_10 rfl ?_
    refine r_iload_n dX5_placeOf_11 rfl ?_
    refine s_callVv (z := mX5_trailAt) [vI v2] dX5_placeOf_12 mv_X5_trailAt lk_X5_41 rfl (by decide) (kP hS hp) (Nat.le_of_ble_eq_true rfl) (WPs.mono k (fun r12 s12 k => ?_))
    refine r_iload_n dX5_placeOf_15 rfl ?_
    refine r_icmp_ne (tgt := 21) dX5_placeOf_16 rfl (fun h => ?_) (fun h => ?_)
    · have k := k.1 h
      obtain ⟨h, k⟩ := k
      refine r_iinc dX5_placeOf_21 rfl (by decide) rfl rfl h ?_
      refine r_goto (tgt := 2) dX5_placeOf_24 rfl ?_
      exact k
    · have k := k.2 h
      refine r_iload_n dX5_placeOf_19 rfl ?_
      exact s_iret dX5_placeOf_20 rfl k
theorem e_X5_spotAhead {p : Nat} {v1 : Int} {S : ShT} {σ : StT} {Q : Int → StT → Prop} (hS : SHP S) (hp : isP p) (k : (v1 ≤ 0 → Q (-1) σ) ∧ (¬ (v1 ≤ 0) → inR (v1 - 1) ∧ WPs mX5_endOf [vR p, vI (v1 - 1)] S σ (fun r8 s8 => Q r8 s8))) : WPs mX5_spotAhead [vR p, vI v1] S σ Q := by
  refine s_entry (by decide) (Nat.le_of_ble_eq_true rfl) rfl rfl ?_
  refine r_iload_n dX5_spotAhead_0 rfl ?_
  refine r_if_le (tgt := 14) dX5_spotAhead_1 rfl (fun h => ?_) (fun h => ?_)
  · have k := k.1 h
    refine r_iconst dX5_spotAhead_14 ⟨by decide, by decide⟩ ?_
    exact s_iret dX5_spotAhead_15 rfl k
  · have k := k.2 h
    refine r_aload_n dX5_spotAhead_4 rfl ?_
    refine r_iload_n dX5_spotAhead_5 rfl ?_
    refine r_iconst dX5_spotAhead_6 ⟨by decide, by decide⟩ ?_
    obtain ⟨h, k⟩ := k
    refine r_isub dX5_spotAhead_7 h ?_
    refine s_callVv (z := mX5_endOf) [vI (v1 - 1)] dX5_spotAhead_8 mv_X5_endOf lk_X5_55 rfl (by decide) (kP hS hp) (Nat.le_of_ble_eq_true rfl) (WPs.mono k (fun r8 s8 k => ?_))
    refine r_goto (tgt := 15) dX5_spotAhead_11 rfl ?_
    exact s_iret dX5_spotAhead_15 rfl k
theorem e_X5_spotBehind {p : Nat} {v1 : Int} {S : ShT} {σ : StT} {Q : Int → StT → Prop} (hS : SHP S) (hp : isP p) (k : inR ((σ p 4) - 1) ∧ (((σ p 4) - 1 ≤ v1 → Q (-1) σ) ∧ (¬ ((σ p 4) - 1 ≤ v1) → inR (v1 + 1) ∧ WPs mX5_beginOf [vR p, vI (v1 + 1)] S σ (fun r14 s14 => Q r14 s14)))) : WPs mX5_spotBehind [vR p, vI v1] S σ Q := by
  refine s_entry (by decide) (Nat.le_of_ble_eq_true rfl) rfl rfl ?_
  refine r_iload_n dX5_spotBehind_0 rfl ?_
  refine r_aload_n dX5_spotBehind_1 rfl ?_
  refine r_getIv dX5_spotBehind_2 fl_X5_15 rfl (kP hS hp) ?_
  refine r_iconst dX5_spotBehind_5 ⟨by decide, by decide⟩ ?_
  obtain ⟨h, k⟩ := k
  refine r_isub dX5_spotBehind_6 h ?_
  refine r_icmp_ge (tgt := 20) dX5_spotBehind_7 rfl (fun h => ?_) (fun h => ?_)
  · have k := k.1 h
    refine r_iconst dX5_spotBehind_20 ⟨by decide, by decide⟩ ?_
    exact s_iret dX5_spotBehind_21 rfl k
  · have k := k.2 h
    refine r_aload_n dX5_spotBehind_10 rfl ?_
    refine r_iload_n dX5_spotBehind_11 rfl ?_
    refine r_iconst dX5_spotBehind_12 ⟨by decide, by decide⟩ ?_
    obtain ⟨h, k⟩ := k
    refine r_iadd dX5_spotBehind_13 h ?_
    refine s_callVv (z := mX5_beginOf) [vI (v1 + 1)] dX5_spotBehind_14 mv_X5_beginOf lk_X5_60 rfl (by decide) (kP hS hp) (Nat.le_of_ble_eq_true rfl) (WPs.mono k (fun r14 s14 k => ?_))
    refine r_goto (tgt := 21) dX5_spotBehind_17 rfl ?_
    exact s_iret dX5_spotBehind_21 rfl k
theorem e_X5_leg {p : Nat} {v1 : Int} {S : ShT} {σ : StT} {Q : Int → StT → Prop} (hS : SHP S) (hp : isP p) (k : WPs mX5_spotAhead [vR p, vI v1] S σ (fun r6 s6 => inR (v1 - 1) ∧ WPs mX5_spotBehind [vR p, vI (v1 - 1)] S s6 (fun r13 s13 => WPs mX3_apart [vR 7, vI r6, vI r13] S s13 (fun r16 s16 => Q r16 s16)))) : WPs mX5_leg [vR p, vI v1] S σ Q := by
  refine s_entry (by decide) (Nat.le_of_ble_eq_true rfl) rfl rfl ?_
  refine r_aload_n dX5_leg_0 rfl ?_
  refine r_getRv dX5_leg_1 fl_X5_23 rfl (kP hS hp) (fP1 hS hp) (by decide) ?_
  refine r_aload_n dX5_leg_4 rfl ?_
  refine r_iload_n dX5_leg_5 rfl ?_
  refine s_callVv (z := mX5_spotAhead) [vI v1] dX5_leg_6 mv_X5_spotAhead lk_X5_63 rfl (by decide) (kP hS hp) (Nat.le_of_ble_eq_true rfl) (WPs.mono k (fun r6 s6 k => ?_))
  refine r_aload_n dX5_leg_9 rfl ?_
  refine r_iload_n dX5_leg_10 rfl ?_
  refine r_iconst dX5_leg_11 ⟨by decide, by decide⟩ ?_
  obtain ⟨h, k⟩ := k
  refine r_isub dX5_leg_12 h ?_
  refine s_callVv (z := mX5_spotBehind) [vI (v1 - 1)] dX5_leg_13 mv_X5_spotBehind lk_X5_66 rfl (by decide) (kP hS hp) (Nat.le_of_ble_eq_true rfl) (WPs.mono k (fun r13 s13 k => ?_))
  refine s_callVv (z := mX3_apart) [vI r6, vI r13] dX5_leg_16 mv_X3_apart lk_X5_69 rfl (by decide) (k_7 hS) (Nat.le_of_ble_eq_true rfl) (WPs.mono k (fun r16 s16 k => ?_))
  exact s_iret dX5_leg_19 rfl k
theorem e_X5_wholeTravel {p : Nat} {S : ShT} {σ : StT} {Q : Int → StT → Prop} (hS : SHP S) (hp : isP p) (k : (¬ σ p 4 = 0 → AWs mX5_wholeTravel 13 [(0, vR p), (1, vI 0), (2, vI 0)] [] S σ Q) ∧ (σ p 4 = 0 → Q 0 σ)) : WPs mX5_wholeTravel [vR p] S σ Q := by
  refine s_entry (by decide) (Nat.le_of_ble_eq_true rfl) rfl rfl ?_
  refine r_aload_n dX5_wholeTravel_0 rfl ?_
  refine r_getIv dX5_wholeTravel_1 fl_X5_15 rfl (kP hS hp) ?_
  refine r_if_ne (tgt := 9) dX5_wholeTravel_4 rfl (fun h => ?_) (fun h => ?_)
  · have k := k.1 h
    refine r_iconst dX5_wholeTravel_9 ⟨by decide, by decide⟩ ?_
    refine r_istore_n dX5_wholeTravel_10 (by decide) rfl rfl ?_
    refine r_iconst dX5_wholeTravel_11 ⟨by decide, by decide⟩ ?_
    refine r_istore_n dX5_wholeTravel_12 (by decide) rfl rfl ?_
    exact k
  · have k := k.2 h
    refine r_iconst dX5_wholeTravel_7 ⟨by decide, by decide⟩ ?_
    exact s_iret dX5_wholeTravel_8 rfl k
theorem t_X5_wholeTravel_13 {p : Nat} {v1 v2 : Int} {S : ShT} {σ : StT} {Q : Int → StT → Prop} (hS : SHP S) (hp : isP p) (k : (σ p 4 < v2 → Q v1 σ) ∧ (¬ (σ p 4 < v2) → WPs mX5_leg [vR p, vI v2] S σ (fun r24 s24 => inR (v1 + r24) ∧ inR (v2 + 1) ∧ AWs mX5_wholeTravel 13 [(0, vR p), (1, vI (v1 + r24)), (2, vI (v2 + 1))] [] S s24 Q))) : AWs mX5_wholeTravel 13 [(0, vR p), (1, vI v1), (2, vI v2)] [] S σ Q := by
  refine r_iload_n dX5_wholeTravel_13 rfl ?_
  refine r_aload_n dX5_wholeTravel_14 rfl ?_
  refine r_getIv dX5_wholeTravel_15 fl_X5_15 rfl (kP hS hp) ?_
  refine r_icmp_gt (tgt := 35) dX5_wholeTravel_18 rfl (fun h => ?_) (fun h => ?_)
  · have k := k.1 h
    refine r_iload_n dX5_wholeTravel_35 rfl ?_
    exact s_iret dX5_wholeTravel_36 rfl k
  · have k := k.2 h
    refine r_iload_n dX5_wholeTravel_21 rfl ?_
    refine r_aload_n dX5_wholeTravel_22 rfl ?_
    refine r_iload_n dX5_wholeTravel_23 rfl ?_
    refine s_callVv (z := mX5_leg) [vI v2] dX5_wholeTravel_24 mv_X5_leg lk_X5_72 rfl (by decide) (kP hS hp) (Nat.le_of_ble_eq_true rfl) (WPs.mono k (fun r24 s24 k => ?_))
    obtain ⟨h, k⟩ := k
    refine r_iadd dX5_wholeTravel_27 h ?_
    refine r_istore_n dX5_wholeTravel_28 (by decide) rfl rfl ?_
    obtain ⟨h, k⟩ := k
    refine r_iinc dX5_wholeTravel_29 rfl (by decide) rfl rfl h ?_
    refine r_goto (tgt := 13) dX5_wholeTravel_32 rfl ?_
    exact k
theorem e_X5_wholeTime {p : Nat} {S : ShT} {σ : StT} {Q : Int → StT → Prop} (hS : SHP S) (hp : isP p) (k : WPs mX0_allLengths [vR 4] S σ (fun r11 s11 => inR ((σ 4 7) * r11) ∧ WPs mX5_wholeTravel [vR p] S s11 (fun r23 s23 => inR ((s11 4 8) * r23) ∧ inR (((σ 4 7) * r11) + ((s11 4 8) * r23)) ∧ Q (((σ 4 7) * r11) + ((s11 4 8) * r23)) s23))) : WPs mX5_wholeTime [vR p] S σ Q := by
  refine s_entry (by decide) (Nat.le_of_ble_eq_true rfl) rfl rfl ?_
  refine r_aload_n dX5_wholeTime_0 rfl ?_
  refine r_getRv dX5_wholeTime_1 fl_X5_19 rfl (kP hS hp) (fP0 hS hp) (by decide) ?_
  refine r_getIv dX5_wholeTime_4 fl_X5_75 rfl (k_4 hS) ?_
  refine r_aload_n dX5_wholeTime_7 rfl ?_
  refine r_getRv dX5_wholeTime_8 fl_X5_19 rfl (kP hS hp) (fP0 hS hp) (by decide) ?_
  refine s_callVv (z := mX0_allLengths) [] dX5_wholeTime_11 mv_X0_allLengths lk_X5_80 rfl (by decide) (k_4 hS) (Nat.le_of_ble_eq_true rfl) (WPs.mono k (fun r11 s11 k => ?_))
  obtain ⟨h, k⟩ := k
  refine r_imul dX5_wholeTime_14 h ?_
  refine r_aload_n dX5_wholeTime_15 rfl ?_
  refine r_getRv dX5_wholeTime_16 fl_X5_19 rfl (kP hS hp) (fP0 hS hp) (by decide) ?_
  refine r_getIv dX5_wholeTime_19 fl_X5_84 rfl (k_4 hS) ?_
  refine r_aload_n dX5_wholeTime_22 rfl ?_
  refine s_callVv (z := mX5_wholeTravel) [] dX5_wholeTime_23 mv_X5_wholeTravel lk_X5_87 rfl (by decide) (kP hS hp) (Nat.le_of_ble_eq_true rfl) (WPs.mono k (fun r23 s23 k => ?_))
  obtain ⟨h, k⟩ := k
  refine r_imul dX5_wholeTime_26 h ?_
  obtain ⟨h, k⟩ := k
  refine r_iadd dX5_wholeTime_27 h ?_
  exact s_iret dX5_wholeTime_28 rfl k
theorem e_X5_changeBy {p : Nat} {v1 v2 : Int} {S : ShT} {σ : StT} {Q : Int → StT → Prop} (hS : SHP S) (hp : isP p) (k : WPs mX5_spotAhead [vR p, vI v1] S σ (fun r2 s2 => WPs mX5_spotBehind [vR p, vI v2] S s2 (fun r8 s8 => WPs mX5_beginOf [vR p, vI v1] S s8 (fun r20 s20 => WPs mX3_apart [vR 7, vI r2, vI r20] S s20 (fun r23 s23 => WPs mX5_endOf [vR p, vI v2] S s23 (fun r32 s32 => WPs mX3_apart [vR 7, vI r32, vI r8] S s32 (fun r37 s37 => inR (r23 + r37) ∧ WPs mX5_endOf [vR p, vI v2] S s37 (fun r50 s50 => WPs mX3_apart [vR 7, vI r2, vI r50] S s50 (fun r53 s53 => WPs mX5_beginOf [vR p, vI v1] S s53 (fun r62 s62 => WPs mX3_apart [vR 7, vI r62, vI r8] S s62 (fun r67 s67 => inR (r53 + r67) ∧ inR ((r53 + r67) - (r23 + r37)) ∧ Q ((r53 + r67) - (r23 + r37)) s67))))))))))) : WPs mX5_changeBy [vR p, vI v1, vI v2] S σ Q := by
  refine s_entry (by decide) (Nat.le_of_ble_eq_true rfl) rfl rfl ?_
  refine r_aload_n dX5_changeBy_0 rfl ?_
  refine r_iload_n dX5_changeBy_1 rfl ?_
  refine s_callVv (z := mX5_spotAhead) [vI v1] dX5_changeBy_2 mv_X5_spotAhead lk_X5_63 rfl (by decide) (kP hS hp) (Nat.le_of_ble_eq_true rfl) (WPs.mono k (fun r2 s2 k => ?_))
  refine r_istore_n dX5_changeBy_5 (by decide) rfl rfl ?_
  refine r_aload_n dX5_changeBy_6 rfl ?_
  refine r_iload_n dX5_changeBy_7 rfl ?_
  refine s_callVv (z := mX5_spotBehind) [vI v2] dX5_changeBy_8 mv_X5_spotBehind lk_X5_66 rfl (by decide) (kP hS hp) (Nat.le_of_ble_eq_true rfl) (WPs.mono k (fun r8 s8 k => ?_))
  refine r_istore dX5_changeBy_11 (by decide) rfl rfl ?_
  refine r_aload_n dX5_changeBy_13 rfl ?_
  refine r_getRv dX5_changeBy_14 fl_X5_23 rfl (kP hS hp) (fP1 hS hp) (by decide) ?_
  refine r_iload_n dX5_changeBy_17 rfl ?_
  refine r_aload_n dX5_changeBy_18 rfl ?_
  refine r_iload_n dX5_changeBy_19 rfl ?_
  refine s_callVv (z := mX5_beginOf) [vI v1] dX5_changeBy_20 mv_X5_beginOf lk_X5_60 rfl (by decide) (kP hS hp) (Nat.le_of_ble_eq_true rfl) (WPs.mono k (fun r20 s20 k => ?_))
  refine s_callVv (z := mX3_apart) [vI r2, vI r20] dX5_changeBy_23 mv_X3_apart lk_X5_69 rfl (by decide) (k_7 hS) (Nat.le_of_ble_eq_true rfl) (WPs.mono k (fun r23 s23 k => ?_))
  refine r_aload_n dX5_changeBy_26 rfl ?_
  refine r_getRv dX5_changeBy_27 fl_X5_23 rfl (kP hS hp) (fP1 hS hp) (by decide) ?_
  refine r_aload_n dX5_changeBy_30 rfl ?_
  refine r_iload_n dX5_changeBy_31 rfl ?_
  refine s_callVv (z := mX5_endOf) [vI v2] dX5_changeBy_32 mv_X5_endOf lk_X5_55 rfl (by decide) (kP hS hp) (Nat.le_of_ble_eq_true rfl) (WPs.mono k (fun r32 s32 k => ?_))
  refine r_iload dX5_changeBy_35 rfl ?_
  refine s_callVv (z := mX3_apart) [vI r32, vI r8] dX5_changeBy_37 mv_X3_apart lk_X5_69 rfl (by decide) (k_7 hS) (Nat.le_of_ble_eq_true rfl) (WPs.mono k (fun r37 s37 k => ?_))
  obtain ⟨h, k⟩ := k
  refine r_iadd dX5_changeBy_40 h ?_
  refine r_istore dX5_changeBy_41 (by decide) rfl rfl ?_
  refine r_aload_n dX5_changeBy_43 rfl ?_
  refine r_getRv dX5_changeBy_44 fl_X5_23 rfl (kP hS hp) (fP1 hS hp) (by decide) ?_
  refine r_iload_n dX5_changeBy_47 rfl ?_
  refine r_aload_n dX5_changeBy_48 rfl ?_
  refine r_iload_n dX5_changeBy_49 rfl ?_
  refine s_callVv (z := mX5_endOf) [vI v2] dX5_changeBy_50 mv_X5_endOf lk_X5_55 rfl (by decide) (kP hS hp) (Nat.le_of_ble_eq_true rfl) (WPs.mono k (fun r50 s50 k => ?_))
  refine s_callVv (z := mX3_apart) [vI r2, vI r50] dX5_changeBy_53 mv_X3_apart lk_X5_69 rfl (by decide) (k_7 hS) (Nat.le_of_ble_eq_true rfl) (WPs.mono k (fun r53 s53 k => ?_))
  refine r_aload_n dX5_changeBy_56 rfl ?_
  refine r_getRv dX5_changeBy_57 fl_X5_23 rfl (kP hS hp) (fP1 hS hp) (by decide) ?_
  refine r_aload_n dX5_changeBy_60 rfl ?_
  refine r_iload_n dX5_changeBy_61 rfl ?_
  refine s_callVv (z := mX5_beginOf) [vI v1] dX5_changeBy_62 mv_X5_beginOf lk_X5_60 rfl (by decide) (kP hS hp) (Nat.le_of_ble_eq_true rfl) (WPs.mono k (fun r62 s62 k => ?_))
  refine r_iload dX5_changeBy_65 rfl ?_
  refine s_callVv (z := mX3_apart) [vI r62, vI r8] dX5_changeBy_67 mv_X3_apart lk_X5_69 rfl (by decide) (k_7 hS) (Nat.le_of_ble_eq_true rfl) (WPs.mono k (fun r67 s67 k => ?_))
  obtain ⟨h, k⟩ := k
  refine r_iadd dX5_changeBy_70 h ?_
  refine r_istore dX5_changeBy_71 (by decide) rfl rfl ?_
  refine r_iload dX5_changeBy_73 rfl ?_
  refine r_iload dX5_changeBy_75 rfl ?_
  obtain ⟨h, k⟩ := k
  refine r_isub dX5_changeBy_77 h ?_
  exact s_iret dX5_changeBy_78 rfl k
theorem e_X5_turnRun {p : Nat} {v1 v2 : Int} {S : ShT} {σ : StT} {Q : Int → StT → Prop} (hS : SHP S) (hp : isP p) (k : AWs mX5_turnRun 5 [(0, vR p), (3, vI v1), (4, vI v2)] [] S σ Q) : WPs mX5_turnRun [vR p, vI v1, vI v2] S σ Q := by
  refine s_entry (by decide) (Nat.le_of_ble_eq_true rfl) rfl rfl ?_
  refine r_iload_n dX5_turnRun_0 rfl ?_
  refine r_istore_n dX5_turnRun_1 (by decide) rfl rfl ?_
  refine r_iload_n dX5_turnRun_2 rfl ?_
  refine r_istore dX5_turnRun_3 (by decide) rfl rfl ?_
  refine r_loc [0, 3, 4] rfl ?_
  exact k
theorem t_X5_turnRun_5 {p : Nat} {v3 v4 : Int} {S : ShT} {σ : StT} {Q : Int → StT → Prop} (hS : SHP S) (hp : isP p) (k : (v4 < v3 → Q 0 σ) ∧ (¬ (v4 < v3) → (0 ≤ v3 ∧ v3 < 24) ∧ ∀ x19 : Int, x19 = iXor (σ (p + 1) v3.toNat) 1 → (0 ≤ v4 ∧ v4 < 24) ∧ (0 ≤ v3 ∧ v3 < 24) ∧ (0 ≤ v4 ∧ v4 < 24) ∧ inR (v3 + 1) ∧ inR (v4 + -1) ∧ AWs mX5_turnRun 5 [(0, vR p), (3, vI (v3 + 1)), (4, vI (v4 + -1))] [] S (up2 (up2 σ (p + 1) v3.toNat (iXor (σ (p + 1) v4.toNat) 1)) (p + 1) v4.toNat x19) Q)) : AWs mX5_turnRun 5 [(0, vR p), (3, vI v3), (4, vI v4)] [] S σ Q := by
  refine r_iload_n dX5_turnRun_5 rfl ?_
  refine r_iload dX5_turnRun_6 rfl ?_
  refine r_icmp_gt (tgt := 54) dX5_turnRun_8 rfl (fun h => ?_) (fun h => ?_)
  · have k := k.1 h
    exact s_vret dX5_turnRun_54 rfl k
  · have k := k.2 h
    refine r_aload_n dX5_turnRun_11 rfl ?_
    refine r_getRv dX5_turnRun_12 fl_X5_9 rfl (kP hS hp) (fP3 hS hp) (Nat.succ_ne_zero _) ?_
    refine r_iload_n dX5_turnRun_15 rfl ?_
    obtain ⟨⟨h0, h1⟩, k⟩ := k
    refine r_iald dX5_turnRun_16 (Or.inl (kP1 hS hp)) h0 h1 ?_
    refine r_iconst dX5_turnRun_17 ⟨by decide, by decide⟩ ?_
    refine r_ixor dX5_turnRun_18 ?_
    refine r_gen (fun x19 hx19 => ?_)
    have k := k x19 hx19
    refine r_istore dX5_turnRun_19 (by decide) rfl rfl ?_
    refine r_aload_n dX5_turnRun_21 rfl ?_
    refine r_getRv dX5_turnRun_22 fl_X5_9 rfl (kP hS hp) (fP3 hS hp) (Nat.succ_ne_zero _) ?_
    refine r_iload_n dX5_turnRun_25 rfl ?_
    refine r_aload_n dX5_turnRun_26 rfl ?_
    refine r_getRv dX5_turnRun_27 fl_X5_9 rfl (kP hS hp) (fP3 hS hp) (Nat.succ_ne_zero _) ?_
    refine r_iload dX5_turnRun_30 rfl ?_
    obtain ⟨⟨h0, h1⟩, k⟩ := k
    refine r_iald dX5_turnRun_32 (Or.inl (kP1 hS hp)) h0 h1 ?_
    refine r_iconst dX5_turnRun_33 ⟨by decide, by decide⟩ ?_
    refine r_ixor dX5_turnRun_34 ?_
    obtain ⟨⟨h0, h1⟩, k⟩ := k
    refine r_iast dX5_turnRun_35 (kP1 hS hp) h0 h1 ?_
    refine r_aload_n dX5_turnRun_36 rfl ?_
    refine r_getRv dX5_turnRun_37 fl_X5_9 rfl (kP hS hp) (fP3 hS hp) (Nat.succ_ne_zero _) ?_
    refine r_iload dX5_turnRun_40 rfl ?_
    refine r_iload dX5_turnRun_42 rfl ?_
    obtain ⟨⟨h0, h1⟩, k⟩ := k
    refine r_iast dX5_turnRun_44 (kP1 hS hp) h0 h1 ?_
    obtain ⟨h, k⟩ := k
    refine r_iinc dX5_turnRun_45 rfl (by decide) rfl rfl h ?_
    obtain ⟨h, k⟩ := k
    refine r_iinc dX5_turnRun_48 rfl (by decide) rfl rfl h ?_
    refine r_goto (tgt := 5) dX5_turnRun_51 rfl ?_
    refine r_loc [0, 1, 2] rfl ?_
    exact k
theorem e_X5_makeBetter {p : Nat} {S : ShT} {σ : StT} {Q : Int → StT → Prop} (hS : SHP S) (hp : isP p) (k : AWs mX5_makeBetter 2 [(0, vR p), (1, vI 0)] [] S σ Q) : WPs mX5_makeBetter [vR p] S σ Q := by
  refine s_entry (by decide) (Nat.le_of_ble_eq_true rfl) rfl rfl ?_
  refine r_iconst dX5_makeBetter_0 ⟨by decide, by decide⟩ ?_
  refine r_istore_n dX5_makeBetter_1 (by decide) rfl rfl ?_
  exact k
theorem t_X5_makeBetter_2 {p : Nat} {v1 : Int} {S : ShT} {σ : StT} {Q : Int → StT → Prop} (hS : SHP S) (hp : isP p) (k : (200 ≤ v1 → Q 200 σ) ∧ (¬ (200 ≤ v1) → WPs mX5_turnsFirstThatWins [vR p] S σ (fun r10 s10 => (¬ r10 = 0 → inR (v1 + 1) ∧ AWs mX5_makeBetter 2 [(0, vR p), (1, vI (v1 + 1))] [] S s10 Q) ∧ (r10 = 0 → Q v1 s10)))) : AWs mX5_makeBetter 2 [(0, vR p), (1, vI v1)] [] S σ Q := by
  refine r_iload_n dX5_makeBetter_2 rfl ?_
  refine r_sipush dX5_makeBetter_3 (by decide +kernel) ⟨by decide, by decide⟩ ?_
  refine r_icmp_ge (tgt := 24) dX5_makeBetter_6 rfl (fun h => ?_) (fun h => ?_)
  · have k := k.1 h
    refine r_sipush dX5_makeBetter_24 (by decide +kernel) ⟨by decide, by decide⟩ ?_
    exact s_iret dX5_makeBetter_27 rfl k
  · have k := k.2 h
    refine r_aload_n dX5_makeBetter_9 rfl ?_
    refine s_callVv (z := mX5_turnsFirstThatWins) [] dX5_makeBetter_10 mv_X5_turnsFirstThatWins lk_X5_90 rfl (by decide) (kP hS hp) (Nat.le_of_ble_eq_true rfl) (WPs.mono k (fun r10 s10 k => ?_))
    refine r_if_ne (tgt := 18) dX5_makeBetter_13 rfl (fun h => ?_) (fun h => ?_)
    · have k := k.1 h
      obtain ⟨h, k⟩ := k
      refine r_iinc dX5_makeBetter_18 rfl (by decide) rfl rfl h ?_
      refine r_goto (tgt := 2) dX5_makeBetter_21 rfl ?_
      exact k
    · have k := k.2 h
      refine r_iload_n dX5_makeBetter_16 rfl ?_
      exact s_iret dX5_makeBetter_17 rfl k
theorem e_X5_turnsFirstThatWins {p : Nat} {S : ShT} {σ : StT} {Q : Int → StT → Prop} (hS : SHP S) (hp : isP p) (k : AWs mX5_turnsFirstThatWins 2 [(0, vR p), (1, vI 0)] [] S σ Q) : WPs mX5_turnsFirstThatWins [vR p] S σ Q := by
  refine s_entry (by decide) (Nat.le_of_ble_eq_true rfl) rfl rfl ?_
  refine r_iconst dX5_turnsFirstThatWins_0 ⟨by decide, by decide⟩ ?_
  refine r_istore_n dX5_turnsFirstThatWins_1 (by decide) rfl rfl ?_
  exact k
theorem t_X5_turnsFirstThatWins_2 {p : Nat} {v1 : Int} {S : ShT} {σ : StT} {Q : Int → StT → Prop} (hS : SHP S) (hp : isP p) (k : (σ p 4 ≤ v1 → Q 0 σ) ∧ (¬ (σ p 4 ≤ v1) → AWs mX5_turnsFirstThatWins 12 [(0, vR p), (1, vI v1), (2, vI v1)] [] S σ Q)) : AWs mX5_turnsFirstThatWins 2 [(0, vR p), (1, vI v1)] [] S σ Q := by
  refine r_iload_n dX5_turnsFirstThatWins_2 rfl ?_
  refine r_aload_n dX5_turnsFirstThatWins_3 rfl ?_
  refine r_getIv dX5_turnsFirstThatWins_4 fl_X5_15 rfl (kP hS hp) ?_
  refine r_icmp_ge (tgt := 49) dX5_turnsFirstThatWins_7 rfl (fun h => ?_) (fun h => ?_)
  · have k := k.1 h
    refine r_iconst dX5_turnsFirstThatWins_49 ⟨by decide, by decide⟩ ?_
    exact s_zret dX5_turnsFirstThatWins_50 rfl (by decide) k
  · have k := k.2 h
    refine r_iload_n dX5_turnsFirstThatWins_10 rfl ?_
    refine r_istore_n dX5_turnsFirstThatWins_11 (by decide) rfl rfl ?_
    exact k
theorem t_X5_turnsFirstThatWins_12 {p : Nat} {v1 v2 : Int} {S : ShT} {σ : StT} {Q : Int → StT → Prop} (hS : SHP S) (hp : isP p) (k : (σ p 4 ≤ v2 → inR (v1 + 1) ∧ AWs mX5_turnsFirstThatWins 2 [(0, vR p), (1, vI (v1 + 1))] [] S σ Q) ∧ (¬ (σ p 4 ≤ v2) → WPs mX5_changeBy [vR p, vI v1, vI v2] S σ (fun r23 s23 => (0 ≤ r23 → inR (v2 + 1) ∧ AWs mX5_turnsFirstThatWins 12 [(0, vR p), (1, vI v1), (2, vI (v2 + 1))] [] S s23 Q) ∧ (¬ (0 ≤ r23) → WPs mX5_turnRun [vR p, vI v1, vI v2] S s23 (fun r32 s32 => Q 1 s32))))) : AWs mX5_turnsFirstThatWins 12 [(0, vR p), (1, vI v1), (2, vI v2)] [] S σ Q := by
  refine r_iload_n dX5_turnsFirstThatWins_12 rfl ?_
  refine r_aload_n dX5_turnsFirstThatWins_13 rfl ?_
  refine r_getIv dX5_turnsFirstThatWins_14 fl_X5_15 rfl (kP hS hp) ?_
  refine r_icmp_ge (tgt := 43) dX5_turnsFirstThatWins_17 rfl (fun h => ?_) (fun h => ?_)
  · have k := k.1 h
    obtain ⟨h, k⟩ := k
    refine r_iinc dX5_turnsFirstThatWins_43 rfl (by decide) rfl rfl h ?_
    refine r_goto (tgt := 2) dX5_turnsFirstThatWins_46 rfl ?_
    refine r_loc [0, 1] rfl ?_
    exact k
  · have k := k.2 h
    refine r_aload_n dX5_turnsFirstThatWins_20 rfl ?_
    refine r_iload_n dX5_turnsFirstThatWins_21 rfl ?_
    refine r_iload_n dX5_turnsFirstThatWins_22 rfl ?_
    refine s_callVv (z := mX5_changeBy) [vI v1, vI v2] dX5_turnsFirstThatWins_23 mv_X5_changeBy lk_X5_94 rfl (by decide) (kP hS hp) (Nat.le_of_ble_eq_true rfl) (WPs.mono k (fun r23 s23 k => ?_))
    refine r_if_ge (tgt := 37) dX5_turnsFirstThatWins_26 rfl (fun h => ?_) (fun h => ?_)
    · have k := k.1 h
      obtain ⟨h, k⟩ := k
      refine r_iinc dX5_turnsFirstThatWins_37 rfl (by decide) rfl rfl h ?_
      refine r_goto (tgt := 12) dX5_turnsFirstThatWins_40 rfl ?_
      exact k
    · have k := k.2 h
      refine r_aload_n dX5_turnsFirstThatWins_29 rfl ?_
      refine r_iload_n dX5_turnsFirstThatWins_30 rfl ?_
      refine r_iload_n dX5_turnsFirstThatWins_31 rfl ?_
      refine s_callVv (z := mX5_turnRun) [vI v1, vI v2] dX5_turnsFirstThatWins_32 mv_X5_turnRun lk_X5_97 rfl (by decide) (kP hS hp) (Nat.le_of_ble_eq_true rfl) (WPs.mono k (fun r32 s32 k => ?_))
      refine r_iconst dX5_turnsFirstThatWins_35 ⟨by decide, by decide⟩ ?_
      exact s_zret dX5_turnsFirstThatWins_36 rfl (by decide) k
theorem e_X5_penAt {p : Nat} {v1 v2 : Int} {S : ShT} {σ : StT} {Q : Int → StT → Prop} (hS : SHP S) (hp : isP p) (k : AWs mX5_penAt 8 [(0, vR p), (1, vI v1), (2, vI v2), (3, vI 0), (4, vI 0), (5, vI 0)] [] S σ Q) : WPs mX5_penAt [vR p, vI v1, vI v2] S σ Q := by
  refine s_entry (by decide) (Nat.le_of_ble_eq_true rfl) rfl rfl ?_
  refine r_iconst dX5_penAt_0 ⟨by decide, by decide⟩ ?_
  refine r_istore_n dX5_penAt_1 (by decide) rfl rfl ?_
  refine r_iconst dX5_penAt_2 ⟨by decide, by decide⟩ ?_
  refine r_istore dX5_penAt_3 (by decide) rfl rfl ?_
  refine r_iconst dX5_penAt_5 ⟨by decide, by decide⟩ ?_
  refine r_istore dX5_penAt_6 (by decide) rfl rfl ?_
  exact k
theorem t_X5_penAt_8 {p : Nat} {v1 v2 v3 v4 v5 : Int} {S : ShT} {σ : StT} {Q : Int → StT → Prop} (hS : SHP S) (hp : isP p) (k : (σ p 4 ≤ v5 → WPs mX5_ofPen [vI v2, vI v4, vI 0, vI (σ p 4)] S σ (fun r137 s137 => Q r137 s137)) ∧ (¬ (σ p 4 ≤ v5) → WPs mX5_leg [vR p, vI v5] S σ (fun r28 s28 => inR ((σ 4 8) * r28) ∧ inR (v3 + ((σ 4 8) * r28)) ∧ ∀ x33 : Int, x33 = v3 + ((σ 4 8) * r28) → (x33 ≤ v1 → AWs mX5_penAt 52 [(0, vR p), (1, vI v1), (2, vI v2), (3, vI x33), (4, vI v4), (5, vI v5), (6, vI 0)] [] S s28 Q) ∧ (¬ (x33 ≤ v1) → WPs mX5_ofPen [vI v2, vI v4, vI 0, vI v5] S s28 (fun r45 s45 => Q r45 s45))))) : AWs mX5_penAt 8 [(0, vR p), (1, vI v1), (2, vI v2), (3, vI v3), (4, vI v4), (5, vI v5)] [] S σ Q := by
  refine r_iload dX5_penAt_8 rfl ?_
  refine r_aload_n dX5_penAt_10 rfl ?_
  refine r_getIv dX5_penAt_11 fl_X5_15 rfl (kP hS hp) ?_
  refine r_icmp_ge (tgt := 129) dX5_penAt_14 rfl (fun h => ?_) (fun h => ?_)
  · have k := k.1 h
    refine r_iload_n dX5_penAt_129 rfl ?_
    refine r_iload dX5_penAt_130 rfl ?_
    refine r_iconst dX5_penAt_132 ⟨by decide, by decide⟩ ?_
    refine r_aload_n dX5_penAt_133 rfl ?_
    refine r_getIv dX5_penAt_134 fl_X5_15 rfl (kP hS hp) ?_
    refine s_callS (z := mX5_ofPen) [vI v2, vI v4, vI 0, vI (σ p 4)] dX5_penAt_137 ms_X5_ofPen lk_X5_101 rfl (by decide) (Nat.le_of_ble_eq_true rfl) (WPs.mono k (fun r137 s137 k => ?_))
    exact s_iret dX5_penAt_140 rfl k
  · have k := k.2 h
    refine r_iload_n dX5_penAt_17 rfl ?_
    refine r_aload_n dX5_penAt_18 rfl ?_
    refine r_getRv dX5_penAt_19 fl_X5_19 rfl (kP hS hp) (fP0 hS hp) (by decide) ?_
    refine r_getIv dX5_penAt_22 fl_X5_84 rfl (k_4 hS) ?_
    refine r_aload_n dX5_penAt_25 rfl ?_
    refine r_iload dX5_penAt_26 rfl ?_
    refine s_callVv (z := mX5_leg) [vI v5] dX5_penAt_28 mv_X5_leg lk_X5_72 rfl (by decide) (kP hS hp) (Nat.le_of_ble_eq_true rfl) (WPs.mono k (fun r28 s28 k => ?_))
    obtain ⟨h, k⟩ := k
    refine r_imul dX5_penAt_31 h ?_
    obtain ⟨h, k⟩ := k
    refine r_iadd dX5_penAt_32 h ?_
    refine r_gen (fun x33 hx33 => ?_)
    have k := k x33 hx33
    refine r_istore_n dX5_penAt_33 (by decide) rfl rfl ?_
    refine r_iload_n dX5_penAt_34 rfl ?_
    refine r_iload_n dX5_penAt_35 rfl ?_
    refine r_icmp_ge (tgt := 49) dX5_penAt_36 rfl (fun h => ?_) (fun h => ?_)
    · have k := k.1 h
      refine r_iconst dX5_penAt_49 ⟨by decide, by decide⟩ ?_
      refine r_istore dX5_penAt_50 (by decide) rfl rfl ?_
      exact k
    · have k := k.2 h
      refine r_iload_n dX5_penAt_39 rfl ?_
      refine r_iload dX5_penAt_40 rfl ?_
      refine r_iconst dX5_penAt_42 ⟨by decide, by decide⟩ ?_
      refine r_iload dX5_penAt_43 rfl ?_
      refine s_callS (z := mX5_ofPen) [vI v2, vI v4, vI 0, vI v5] dX5_penAt_45 ms_X5_ofPen lk_X5_101 rfl (by decide) (Nat.le_of_ble_eq_true rfl) (WPs.mono k (fun r45 s45 k => ?_))
      exact s_iret dX5_penAt_48 rfl k
theorem t_X5_penAt_52 {p : Nat} {v1 v2 v3 v4 v5 v6 : Int} {S : ShT} {σ : StT} {Q : Int → StT → Prop} (hS : SHP S) (hp : isP p) (k : WPs mX5_trailAt [vR p, vI v5] S σ (fun r64 s64 => (0 ≤ r64 ∧ r64 < 24) ∧ ((s64 42 r64.toNat ≤ v6 → inR (v5 + 1) ∧ AWs mX5_penAt 8 [(0, vR p), (1, vI v1), (2, vI v2), (3, vI v3), (4, vI v4), (5, vI (v5 + 1))] [] S s64 Q) ∧ (¬ (s64 42 r64.toNat ≤ v6) → WPs mX5_strokeAt [vR p, vI v5, vI v6] S s64 (fun r88 s88 => 0 ≤ r88 ∧ WPs mX0_strokeLength [vR 4, vI (r88 / 2)] S s88 (fun r93 s93 => inR ((s64 4 7) * r93) ∧ inR (v3 + ((s64 4 7) * r93)) ∧ ∀ x98 : Int, x98 = v3 + ((s64 4 7) * r93) → (x98 ≤ v1 → inR (v4 + 1) ∧ inR (v6 + 1) ∧ AWs mX5_penAt 52 [(0, vR p), (1, vI v1), (2, vI v2), (3, vI x98), (4, vI (v4 + 1)), (5, vI v5), (6, vI (v6 + 1))] [] S s93 Q) ∧ (¬ (x98 ≤ v1) → WPs mX5_ofPen [vI v2, vI v4, vI 1, vI v5] S s93 (fun r110 s110 => Q r110 s110)))))))) : AWs mX5_penAt 52 [(0, vR p), (1, vI v1), (2, vI v2), (3, vI v3), (4, vI v4), (5, vI v5), (6, vI v6)] [] S σ Q := by
  refine r_iload dX5_penAt_52 rfl ?_
  refine r_aload_n dX5_penAt_54 rfl ?_
  refine r_getRv dX5_penAt_55 fl_X5_27 rfl (kP hS hp) (fP2 hS hp) (by decide) ?_
  refine r_getRv dX5_penAt_58 fl_X5_48 rfl (k_40 hS) (f_40_4 hS) (by decide) ?_
  refine r_aload_n dX5_penAt_61 rfl ?_
  refine r_iload dX5_penAt_62 rfl ?_
  refine s_callVv (z := mX5_trailAt) [vI v5] dX5_penAt_64 mv_X5_trailAt lk_X5_41 rfl (by decide) (kP hS hp) (Nat.le_of_ble_eq_true rfl) (WPs.mono k (fun r64 s64 k => ?_))
  obtain ⟨⟨h0, h1⟩, k⟩ := k
  refine r_iald dX5_penAt_67 (Or.inl (k_42 hS)) h0 h1 ?_
  refine r_icmp_ge (tgt := 123) dX5_penAt_68 rfl (fun h => ?_) (fun h => ?_)
  · have k := k.1 h
    obtain ⟨h, k⟩ := k
    refine r_iinc dX5_penAt_123 rfl (by decide) rfl rfl h ?_
    refine r_goto (tgt := 8) dX5_penAt_126 rfl ?_
    refine r_loc [0, 1, 2, 3, 4, 5] rfl ?_
    exact k
  · have k := k.2 h
    refine r_iload_n dX5_penAt_71 rfl ?_
    refine r_aload_n dX5_penAt_72 rfl ?_
    refine r_getRv dX5_penAt_73 fl_X5_19 rfl (kP hS hp) (fP0 hS hp) (by decide) ?_
    refine r_getIv dX5_penAt_76 fl_X5_75 rfl (k_4 hS) ?_
    refine r_aload_n dX5_penAt_79 rfl ?_
    refine r_getRv dX5_penAt_80 fl_X5_19 rfl (kP hS hp) (fP0 hS hp) (by decide) ?_
    refine r_aload_n dX5_penAt_83 rfl ?_
    refine r_iload dX5_penAt_84 rfl ?_
    refine r_iload dX5_penAt_86 rfl ?_
    refine s_callVv (z := mX5_strokeAt) [vI v5, vI v6] dX5_penAt_88 mv_X5_strokeAt lk_X5_105 rfl (by decide) (kP hS hp) (Nat.le_of_ble_eq_true rfl) (WPs.mono k (fun r88 s88 k => ?_))
    refine r_iconst dX5_penAt_91 ⟨by decide, by decide⟩ ?_
    obtain ⟨h, k⟩ := k
    refine r_idiv dX5_penAt_92 h (by decide) ?_
    refine s_callVv (z := mX0_strokeLength) [vI (r88 / 2)] dX5_penAt_93 mv_X0_strokeLength lk_X5_108 rfl (by decide) (k_4 hS) (Nat.le_of_ble_eq_true rfl) (WPs.mono k (fun r93 s93 k => ?_))
    obtain ⟨h, k⟩ := k
    refine r_imul dX5_penAt_96 h ?_
    obtain ⟨h, k⟩ := k
    refine r_iadd dX5_penAt_97 h ?_
    refine r_gen (fun x98 hx98 => ?_)
    have k := k x98 hx98
    refine r_istore_n dX5_penAt_98 (by decide) rfl rfl ?_
    refine r_iload_n dX5_penAt_99 rfl ?_
    refine r_iload_n dX5_penAt_100 rfl ?_
    refine r_icmp_ge (tgt := 114) dX5_penAt_101 rfl (fun h => ?_) (fun h => ?_)
    · have k := k.1 h
      obtain ⟨h, k⟩ := k
      refine r_iinc dX5_penAt_114 rfl (by decide) rfl rfl h ?_
      obtain ⟨h, k⟩ := k
      refine r_iinc dX5_penAt_117 rfl (by decide) rfl rfl h ?_
      refine r_goto (tgt := 52) dX5_penAt_120 rfl ?_
      exact k
    · have k := k.2 h
      refine r_iload_n dX5_penAt_104 rfl ?_
      refine r_iload dX5_penAt_105 rfl ?_
      refine r_iconst dX5_penAt_107 ⟨by decide, by decide⟩ ?_
      refine r_iload dX5_penAt_108 rfl ?_
      refine s_callS (z := mX5_ofPen) [vI v2, vI v4, vI 1, vI v5] dX5_penAt_110 ms_X5_ofPen lk_X5_101 rfl (by decide) (Nat.le_of_ble_eq_true rfl) (WPs.mono k (fun r110 s110 k => ?_))
      exact s_iret dX5_penAt_113 rfl k
theorem e_X5_ofPen {p : Nat} {v0 v1 v2 v3 : Int} {S : ShT} {σ : StT} {Q : Int → StT → Prop} (hS : SHP S) (hp : isP p) (k : (¬ v0 = 0 → (¬ v0 = 1 → Q v3 σ) ∧ (v0 = 1 → Q v2 σ)) ∧ (v0 = 0 → Q v1 σ)) : WPs mX5_ofPen [vI v0, vI v1, vI v2, vI v3] S σ Q := by
  refine s_entry (by decide) (Nat.le_of_ble_eq_true rfl) rfl rfl ?_
  refine r_iload_n dX5_ofPen_0 rfl ?_
  refine r_if_ne (tgt := 6) dX5_ofPen_1 rfl (fun h => ?_) (fun h => ?_)
  · have k := k.1 h
    refine r_iload_n dX5_ofPen_6 rfl ?_
    refine r_iconst dX5_ofPen_7 ⟨by decide, by decide⟩ ?_
    refine r_icmp_ne (tgt := 15) dX5_ofPen_8 rfl (fun h => ?_) (fun h => ?_)
    · have k := k.1 h
      refine r_iload_n dX5_ofPen_15 rfl ?_
      exact s_iret dX5_ofPen_16 rfl k
    · have k := k.2 h
      refine r_iload_n dX5_ofPen_11 rfl ?_
      refine r_goto (tgt := 16) dX5_ofPen_12 rfl ?_
      exact s_iret dX5_ofPen_16 rfl k
  · have k := k.2 h
    refine r_iload_n dX5_ofPen_4 rfl ?_
    exact s_iret dX5_ofPen_5 rfl k
theorem e_X5_longestPlace {p : Nat} {S : ShT} {σ : StT} {Q : Int → StT → Prop} (hS : SHP S) (hp : isP p) (k : AWs mX5_longestPlace 7 [(0, vR p), (1, vI (-2)), (2, vI 0), (3, vI 0)] [] S σ Q) : WPs mX5_longestPlace [vR p] S σ Q := by
  refine s_entry (by decide) (Nat.le_of_ble_eq_true rfl) rfl rfl ?_
  refine r_bipush dX5_longestPlace_0 (by decide +kernel) ⟨by decide, by decide⟩ ?_
  refine r_istore_n dX5_longestPlace_2 (by decide) rfl rfl ?_
  refine r_iconst dX5_longestPlace_3 ⟨by decide, by decide⟩ ?_
  refine r_istore_n dX5_longestPlace_4 (by decide) rfl rfl ?_
  refine r_iconst dX5_longestPlace_5 ⟨by decide, by decide⟩ ?_
  refine r_istore_n dX5_longestPlace_6 (by decide) rfl rfl ?_
  exact k
theorem t_X5_longestPlace_7 {p : Nat} {v1 v2 v3 : Int} {S : ShT} {σ : StT} {Q : Int → StT → Prop} (hS : SHP S) (hp : isP p) (k : (σ p 4 ≤ v3 → Q v1 σ) ∧ (¬ (σ p 4 ≤ v3) → WPs mX5_trailAt [vR p, vI v3] S σ (fun r24 s24 => (0 ≤ r24 ∧ r24 < 24) ∧ ∀ x28 : Int, x28 = s24 45 r24.toNat → (v1 = -2 → inR (v3 + 1) ∧ AWs mX5_longestPlace 7 [(0, vR p), (1, vI v3), (2, vI x28), (3, vI (v3 + 1))] [] S s24 Q) ∧ (¬ (v1 = -2) → (x28 ≤ v2 → inR (v3 + 1) ∧ AWs mX5_longestPlace 7 [(0, vR p), (1, vI v1), (2, vI v2), (3, vI (v3 + 1))] [] S s24 Q) ∧ (¬ (x28 ≤ v2) → inR (v3 + 1) ∧ AWs mX5_longestPlace 7 [(0, vR p), (1, vI v3), (2, vI x28), (3, vI (v3 + 1))] [] S s24 Q))))) : AWs mX5_longestPlace 7 [(0, vR p), (1, vI v1), (2, vI v2), (3, vI v3)] [] S σ Q := by
  refine r_iload_n dX5_longestPlace_7 rfl ?_
  refine r_aload_n dX5_longestPlace_8 rfl ?_
  refine r_getIv dX5_longestPlace_9 fl_X5_15 rfl (kP hS hp) ?_
  refine r_icmp_ge (tgt := 53) dX5_longestPlace_12 rfl (fun h => ?_) (fun h => ?_)
  · have k := k.1 h
    refine r_iload_n dX5_longestPlace_53 rfl ?_
    exact s_iret dX5_longestPlace_54 rfl k
  · have k := k.2 h
    refine r_aload_n dX5_longestPlace_15 rfl ?_
    refine r_getRv dX5_longestPlace_16 fl_X5_27 rfl (kP hS hp) (fP2 hS hp) (by decide) ?_
    refine r_getRv dX5_longestPlace_19 fl_X5_111 rfl (k_40 hS) (f_40_7 hS) (by decide) ?_
    refine r_aload_n dX5_longestPlace_22 rfl ?_
    refine r_iload_n dX5_longestPlace_23 rfl ?_
    refine s_callVv (z := mX5_trailAt) [vI v3] dX5_longestPlace_24 mv_X5_trailAt lk_X5_41 rfl (by decide) (kP hS hp) (Nat.le_of_ble_eq_true rfl) (WPs.mono k (fun r24 s24 k => ?_))
    obtain ⟨⟨h0, h1⟩, k⟩ := k
    refine r_iald dX5_longestPlace_27 (Or.inl (k_45 hS)) h0 h1 ?_
    refine r_gen (fun x28 hx28 => ?_)
    have k := k x28 hx28
    refine r_istore dX5_longestPlace_28 (by decide) rfl rfl ?_
    refine r_iload_n dX5_longestPlace_30 rfl ?_
    refine r_bipush dX5_longestPlace_31 (by decide +kernel) ⟨by decide, by decide⟩ ?_
    refine r_icmp_eq (tgt := 42) dX5_longestPlace_33 rfl (fun h => ?_) (fun h => ?_)
    · have k := k.1 h
      refine r_iload_n dX5_longestPlace_42 rfl ?_
      refine r_istore_n dX5_longestPlace_43 (by decide) rfl rfl ?_
      refine r_iload dX5_longestPlace_44 rfl ?_
      refine r_istore_n dX5_longestPlace_46 (by decide) rfl rfl ?_
      obtain ⟨h, k⟩ := k
      refine r_iinc dX5_longestPlace_47 rfl (by decide) rfl rfl h ?_
      refine r_goto (tgt := 7) dX5_longestPlace_50 rfl ?_
      refine r_loc [0, 1, 2, 3] rfl ?_
      exact k
    · have k := k.2 h
      refine r_iload dX5_longestPlace_36 rfl ?_
      refine r_iload_n dX5_longestPlace_38 rfl ?_
      refine r_icmp_le (tgt := 47) dX5_longestPlace_39 rfl (fun h => ?_) (fun h => ?_)
      · have k := k.1 h
        obtain ⟨h, k⟩ := k
        refine r_iinc dX5_longestPlace_47 rfl (by decide) rfl rfl h ?_
        refine r_goto (tgt := 7) dX5_longestPlace_50 rfl ?_
        refine r_loc [0, 1, 2, 3] rfl ?_
        exact k
      · have k := k.2 h
        refine r_iload_n dX5_longestPlace_42 rfl ?_
        refine r_istore_n dX5_longestPlace_43 (by decide) rfl rfl ?_
        refine r_iload dX5_longestPlace_44 rfl ?_
        refine r_istore_n dX5_longestPlace_46 (by decide) rfl rfl ?_
        obtain ⟨h, k⟩ := k
        refine r_iinc dX5_longestPlace_47 rfl (by decide) rfl rfl h ?_
        refine r_goto (tgt := 7) dX5_longestPlace_50 rfl ?_
        refine r_loc [0, 1, 2, 3] rfl ?_
        exact k
theorem e_X5_farthestLeg {p : Nat} {S : ShT} {σ : StT} {Q : Int → StT → Prop} (hS : SHP S) (hp : isP p) (k : (¬ σ p 4 = 0 → AWs mX5_farthestLeg 14 [(0, vR p), (1, vI 0), (2, vI 1)] [] S σ Q) ∧ (σ p 4 = 0 → Q (-2) σ)) : WPs mX5_farthestLeg [vR p] S σ Q := by
  refine s_entry (by decide) (Nat.le_of_ble_eq_true rfl) rfl rfl ?_
  refine r_aload_n dX5_farthestLeg_0 rfl ?_
  refine r_getIv dX5_farthestLeg_1 fl_X5_15 rfl (kP hS hp) ?_
  refine r_if_ne (tgt := 10) dX5_farthestLeg_4 rfl (fun h => ?_) (fun h => ?_)
  · have k := k.1 h
    refine r_iconst dX5_farthestLeg_10 ⟨by decide, by decide⟩ ?_
    refine r_istore_n dX5_farthestLeg_11 (by decide) rfl rfl ?_
    refine r_iconst dX5_farthestLeg_12 ⟨by decide, by decide⟩ ?_
    refine r_istore_n dX5_farthestLeg_13 (by decide) rfl rfl ?_
    exact k
  · have k := k.2 h
    refine r_bipush dX5_farthestLeg_7 (by decide +kernel) ⟨by decide, by decide⟩ ?_
    exact s_iret dX5_farthestLeg_9 rfl k
theorem t_X5_farthestLeg_14 {p : Nat} {v1 v2 : Int} {S : ShT} {σ : StT} {Q : Int → StT → Prop} (hS : SHP S) (hp : isP p) (k : (σ p 4 < v2 → Q v1 σ) ∧ (¬ (σ p 4 < v2) → WPs mX5_leg [vR p, vI v2] S σ (fun r24 s24 => WPs mX5_leg [vR p, vI v1] S s24 (fun r29 s29 => (r24 ≤ r29 → inR (v2 + 1) ∧ AWs mX5_farthestLeg 14 [(0, vR p), (1, vI v1), (2, vI (v2 + 1))] [] S s29 Q) ∧ (¬ (r24 ≤ r29) → inR (v2 + 1) ∧ AWs mX5_farthestLeg 14 [(0, vR p), (1, vI v2), (2, vI (v2 + 1))] [] S s29 Q))))) : AWs mX5_farthestLeg 14 [(0, vR p), (1, vI v1), (2, vI v2)] [] S σ Q := by
  refine r_iload_n dX5_farthestLeg_14 rfl ?_
  refine r_aload_n dX5_farthestLeg_15 rfl ?_
  refine r_getIv dX5_farthestLeg_16 fl_X5_15 rfl (kP hS hp) ?_
  refine r_icmp_gt (tgt := 43) dX5_farthestLeg_19 rfl (fun h => ?_) (fun h => ?_)
  · have k := k.1 h
    refine r_iload_n dX5_farthestLeg_43 rfl ?_
    exact s_iret dX5_farthestLeg_44 rfl k
  · have k := k.2 h
    refine r_aload_n dX5_farthestLeg_22 rfl ?_
    refine r_iload_n dX5_farthestLeg_23 rfl ?_
    refine s_callVv (z := mX5_leg) [vI v2] dX5_farthestLeg_24 mv_X5_leg lk_X5_72 rfl (by decide) (kP hS hp) (Nat.le_of_ble_eq_true rfl) (WPs.mono k (fun r24 s24 k => ?_))
    refine r_aload_n dX5_farthestLeg_27 rfl ?_
    refine r_iload_n dX5_farthestLeg_28 rfl ?_
    refine s_callVv (z := mX5_leg) [vI v1] dX5_farthestLeg_29 mv_X5_leg lk_X5_72 rfl (by decide) (kP hS hp) (Nat.le_of_ble_eq_true rfl) (WPs.mono k (fun r29 s29 k => ?_))
    refine r_icmp_le (tgt := 37) dX5_farthestLeg_32 rfl (fun h => ?_) (fun h => ?_)
    · have k := k.1 h
      obtain ⟨h, k⟩ := k
      refine r_iinc dX5_farthestLeg_37 rfl (by decide) rfl rfl h ?_
      refine r_goto (tgt := 14) dX5_farthestLeg_40 rfl ?_
      exact k
    · have k := k.2 h
      refine r_iload_n dX5_farthestLeg_35 rfl ?_
      refine r_istore_n dX5_farthestLeg_36 (by decide) rfl rfl ?_
      obtain ⟨h, k⟩ := k
      refine r_iinc dX5_farthestLeg_37 rfl (by decide) rfl rfl h ?_
      refine r_goto (tgt := 14) dX5_farthestLeg_40 rfl ?_
      exact k
theorem e_X5_liftsBetween {p : Nat} {S : ShT} {σ : StT} {Q : Int → StT → Prop} (hS : SHP S) (hp : isP p) (k : AWs mX5_liftsBetween 4 [(0, vR p), (1, vI 0), (2, vI 1)] [] S σ Q) : WPs mX5_liftsBetween [vR p] S σ Q := by
  refine s_entry (by decide) (Nat.le_of_ble_eq_true rfl) rfl rfl ?_
  refine r_iconst dX5_liftsBetween_0 ⟨by decide, by decide⟩ ?_
  refine r_istore_n dX5_liftsBetween_1 (by decide) rfl rfl ?_
  refine r_iconst dX5_liftsBetween_2 ⟨by decide, by decide⟩ ?_
  refine r_istore_n dX5_liftsBetween_3 (by decide) rfl rfl ?_
  exact k
theorem t_X5_liftsBetween_4 {p : Nat} {v1 v2 : Int} {S : ShT} {σ : StT} {Q : Int → StT → Prop} (hS : SHP S) (hp : isP p) (k : (σ p 4 ≤ v2 → Q v1 σ) ∧ (¬ (σ p 4 ≤ v2) → WPs mX5_leg [vR p, vI v2] S σ (fun r14 s14 => (r14 ≤ 0 → inR (v2 + 1) ∧ AWs mX5_liftsBetween 4 [(0, vR p), (1, vI v1), (2, vI (v2 + 1))] [] S s14 Q) ∧ (¬ (r14 ≤ 0) → inR (v1 + 1) ∧ inR (v2 + 1) ∧ AWs mX5_liftsBetween 4 [(0, vR p), (1, vI (v1 + 1)), (2, vI (v2 + 1))] [] S s14 Q)))) : AWs mX5_liftsBetween 4 [(0, vR p), (1, vI v1), (2, vI v2)] [] S σ Q := by
  refine r_iload_n dX5_liftsBetween_4 rfl ?_
  refine r_aload_n dX5_liftsBetween_5 rfl ?_
  refine r_getIv dX5_liftsBetween_6 fl_X5_15 rfl (kP hS hp) ?_
  refine r_icmp_ge (tgt := 29) dX5_liftsBetween_9 rfl (fun h => ?_) (fun h => ?_)
  · have k := k.1 h
    refine r_iload_n dX5_liftsBetween_29 rfl ?_
    exact s_iret dX5_liftsBetween_30 rfl k
  · have k := k.2 h
    refine r_aload_n dX5_liftsBetween_12 rfl ?_
    refine r_iload_n dX5_liftsBetween_13 rfl ?_
    refine s_callVv (z := mX5_leg) [vI v2] dX5_liftsBetween_14 mv_X5_leg lk_X5_72 rfl (by decide) (kP hS hp) (Nat.le_of_ble_eq_true rfl) (WPs.mono k (fun r14 s14 k => ?_))
    refine r_if_le (tgt := 23) dX5_liftsBetween_17 rfl (fun h => ?_) (fun h => ?_)
    · have k := k.1 h
      obtain ⟨h, k⟩ := k
      refine r_iinc dX5_liftsBetween_23 rfl (by decide) rfl rfl h ?_
      refine r_goto (tgt := 4) dX5_liftsBetween_26 rfl ?_
      exact k
    · have k := k.2 h
      obtain ⟨h, k⟩ := k
      refine r_iinc dX5_liftsBetween_20 rfl (by decide) rfl rfl h ?_
      obtain ⟨h, k⟩ := k
      refine r_iinc dX5_liftsBetween_23 rfl (by decide) rfl rfl h ?_
      refine r_goto (tgt := 4) dX5_liftsBetween_26 rfl ?_
      exact k
