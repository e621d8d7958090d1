/-! the Model: behind the making of a row -/
theorem t_X11_floor_15 {a : Nat} {S : ShT} {σ : StT} {Q : Int → StT → Prop} (hS : SHP S) (ha : S.2.1 a = (2, 25)) (k : (0 ≤ σ 125 50 ∧ σ 125 50 < 25) ∧ AWs mX11_floor 26 [(0, vR 125), (1, vR a), (2, vI 0), (3, vI 0)] [] S (up2 σ a (σ 125 50).toNat 1) Q) : AWs mX11_floor 15 [(0, vR 125), (1, vR a)] [] S σ Q := by
  refine r_aload_n dX11_floor_15 rfl ?_
  refine r_aload_n dX11_floor_16 rfl ?_
  refine r_getIv dX11_floor_17 fl_X11_296 rfl (k_125 hS) ?_
  refine r_iconst dX11_floor_20 ⟨by decide, by decide⟩ ?_
  obtain ⟨⟨h0, h1⟩, k⟩ := k
  refine r_zast dX11_floor_21 ha (by decide) h0 h1 ?_
  refine r_iconst dX11_floor_22 ⟨by decide, by decide⟩ ?_
  refine r_istore_n dX11_floor_23 (by decide) rfl rfl ?_
  refine r_iconst dX11_floor_24 ⟨by decide, by decide⟩ ?_
  refine r_istore_n dX11_floor_25 (by decide) rfl rfl ?_
  exact k
theorem t_X11_floor_26 {a : Nat} {v2 v3 : Int} {S : ShT} {σ : StT} {Q : Int → StT → Prop} (hS : SHP S) (ha : S.2.1 a = (2, 25)) (k : (σ 125 50 ≤ v3 → Q v2 σ) ∧ (¬ (σ 125 50 ≤ v3) → AWs mX11_floor 45 [(0, vR 125), (1, vR a), (2, vI v2), (3, vI v3), (4, vI (-1)), (5, vI 1000000), (6, vI 0)] [] S σ Q)) : AWs mX11_floor 26 [(0, vR 125), (1, vR a), (2, vI v2), (3, vI v3)] [] S σ Q := by
  refine r_iload_n dX11_floor_26 rfl ?_
  refine r_aload_n dX11_floor_27 rfl ?_
  refine r_getIv dX11_floor_28 fl_X11_296 rfl (k_125 hS) ?_
  refine r_icmp_ge (tgt := 135) dX11_floor_31 rfl (fun h => ?_) (fun h => ?_)
  · have k := k.1 h
    refine r_iload_n dX11_floor_135 rfl ?_
    exact s_iret dX11_floor_136 rfl k
  · have k := k.2 h
    refine r_iconst dX11_floor_34 ⟨by decide, by decide⟩ ?_
    refine r_istore dX11_floor_35 (by decide) rfl rfl ?_
    refine r_ldcw dX11_floor_37 ct_X11_283 ⟨by decide, by decide⟩ ?_
    refine r_istore dX11_floor_40 (by decide) rfl rfl ?_
    refine r_iconst dX11_floor_42 ⟨by decide, by decide⟩ ?_
    refine r_istore dX11_floor_43 (by decide) rfl rfl ?_
    exact k
theorem t_X11_floor_45 {a : Nat} {v2 v3 v4 v5 v6 : Int} {S : ShT} {σ : StT} {Q : Int → StT → Prop} (hS : SHP S) (ha : S.2.1 a = (2, 25)) (k : (σ 125 50 ≤ v6 → (0 ≤ v4 ∧ v4 < 25) ∧ inR (v2 + v5) ∧ inR (v3 + 1) ∧ AWs mX11_floor 26 [(0, vR 125), (1, vR a), (2, vI (v2 + v5)), (3, vI (v3 + 1))] [] S (up2 σ a v4.toNat 1) Q) ∧ (¬ (σ 125 50 ≤ v6) → AWs mX11_floor 57 [(0, vR 125), (1, vR a), (2, vI v2), (3, vI v3), (4, vI v4), (5, vI v5), (6, vI v6), (7, vI 0)] [] S σ Q)) : AWs mX11_floor 45 [(0, vR 125), (1, vR a), (2, vI v2), (3, vI v3), (4, vI v4), (5, vI v5), (6, vI v6)] [] S σ Q := by
  refine r_iload dX11_floor_45 rfl ?_
  refine r_aload_n dX11_floor_47 rfl ?_
  refine r_getIv dX11_floor_48 fl_X11_296 rfl (k_125 hS) ?_
  refine r_icmp_ge (tgt := 119) dX11_floor_51 rfl (fun h => ?_) (fun h => ?_)
  · have k := k.1 h
    refine r_aload_n dX11_floor_119 rfl ?_
    refine r_iload dX11_floor_120 rfl ?_
    refine r_iconst dX11_floor_122 ⟨by decide, by decide⟩ ?_
    obtain ⟨⟨h0, h1⟩, k⟩ := k
    refine r_zast dX11_floor_123 ha (by decide) h0 h1 ?_
    refine r_iload_n dX11_floor_124 rfl ?_
    refine r_iload dX11_floor_125 rfl ?_
    obtain ⟨h, k⟩ := k
    refine r_iadd dX11_floor_127 h ?_
    refine r_istore_n dX11_floor_128 (by decide) rfl rfl ?_
    obtain ⟨h, k⟩ := k
    refine r_iinc dX11_floor_129 rfl (by decide) rfl rfl h ?_
    refine r_goto (tgt := 26) dX11_floor_132 rfl ?_
    refine r_loc [0, 1, 2, 3] rfl ?_
    exact k
  · have k := k.2 h
    refine r_iconst dX11_floor_54 ⟨by decide, by decide⟩ ?_
    refine r_istore dX11_floor_55 (by decide) rfl rfl ?_
    exact k
theorem t_X11_floor_57 {a : Nat} {v2 v3 v4 v5 v6 v7 : Int} {S : ShT} {σ : StT} {Q : Int → StT → Prop} (hS : SHP S) (ha : S.2.1 a = (2, 25)) (k : (σ 125 50 < v7 → inR (v6 + 1) ∧ AWs mX11_floor 45 [(0, vR 125), (1, vR a), (2, vI v2), (3, vI v3), (4, vI v4), (5, vI v5), (6, vI (v6 + 1))] [] S σ Q) ∧ (¬ (σ 125 50 < v7) → (0 ≤ v6 ∧ v6 < 25) ∧ ((¬ σ a v6.toNat = 0 → inR (v6 + 1) ∧ AWs mX11_floor 45 [(0, vR 125), (1, vR a), (2, vI v2), (3, vI v3), (4, vI v4), (5, vI v5), (6, vI (v6 + 1))] [] S σ Q) ∧ (σ a v6.toNat = 0 → (0 ≤ v7 ∧ v7 < 25) ∧ ((σ a v7.toNat = 0 → inR (v7 + 1) ∧ AWs mX11_floor 57 [(0, vR 125), (1, vR a), (2, vI v2), (3, vI v3), (4, vI v4), (5, vI v5), (6, vI v6), (7, vI (v7 + 1))] [] S σ Q) ∧ (¬ (σ a v7.toNat = 0) → WPs mX11_branch [vR 125, vI v6, vI v7] S σ (fun r85 s85 => (v5 ≤ r85 → inR (v7 + 1) ∧ AWs mX11_floor 57 [(0, vR 125), (1, vR a), (2, vI v2), (3, vI v3), (4, vI v4), (5, vI v5), (6, vI v6), (7, vI (v7 + 1))] [] S s85 Q) ∧ (¬ (v5 ≤ r85) → WPs mX11_branch [vR 125, vI v6, vI v7] S s85 (fun r98 s98 => inR (v7 + 1) ∧ AWs mX11_floor 57 [(0, vR 125), (1, vR a), (2, vI v2), (3, vI v3), (4, vI v6), (5, vI r98), (6, vI v6), (7, vI (v7 + 1))] [] S s98 Q))))))))) : AWs mX11_floor 57 [(0, vR 125), (1, vR a), (2, vI v2), (3, vI v3), (4, vI v4), (5, vI v5), (6, vI v6), (7, vI v7)] [] S σ Q := by
  refine r_iload dX11_floor_57 rfl ?_
  refine r_aload_n dX11_floor_59 rfl ?_
  refine r_getIv dX11_floor_60 fl_X11_296 rfl (k_125 hS) ?_
  refine r_icmp_gt (tgt := 113) dX11_floor_63 rfl (fun h => ?_) (fun h => ?_)
  · have k := k.1 h
    obtain ⟨h, k⟩ := k
    refine r_iinc dX11_floor_113 rfl (by decide) rfl rfl h ?_
    refine r_goto (tgt := 45) dX11_floor_116 rfl ?_
    refine r_loc [0, 1, 2, 3, 4, 5, 6] rfl ?_
    exact k
  · have k := k.2 h
    refine r_aload_n dX11_floor_66 rfl ?_
    refine r_iload dX11_floor_67 rfl ?_
    obtain ⟨⟨h0, h1⟩, k⟩ := k
    refine r_zald dX11_floor_69 ha h0 h1 ?_
    refine r_if_ne (tgt := 113) dX11_floor_70 rfl (fun h => ?_) (fun h => ?_)
    · have k := k.1 h
      obtain ⟨h, k⟩ := k
      refine r_iinc dX11_floor_113 rfl (by decide) rfl rfl h ?_
      refine r_goto (tgt := 45) dX11_floor_116 rfl ?_
      refine r_loc [0, 1, 2, 3, 4, 5, 6] rfl ?_
      exact k
    · have k := k.2 h
      refine r_aload_n dX11_floor_73 rfl ?_
      refine r_iload dX11_floor_74 rfl ?_
      obtain ⟨⟨h0, h1⟩, k⟩ := k
      refine r_zald dX11_floor_76 ha h0 h1 ?_
      refine r_if_eq (tgt := 107) dX11_floor_77 rfl (fun h => ?_) (fun h => ?_)
      · have k := k.1 h
        obtain ⟨h, k⟩ := k
        refine r_iinc dX11_floor_107 rfl (by decide) rfl rfl h ?_
        refine r_goto (tgt := 57) dX11_floor_110 rfl ?_
        exact k
      · have k := k.2 h
        refine r_aload_n dX11_floor_80 rfl ?_
        refine r_iload dX11_floor_81 rfl ?_
        refine r_iload dX11_floor_83 rfl ?_
        refine s_callVv (z := mX11_branch) [vI v6, vI v7] dX11_floor_85 mv_X11_branch lk_X11_387 rfl (by decide) (k_125 hS) (Nat.le_of_ble_eq_true rfl) (WPs.mono k (fun r85 s85 k => ?_))
        refine r_iload dX11_floor_88 rfl ?_
        refine r_icmp_ge (tgt := 107) dX11_floor_90 rfl (fun h => ?_) (fun h => ?_)
        · have k := k.1 h
          obtain ⟨h, k⟩ := k
          refine r_iinc dX11_floor_107 rfl (by decide) rfl rfl h ?_
          refine r_goto (tgt := 57) dX11_floor_110 rfl ?_
          exact k
        · have k := k.2 h
          refine r_aload_n dX11_floor_93 rfl ?_
          refine r_iload dX11_floor_94 rfl ?_
          refine r_iload dX11_floor_96 rfl ?_
          refine s_callVv (z := mX11_branch) [vI v6, vI v7] dX11_floor_98 mv_X11_branch lk_X11_387 rfl (by decide) (k_125 hS) (Nat.le_of_ble_eq_true rfl) (WPs.mono k (fun r98 s98 k => ?_))
          refine r_istore dX11_floor_101 (by decide) rfl rfl ?_
          refine r_iload dX11_floor_103 rfl ?_
          refine r_istore dX11_floor_105 (by decide) rfl rfl ?_
          obtain ⟨h, k⟩ := k
          refine r_iinc dX11_floor_107 rfl (by decide) rfl rfl h ?_
          refine r_goto (tgt := 57) dX11_floor_110 rfl ?_
          exact k
theorem t_X11_improve_40 {a : Nat} {v2 : Int} {S : ShT} {σ : StT} {Q : Int → StT → Prop} (hS : SHP S) (ha : S.2.1 a = (1, 152)) (k : WPs mX11_copies [vR 127, vI 0, vR a, vI 0] S σ (fun r47 s47 => WPs mX11_takesBack [vR 125] S s47 (fun r51 s51 => WPs mX11_keeps [vR 125] S s51 (fun r55 s55 => WPs mX11_copies [vR a, vI 0, vR 127, vI 0] S s55 (fun r65 s65 => Q v2 s65))))) : AWs mX11_improve 40 [(0, vR 125), (2, vI v2), (3, vR a)] [] S σ Q := by
  refine r_aload_n dX11_improve_40 rfl ?_
  refine r_getRv dX11_improve_41 fl_X11_17 rfl (k_125 hS) (f_125_6 hS) (by decide) ?_
  refine r_iconst dX11_improve_44 ⟨by decide, by decide⟩ ?_
  refine r_aload_n dX11_improve_45 rfl ?_
  refine r_iconst dX11_improve_46 ⟨by decide, by decide⟩ ?_
  refine s_callS (z := mX11_copies) [vR 127, vI 0, vR a, vI 0] dX11_improve_47 ms_X11_copies lk_X11_219 rfl (by decide) (Nat.le_of_ble_eq_true rfl) (WPs.mono k (fun r47 s47 k => ?_))
  refine r_aload_n dX11_improve_50 rfl ?_
  refine s_callVv (z := mX11_takesBack) [] dX11_improve_51 mv_X11_takesBack lk_X11_367 rfl (by decide) (k_125 hS) (Nat.le_of_ble_eq_true rfl) (WPs.mono k (fun r51 s51 k => ?_))
  refine r_aload_n dX11_improve_54 rfl ?_
  refine s_callVv (z := mX11_keeps) [] dX11_improve_55 mv_X11_keeps lk_X11_426 rfl (by decide) (k_125 hS) (Nat.le_of_ble_eq_true rfl) (WPs.mono k (fun r55 s55 k => ?_))
  refine r_aload_n dX11_improve_58 rfl ?_
  refine r_iconst dX11_improve_59 ⟨by decide, by decide⟩ ?_
  refine r_aload_n dX11_improve_60 rfl ?_
  refine r_getRv dX11_improve_61 fl_X11_17 rfl (k_125 hS) (f_125_6 hS) (by decide) ?_
  refine r_iconst dX11_improve_64 ⟨by decide, by decide⟩ ?_
  refine s_callS (z := mX11_copies) [vR a, vI 0, vR 127, vI 0] dX11_improve_65 ms_X11_copies lk_X11_219 rfl (by decide) (Nat.le_of_ble_eq_true rfl) (WPs.mono k (fun r65 s65 k => ?_))
  refine r_iload_n dX11_improve_68 rfl ?_
  exact s_iret dX11_improve_69 rfl k
