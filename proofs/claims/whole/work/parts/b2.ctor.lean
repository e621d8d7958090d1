/-! the constructors -/
theorem i_X7_2 {Rp : List (List Nat)} {kB : Nat → Nat × Nat} {σ0 σ : StT} {Q : Int → ShT → StT → Prop} (hR : Rp.length = 2) (z0 : ZI σ0 σ 3) (hQ : ∀ σ' : StT, ZI σ0 σ' 4 → Q 0 (shN 4 (Rp ++ [[3], []]) kB) σ') : WPm mX7_init [vR 2] (shN 3 (Rp ++ [[]]) kB) σ 1 700 Q := by
  refine r_entry (by decide) (Nat.le_of_ble_eq_true rfl) rfl rfl ?_
  refine r_aload_n dX7_init_0 rfl ?_
  refine r_objI dX7_init_1 wo_X7 (Nat.le_of_ble_eq_true rfl) (Nat.le_of_ble_eq_true rfl) ?_
  refine r_aload_n dX7_init_4 rfl ?_
  refine r_sipush dX7_init_5 (by decide +kernel) ⟨by decide, by decide⟩ ?_
  refine n_newI (m := 700) (kk := 1) (rest := []) (rest' := [[]]) hR rfl (by decide) rfl rfl dX7_init_8 (Or.inl ⟨rfl, rfl⟩) w_newI rfl (by decide) ?_
  have z1 := z0.push (by decide)
  refine n_putR (row' := [3]) (rest := [[]]) hR (by decide) (by decide) rfl rfl dX7_init_10 fl_X7_9 (fun _ h => by cases h; exact ⟨rfl, rfl⟩) rfl rfl (by decide) ?_
  refine r_aload_n dX7_init_13 rfl ?_
  refine r_iconst dX7_init_14 ⟨by decide, by decide⟩ ?_
  refine n_putI (rest := [[]]) (by decide) (by decide) rfl dX7_init_15 fl_X7_13 (fun _ h => by cases h; rfl) (Or.inl rfl) ?_
  have z2 := z1.put0 (o := 2) (k := 1) (by decide)
  refine r_aload_n dX7_init_18 rfl ?_
  refine r_iconst dX7_init_19 ⟨by decide, by decide⟩ ?_
  refine n_putI (rest := [[]]) (by decide) (by decide) rfl dX7_init_20 fl_X7_17 (fun _ h => by cases h; rfl) (Or.inl rfl) ?_
  have z3 := z2.put0 (o := 2) (k := 2) (by decide)
  refine r_aload_n dX7_init_23 rfl ?_
  refine r_iconst dX7_init_24 ⟨by decide, by decide⟩ ?_
  refine n_putI (rest := [[]]) (by decide) (by decide) rfl dX7_init_25 fl_X7_20 (fun _ h => by cases h; rfl) (Or.inl rfl) ?_
  have z4 := z3.put0 (o := 2) (k := 3) (by decide)
  refine r_aload_n dX7_init_28 rfl ?_
  refine r_iconst dX7_init_29 ⟨by decide, by decide⟩ ?_
  refine n_putI (rest := [[]]) (by decide) (by decide) rfl dX7_init_30 fl_X7_23 (fun _ h => by cases h; rfl) (Or.inl rfl) ?_
  have z5 := z4.put0 (o := 2) (k := 4) (by decide)
  refine r_aload_n dX7_init_33 rfl ?_
  refine r_iconst dX7_init_34 ⟨by decide, by decide⟩ ?_
  refine n_putI (rest := [[]]) (by decide) (by decide) rfl dX7_init_35 fl_X7_26 (fun _ h => by cases h; rfl) (Or.inl rfl) ?_
  have z6 := z5.put0 (o := 2) (k := 5) (by decide)
  refine r_aload_n dX7_init_38 rfl ?_
  refine r_iconst dX7_init_39 ⟨by decide, by decide⟩ ?_
  refine n_putI (rest := [[]]) (by decide) (by decide) rfl dX7_init_40 fl_X7_29 (fun _ h => by cases h; rfl) (Or.inl rfl) ?_
  have z7 := z6.put0 (o := 2) (k := 6) (by decide)
  exact r_vret dX7_init_43 rfl (hQ _ z7)
theorem i_X0_4 {Rp : List (List Nat)} {kB : Nat → Nat × Nat} {σ0 σ : StT} {Q : Int → ShT → StT → Prop} (hR : Rp.length = 4) (z0 : ZI σ0 σ 5) (hQ : ∀ σ' : StT, ZI σ0 σ' 7 → Q 0 (shN 7 (Rp ++ [[5, 6], [], []]) kB) σ') : WPm mX0_init [vR 4] (shN 5 (Rp ++ [[]]) kB) σ 2 96 Q := by
  refine r_entry (by decide) (Nat.le_of_ble_eq_true rfl) rfl rfl ?_
  refine r_aload_n dX0_init_0 rfl ?_
  refine r_objI dX0_init_1 wo_X0 (Nat.le_of_ble_eq_true rfl) (Nat.le_of_ble_eq_true rfl) ?_
  refine r_aload_n dX0_init_4 rfl ?_
  refine r_bipush dX0_init_5 (by decide +kernel) ⟨by decide, by decide⟩ ?_
  refine n_newI (m := 48) (kk := 1) (rest := []) (rest' := [[]]) hR rfl (by decide) rfl rfl dX0_init_7 (Or.inl ⟨rfl, rfl⟩) w_newI rfl (by decide) ?_
  have z1 := z0.push (by decide)
  refine n_putR (row' := [5]) (rest := [[]]) hR (by decide) (by decide) rfl rfl dX0_init_9 fl_X0_9 (fun _ h => by cases h; exact ⟨rfl, rfl⟩) rfl rfl (by decide) ?_
  refine r_aload_n dX0_init_12 rfl ?_
  refine r_bipush dX0_init_13 (by decide +kernel) ⟨by decide, by decide⟩ ?_
  refine n_newI (m := 48) (kk := 1) (rest := [[]]) (rest' := [[], []]) hR rfl (by decide) rfl rfl dX0_init_15 (Or.inl ⟨rfl, rfl⟩) w_newI rfl (by decide) ?_
  have z2 := z1.push (by decide)
  refine n_putR (row' := [5, 6]) (rest := [[], []]) hR (by decide) (by decide) rfl rfl dX0_init_17 fl_X0_15 (fun _ h => by cases h; exact ⟨rfl, rfl⟩) rfl rfl (by decide) ?_
  refine r_aload_n dX0_init_20 rfl ?_
  refine r_iconst dX0_init_21 ⟨by decide, by decide⟩ ?_
  refine n_putI (rest := [[], []]) (by decide) (by decide) rfl dX0_init_22 fl_X0_18 (fun _ h => by cases h; rfl) (Or.inl rfl) ?_
  have z3 := z2.put0 (o := 4) (k := 2) (by decide)
  refine r_aload_n dX0_init_25 rfl ?_
  refine r_iconst dX0_init_26 ⟨by decide, by decide⟩ ?_
  refine n_putI (rest := [[], []]) (by decide) (by decide) rfl dX0_init_27 fl_X0_22 (fun _ h => by cases h; rfl) (Or.inl rfl) ?_
  have z4 := z3.put0 (o := 4) (k := 3) (by decide)
  refine r_aload_n dX0_init_30 rfl ?_
  refine r_iconst dX0_init_31 ⟨by decide, by decide⟩ ?_
  refine n_putI (rest := [[], []]) (by decide) (by decide) rfl dX0_init_32 fl_X0_25 (fun _ h => by cases h; rfl) (Or.inl rfl) ?_
  have z5 := z4.put0 (o := 4) (k := 4) (by decide)
  refine r_aload_n dX0_init_35 rfl ?_
  refine r_iconst dX0_init_36 ⟨by decide, by decide⟩ ?_
  refine n_putI (rest := [[], []]) (by decide) (by decide) rfl dX0_init_37 fl_X0_28 (fun _ h => by cases h; rfl) (Or.inl rfl) ?_
  have z6 := z5.put0 (o := 4) (k := 5) (by decide)
  refine r_aload_n dX0_init_40 rfl ?_
  refine r_iconst dX0_init_41 ⟨by decide, by decide⟩ ?_
  refine n_putI (rest := [[], []]) (by decide) (by decide) rfl dX0_init_42 fl_X0_31 (fun _ h => by cases h; rfl) (Or.inl rfl) ?_
  have z7 := z6.put0 (o := 4) (k := 6) (by decide)
  refine r_aload_n dX0_init_45 rfl ?_
  refine r_iconst dX0_init_46 ⟨by decide, by decide⟩ ?_
  refine n_putI (rest := [[], []]) (by decide) (by decide) rfl dX0_init_47 fl_X0_34 (fun _ h => by cases h; rfl) (Or.inl rfl) ?_
  have z8 := z7.putx (o := 4) (k := 7) (v := 1) (by decide) (by decide)
  refine r_aload_n dX0_init_50 rfl ?_
  refine r_iconst dX0_init_51 ⟨by decide, by decide⟩ ?_
  refine n_putI (rest := [[], []]) (by decide) (by decide) rfl dX0_init_52 fl_X0_37 (fun _ h => by cases h; rfl) (Or.inl rfl) ?_
  have z9 := z8.putx (o := 4) (k := 8) (v := 1) (by decide) (by decide)
  exact r_vret dX0_init_55 rfl (hQ _ z9)
theorem i_X1_8 {Rp : List (List Nat)} {kB : Nat → Nat × Nat} {σ0 σ : StT} {Q : Int → ShT → StT → Prop} (hR : Rp.length = 8) (z0 : ZI σ0 σ 9) (hQ : ∀ σ' : StT, ZI σ0 σ' 12 → Q 0 (shN 12 (Rp ++ [[9, 10, 0, 11], [], [], []]) kB) σ') : WPm mX1_init [vR 8] (shN 9 (Rp ++ [[]]) kB) σ 3 144 Q := by
  refine r_entry (by decide) (Nat.le_of_ble_eq_true rfl) rfl rfl ?_
  refine r_aload_n dX1_init_0 rfl ?_
  refine r_objI dX1_init_1 wo_X1 (Nat.le_of_ble_eq_true rfl) (Nat.le_of_ble_eq_true rfl) ?_
  refine r_aload_n dX1_init_4 rfl ?_
  refine r_bipush dX1_init_5 (by decide +kernel) ⟨by decide, by decide⟩ ?_
  refine n_newI (m := 48) (kk := 1) (rest := []) (rest' := [[]]) hR rfl (by decide) rfl rfl dX1_init_7 (Or.inl ⟨rfl, rfl⟩) w_newI rfl (by decide) ?_
  have z1 := z0.push (by decide)
  refine n_putR (row' := [9]) (rest := [[]]) hR (by decide) (by decide) rfl rfl dX1_init_9 fl_X1_9 (fun _ h => by cases h; exact ⟨rfl, rfl⟩) rfl rfl (by decide) ?_
  refine r_aload_n dX1_init_12 rfl ?_
  refine r_bipush dX1_init_13 (by decide +kernel) ⟨by decide, by decide⟩ ?_
  refine n_newI (m := 48) (kk := 1) (rest := [[]]) (rest' := [[], []]) hR rfl (by decide) rfl rfl dX1_init_15 (Or.inl ⟨rfl, rfl⟩) w_newI rfl (by decide) ?_
  have z2 := z1.push (by decide)
  refine n_putR (row' := [9, 10]) (rest := [[], []]) hR (by decide) (by decide) rfl rfl dX1_init_17 fl_X1_15 (fun _ h => by cases h; exact ⟨rfl, rfl⟩) rfl rfl (by decide) ?_
  refine r_aload_n dX1_init_20 rfl ?_
  refine r_iconst dX1_init_21 ⟨by decide, by decide⟩ ?_
  refine n_putI (rest := [[], []]) (by decide) (by decide) rfl dX1_init_22 fl_X1_18 (fun _ h => by cases h; rfl) (Or.inl rfl) ?_
  have z3 := z2.put0 (o := 8) (k := 2) (by decide)
  refine r_aload_n dX1_init_25 rfl ?_
  refine r_bipush dX1_init_26 (by decide +kernel) ⟨by decide, by decide⟩ ?_
  refine n_newI (m := 48) (kk := 1) (rest := [[], []]) (rest' := [[], [], []]) hR rfl (by decide) rfl rfl dX1_init_28 (Or.inl ⟨rfl, rfl⟩) w_newI rfl (by decide) ?_
  have z4 := z3.push (by decide)
  refine n_putR (row' := [9, 10, 0, 11]) (rest := [[], [], []]) hR (by decide) (by decide) rfl rfl dX1_init_30 fl_X1_22 (fun _ h => by cases h; exact ⟨rfl, rfl⟩) rfl rfl (by decide) ?_
  refine r_aload_n dX1_init_33 rfl ?_
  refine r_iconst dX1_init_34 ⟨by decide, by decide⟩ ?_
  refine n_putI (rest := [[], [], []]) (by decide) (by decide) rfl dX1_init_35 fl_X1_25 (fun _ h => by cases h; rfl) (Or.inl rfl) ?_
  have z5 := z4.put0 (o := 8) (k := 4) (by decide)
  exact r_vret dX1_init_38 rfl (hQ _ z5)
theorem i_X1_12 {Rp : List (List Nat)} {kB : Nat → Nat × Nat} {σ0 σ : StT} {Q : Int → ShT → StT → Prop} (hR : Rp.length = 12) (z0 : ZI σ0 σ 13) (hQ : ∀ σ' : StT, ZI σ0 σ' 16 → Q 0 (shN 16 (Rp ++ [[13, 14, 0, 15], [], [], []]) kB) σ') : WPm mX1_init [vR 12] (shN 13 (Rp ++ [[]]) kB) σ 3 144 Q := by
  refine r_entry (by decide) (Nat.le_of_ble_eq_true rfl) rfl rfl ?_
  refine r_aload_n dX1_init_0 rfl ?_
  refine r_objI dX1_init_1 wo_X1 (Nat.le_of_ble_eq_true rfl) (Nat.le_of_ble_eq_true rfl) ?_
  refine r_aload_n dX1_init_4 rfl ?_
  refine r_bipush dX1_init_5 (by decide +kernel) ⟨by decide, by decide⟩ ?_
  refine n_newI (m := 48) (kk := 1) (rest := []) (rest' := [[]]) hR rfl (by decide) rfl rfl dX1_init_7 (Or.inl ⟨rfl, rfl⟩) w_newI rfl (by decide) ?_
  have z1 := z0.push (by decide)
  refine n_putR (row' := [13]) (rest := [[]]) hR (by decide) (by decide) rfl rfl dX1_init_9 fl_X1_9 (fun _ h => by cases h; exact ⟨rfl, rfl⟩) rfl rfl (by decide) ?_
  refine r_aload_n dX1_init_12 rfl ?_
  refine r_bipush dX1_init_13 (by decide +kernel) ⟨by decide, by decide⟩ ?_
  refine n_newI (m := 48) (kk := 1) (rest := [[]]) (rest' := [[], []]) hR rfl (by decide) rfl rfl dX1_init_15 (Or.inl ⟨rfl, rfl⟩) w_newI rfl (by decide) ?_
  have z2 := z1.push (by decide)
  refine n_putR (row' := [13, 14]) (rest := [[], []]) hR (by decide) (by decide) rfl rfl dX1_init_17 fl_X1_15 (fun _ h => by cases h; exact ⟨rfl, rfl⟩) rfl rfl (by decide) ?_
  refine r_aload_n dX1_init_20 rfl ?_
  refine r_iconst dX1_init_21 ⟨by decide, by decide⟩ ?_
  refine n_putI (rest := [[], []]) (by decide) (by decide) rfl dX1_init_22 fl_X1_18 (fun _ h => by cases h; rfl) (Or.inl rfl) ?_
  have z3 := z2.put0 (o := 12) (k := 2) (by decide)
  refine r_aload_n dX1_init_25 rfl ?_
  refine r_bipush dX1_init_26 (by decide +kernel) ⟨by decide, by decide⟩ ?_
  refine n_newI (m := 48) (kk := 1) (rest := [[], []]) (rest' := [[], [], []]) hR rfl (by decide) rfl rfl dX1_init_28 (Or.inl ⟨rfl, rfl⟩) w_newI rfl (by decide) ?_
  have z4 := z3.push (by decide)
  refine n_putR (row' := [13, 14, 0, 15]) (rest := [[], [], []]) hR (by decide) (by decide) rfl rfl dX1_init_30 fl_X1_22 (fun _ h => by cases h; exact ⟨rfl, rfl⟩) rfl rfl (by decide) ?_
  refine r_aload_n dX1_init_33 rfl ?_
  refine r_iconst dX1_init_34 ⟨by decide, by decide⟩ ?_
  refine n_putI (rest := [[], [], []]) (by decide) (by decide) rfl dX1_init_35 fl_X1_25 (fun _ h => by cases h; rfl) (Or.inl rfl) ?_
  have z5 := z4.put0 (o := 12) (k := 4) (by decide)
  exact r_vret dX1_init_38 rfl (hQ _ z5)
theorem i_X3_7 {Rp : List (List Nat)} {kB : Nat → Nat × Nat} {σ0 σ : StT} {Q : Int → ShT → StT → Prop} (hR : Rp.length = 7) (z0 : ZI σ0 σ 8) (hQ : ∀ σ' : StT, ZI σ0 σ' 20 → Q 0 (shN 20 (Rp ++ [[4, 8, 12, 16, 17, 18, 19], [9, 10, 0, 11], [], [], [], [13, 14, 0, 15], [], [], [], [], [], [], []]) kB) σ') : WPm mX3_init [vR 7, vR 4] (shN 8 (Rp ++ [[]]) kB) σ 12 490 Q := by
  refine r_entry (by decide) (Nat.le_of_ble_eq_true rfl) rfl rfl ?_
  refine r_aload_n dX3_init_0 rfl ?_
  refine r_objI dX3_init_1 wo_X3 (Nat.le_of_ble_eq_true rfl) (Nat.le_of_ble_eq_true rfl) ?_
  refine r_aload_n dX3_init_4 rfl ?_
  refine n_new (ci := 1) (m := 5) (rest := []) hR rfl (by decide) rfl dX3_init_5 rfl wc_X3_9 wn_X1 wz_X1 (fun k _ => dv1 k) (by decide) ?_
  have z1 := z0.push (by decide)
  refine r_dup dX3_init_8 rfl ?_
  refine r_callIN (j := 2) (z := mX1_init) (as := []) (rc' := 3) (rs' := 144) (rc := 8) (rs := 341) dX3_init_9 mo_X1_init rfl wi_X1 rfl rfl rfl (by decide) (Nat.le_of_ble_eq_true rfl) ?_
  refine i_X1_8 (n_len (rest := []) hR rfl) z1 ?_
  intro σ2 z2
  refine n_as (rest := []) (rest' := [[9, 10, 0, 11], [], [], []]) rfl ?_
  refine n_putR (row' := [0, 8]) (rest := [[9, 10, 0, 11], [], [], []]) hR (by decide) (by decide) rfl rfl dX3_init_12 fl_X3_12 (fun _ h => by cases h; exact ⟨rfl, rfl⟩) rfl rfl (by decide) ?_
  refine r_aload_n dX3_init_15 rfl ?_
  refine n_new (ci := 1) (m := 5) (rest := [[9, 10, 0, 11], [], [], []]) hR rfl (by decide) rfl dX3_init_16 rfl wc_X3_9 wn_X1 wz_X1 (fun k _ => dv1 k) (by decide) ?_
  have z3 := z2.push (by decide)
  refine r_dup dX3_init_19 rfl ?_
  refine r_callIN (j := 2) (z := mX1_init) (as := []) (rc' := 3) (rs' := 144) (rc := 4) (rs := 192) dX3_init_20 mo_X1_init rfl wi_X1 rfl rfl rfl (by decide) (Nat.le_of_ble_eq_true rfl) ?_
  refine i_X1_12 (n_len (rest := [[9, 10, 0, 11], [], [], []]) hR rfl) z3 ?_
  intro σ4 z4
  refine n_as (rest := [[9, 10, 0, 11], [], [], []]) (rest' := [[9, 10, 0, 11], [], [], [], [13, 14, 0, 15], [], [], []]) rfl ?_
  refine n_putR (row' := [0, 8, 12]) (rest := [[9, 10, 0, 11], [], [], [], [13, 14, 0, 15], [], [], []]) hR (by decide) (by decide) rfl rfl dX3_init_23 fl_X3_18 (fun _ h => by cases h; exact ⟨rfl, rfl⟩) rfl rfl (by decide) ?_
  refine r_aload_n dX3_init_26 rfl ?_
  refine r_bipush dX3_init_27 (by decide +kernel) ⟨by decide, by decide⟩ ?_
  refine n_newI (m := 48) (kk := 1) (rest := [[9, 10, 0, 11], [], [], [], [13, 14, 0, 15], [], [], []]) (rest' := [[9, 10, 0, 11], [], [], [], [13, 14, 0, 15], [], [], [], []]) hR rfl (by decide) rfl rfl dX3_init_29 (Or.inl ⟨rfl, rfl⟩) w_newI rfl (by decide) ?_
  have z5 := z4.push (by decide)
  refine n_putR (row' := [0, 8, 12, 16]) (rest := [[9, 10, 0, 11], [], [], [], [13, 14, 0, 15], [], [], [], []]) hR (by decide) (by decide) rfl rfl dX3_init_31 fl_X3_21 (fun _ h => by cases h; exact ⟨rfl, rfl⟩) rfl rfl (by decide) ?_
  refine r_aload_n dX3_init_34 rfl ?_
  refine r_bipush dX3_init_35 (by decide +kernel) ⟨by decide, by decide⟩ ?_
  refine n_newI (m := 48) (kk := 1) (rest := [[9, 10, 0, 11], [], [], [], [13, 14, 0, 15], [], [], [], []]) (rest' := [[9, 10, 0, 11], [], [], [], [13, 14, 0, 15], [], [], [], [], []]) hR rfl (by decide) rfl rfl dX3_init_37 (Or.inl ⟨rfl, rfl⟩) w_newI rfl (by decide) ?_
  have z6 := z5.push (by decide)
  refine n_putR (row' := [0, 8, 12, 16, 17]) (rest := [[9, 10, 0, 11], [], [], [], [13, 14, 0, 15], [], [], [], [], []]) hR (by decide) (by decide) rfl rfl dX3_init_39 fl_X3_25 (fun _ h => by cases h; exact ⟨rfl, rfl⟩) rfl rfl (by decide) ?_
  refine r_aload_n dX3_init_42 rfl ?_
  refine r_bipush dX3_init_43 (by decide +kernel) ⟨by decide, by decide⟩ ?_
  refine n_newI (m := 48) (kk := 1) (rest := [[9, 10, 0, 11], [], [], [], [13, 14, 0, 15], [], [], [], [], []]) (rest' := [[9, 10, 0, 11], [], [], [], [13, 14, 0, 15], [], [], [], [], [], []]) hR rfl (by decide) rfl rfl dX3_init_45 (Or.inl ⟨rfl, rfl⟩) w_newI rfl (by decide) ?_
  have z7 := z6.push (by decide)
  refine n_putR (row' := [0, 8, 12, 16, 17, 18]) (rest := [[9, 10, 0, 11], [], [], [], [13, 14, 0, 15], [], [], [], [], [], []]) hR (by decide) (by decide) rfl rfl dX3_init_47 fl_X3_28 (fun _ h => by cases h; exact ⟨rfl, rfl⟩) rfl rfl (by decide) ?_
  refine r_aload_n dX3_init_50 rfl ?_
  refine r_bipush dX3_init_51 (by decide +kernel) ⟨by decide, by decide⟩ ?_
  refine n_newI (m := 48) (kk := 1) (rest := [[9, 10, 0, 11], [], [], [], [13, 14, 0, 15], [], [], [], [], [], []]) (rest' := [[9, 10, 0, 11], [], [], [], [13, 14, 0, 15], [], [], [], [], [], [], []]) hR rfl (by decide) rfl rfl dX3_init_53 (Or.inl ⟨rfl, rfl⟩) w_newI rfl (by decide) ?_
  have z8 := z7.push (by decide)
  refine n_putR (row' := [0, 8, 12, 16, 17, 18, 19]) (rest := [[9, 10, 0, 11], [], [], [], [13, 14, 0, 15], [], [], [], [], [], [], []]) hR (by decide) (by decide) rfl rfl dX3_init_55 fl_X3_31 (fun _ h => by cases h; exact ⟨rfl, rfl⟩) rfl rfl (by decide) ?_
  refine r_aload_n dX3_init_58 rfl ?_
  refine r_aload_n dX3_init_59 rfl ?_
  refine n_putR (row' := [4, 8, 12, 16, 17, 18, 19]) (rest := [[9, 10, 0, 11], [], [], [], [13, 14, 0, 15], [], [], [], [], [], [], []]) hR (by decide) (by decide) rfl rfl dX3_init_60 fl_X3_34 (fun _ h => by cases h; exact ⟨rfl, rfl⟩) rfl rfl (by decide) ?_
  exact r_vret dX3_init_63 rfl (hQ _ z8)
theorem i_X4_20 {Rp : List (List Nat)} {kB : Nat → Nat × Nat} {σ0 σ : StT} {Q : Int → ShT → StT → Prop} (hR : Rp.length = 20) (z0 : ZI σ0 σ 21) (hQ : ∀ σ' : StT, ZI σ0 σ' 31 → Q 0 (shN 31 (Rp ++ [[7, 21, 22, 23, 24, 25, 0, 26, 0, 27, 28, 0, 29, 30], [], [], [], [], [], [], [], [], [], []]) kB) σ') : WPm mX4_init [vR 20, vR 7] (shN 21 (Rp ++ [[]]) kB) σ 10 5683 Q := by
  refine r_entry (by decide) (Nat.le_of_ble_eq_true rfl) rfl rfl ?_
  refine r_aload_n dX4_init_0 rfl ?_
  refine r_objI dX4_init_1 wo_X4 (Nat.le_of_ble_eq_true rfl) (Nat.le_of_ble_eq_true rfl) ?_
  refine r_aload_n dX4_init_4 rfl ?_
  refine r_bipush dX4_init_5 (by decide +kernel) ⟨by decide, by decide⟩ ?_
  refine n_newI (m := 24) (kk := 1) (rest := []) (rest' := [[]]) hR rfl (by decide) rfl rfl dX4_init_7 (Or.inl ⟨rfl, rfl⟩) w_newI rfl (by decide) ?_
  have z1 := z0.push (by decide)
  refine n_putR (row' := [0, 21]) (rest := [[]]) hR (by decide) (by decide) rfl rfl dX4_init_9 fl_X4_11 (fun _ h => by cases h; exact ⟨rfl, rfl⟩) rfl rfl (by decide) ?_
  refine r_aload_n dX4_init_12 rfl ?_
  refine r_bipush dX4_init_13 (by decide +kernel) ⟨by decide, by decide⟩ ?_
  refine n_newI (m := 24) (kk := 1) (rest := [[]]) (rest' := [[], []]) hR rfl (by decide) rfl rfl dX4_init_15 (Or.inl ⟨rfl, rfl⟩) w_newI rfl (by decide) ?_
  have z2 := z1.push (by decide)
  refine n_putR (row' := [0, 21, 22]) (rest := [[], []]) hR (by decide) (by decide) rfl rfl dX4_init_17 fl_X4_15 (fun _ h => by cases h; exact ⟨rfl, rfl⟩) rfl rfl (by decide) ?_
  refine r_aload_n dX4_init_20 rfl ?_
  refine r_bipush dX4_init_21 (by decide +kernel) ⟨by decide, by decide⟩ ?_
  refine n_newI (m := 24) (kk := 1) (rest := [[], []]) (rest' := [[], [], []]) hR rfl (by decide) rfl rfl dX4_init_23 (Or.inl ⟨rfl, rfl⟩) w_newI rfl (by decide) ?_
  have z3 := z2.push (by decide)
  refine n_putR (row' := [0, 21, 22, 23]) (rest := [[], [], []]) hR (by decide) (by decide) rfl rfl dX4_init_25 fl_X4_18 (fun _ h => by cases h; exact ⟨rfl, rfl⟩) rfl rfl (by decide) ?_
  refine r_aload_n dX4_init_28 rfl ?_
  refine r_bipush dX4_init_29 (by decide +kernel) ⟨by decide, by decide⟩ ?_
  refine n_newI (m := 24) (kk := 2) (rest := [[], [], []]) (rest' := [[], [], [], []]) hR rfl (by decide) rfl rfl dX4_init_31 (Or.inr (Or.inl ⟨rfl, rfl⟩)) w_newZ rfl (by decide) ?_
  have z4 := z3.push (by decide)
  refine n_putR (row' := [0, 21, 22, 23, 24]) (rest := [[], [], [], []]) hR (by decide) (by decide) rfl rfl dX4_init_33 fl_X4_21 (fun _ h => by cases h; exact ⟨rfl, rfl⟩) rfl rfl (by decide) ?_
  refine r_aload_n dX4_init_36 rfl ?_
  refine r_bipush dX4_init_37 (by decide +kernel) ⟨by decide, by decide⟩ ?_
  refine n_newI (m := 25) (kk := 1) (rest := [[], [], [], []]) (rest' := [[], [], [], [], []]) hR rfl (by decide) rfl rfl dX4_init_39 (Or.inl ⟨rfl, rfl⟩) w_newI rfl (by decide) ?_
  have z5 := z4.push (by decide)
  refine n_putR (row' := [0, 21, 22, 23, 24, 25]) (rest := [[], [], [], [], []]) hR (by decide) (by decide) rfl rfl dX4_init_41 fl_X4_25 (fun _ h => by cases h; exact ⟨rfl, rfl⟩) rfl rfl (by decide) ?_
  refine r_aload_n dX4_init_44 rfl ?_
  refine r_iconst dX4_init_45 ⟨by decide, by decide⟩ ?_
  refine n_putI (rest := [[], [], [], [], []]) (by decide) (by decide) rfl dX4_init_46 fl_X4_28 (fun _ h => by cases h; rfl) (Or.inl rfl) ?_
  have z6 := z5.put0 (o := 20) (k := 6) (by decide)
  refine r_aload_n dX4_init_49 rfl ?_
  refine r_bipush dX4_init_50 (by decide +kernel) ⟨by decide, by decide⟩ ?_
  refine n_newI (m := 48) (kk := 1) (rest := [[], [], [], [], []]) (rest' := [[], [], [], [], [], []]) hR rfl (by decide) rfl rfl dX4_init_52 (Or.inl ⟨rfl, rfl⟩) w_newI rfl (by decide) ?_
  have z7 := z6.push (by decide)
  refine n_putR (row' := [0, 21, 22, 23, 24, 25, 0, 26]) (rest := [[], [], [], [], [], []]) hR (by decide) (by decide) rfl rfl dX4_init_54 fl_X4_32 (fun _ h => by cases h; exact ⟨rfl, rfl⟩) rfl rfl (by decide) ?_
  refine r_aload_n dX4_init_57 rfl ?_
  refine r_iconst dX4_init_58 ⟨by decide, by decide⟩ ?_
  refine n_putI (rest := [[], [], [], [], [], []]) (by decide) (by decide) rfl dX4_init_59 fl_X4_35 (fun _ h => by cases h; rfl) (Or.inl rfl) ?_
  have z8 := z7.put0 (o := 20) (k := 8) (by decide)
  refine r_aload_n dX4_init_62 rfl ?_
  refine r_sipush dX4_init_63 (by decide +kernel) ⟨by decide, by decide⟩ ?_
  refine n_newI (m := 196) (kk := 1) (rest := [[], [], [], [], [], []]) (rest' := [[], [], [], [], [], [], []]) hR rfl (by decide) rfl rfl dX4_init_66 (Or.inl ⟨rfl, rfl⟩) w_newI rfl (by decide) ?_
  have z9 := z8.push (by decide)
  refine n_putR (row' := [0, 21, 22, 23, 24, 25, 0, 26, 0, 27]) (rest := [[], [], [], [], [], [], []]) hR (by decide) (by decide) rfl rfl dX4_init_68 fl_X4_38 (fun _ h => by cases h; exact ⟨rfl, rfl⟩) rfl rfl (by decide) ?_
  refine r_aload_n dX4_init_71 rfl ?_
  refine r_sipush dX4_init_72 (by decide +kernel) ⟨by decide, by decide⟩ ?_
  refine n_newI (m := 611) (kk := 1) (rest := [[], [], [], [], [], [], []]) (rest' := [[], [], [], [], [], [], [], []]) hR rfl (by decide) rfl rfl dX4_init_75 (Or.inl ⟨rfl, rfl⟩) w_newI rfl (by decide) ?_
  have z10 := z9.push (by decide)
  refine n_putR (row' := [0, 21, 22, 23, 24, 25, 0, 26, 0, 27, 28]) (rest := [[], [], [], [], [], [], [], []]) hR (by decide) (by decide) rfl rfl dX4_init_77 fl_X4_41 (fun _ h => by cases h; exact ⟨rfl, rfl⟩) rfl rfl (by decide) ?_
  refine r_aload_n dX4_init_80 rfl ?_
  refine r_iconst dX4_init_81 ⟨by decide, by decide⟩ ?_
  refine n_putI (rest := [[], [], [], [], [], [], [], []]) (by decide) (by decide) rfl dX4_init_82 fl_X4_44 (fun _ h => by cases h; rfl) (Or.inl rfl) ?_
  have z11 := z10.put0 (o := 20) (k := 11) (by decide)
  refine r_aload_n dX4_init_85 rfl ?_
  refine r_sipush dX4_init_86 (by decide +kernel) ⟨by decide, by decide⟩ ?_
  refine n_newI (m := 611) (kk := 1) (rest := [[], [], [], [], [], [], [], []]) (rest' := [[], [], [], [], [], [], [], [], []]) hR rfl (by decide) rfl rfl dX4_init_89 (Or.inl ⟨rfl, rfl⟩) w_newI rfl (by decide) ?_
  have z12 := z11.push (by decide)
  refine n_putR (row' := [0, 21, 22, 23, 24, 25, 0, 26, 0, 27, 28, 0, 29]) (rest := [[], [], [], [], [], [], [], [], []]) hR (by decide) (by decide) rfl rfl dX4_init_91 fl_X4_47 (fun _ h => by cases h; exact ⟨rfl, rfl⟩) rfl rfl (by decide) ?_
  refine r_aload_n dX4_init_94 rfl ?_
  refine r_sipush dX4_init_95 (by decide +kernel) ⟨by decide, by decide⟩ ?_
  refine n_newI (m := 4096) (kk := 1) (rest := [[], [], [], [], [], [], [], [], []]) (rest' := [[], [], [], [], [], [], [], [], [], []]) hR rfl (by decide) rfl rfl dX4_init_98 (Or.inl ⟨rfl, rfl⟩) w_newI rfl (by decide) ?_
  have z13 := z12.push (by decide)
  refine n_putR (row' := [0, 21, 22, 23, 24, 25, 0, 26, 0, 27, 28, 0, 29, 30]) (rest := [[], [], [], [], [], [], [], [], [], []]) hR (by decide) (by decide) rfl rfl dX4_init_100 fl_X4_50 (fun _ h => by cases h; exact ⟨rfl, rfl⟩) rfl rfl (by decide) ?_
  refine r_aload_n dX4_init_103 rfl ?_
  refine r_iconst dX4_init_104 ⟨by decide, by decide⟩ ?_
  refine n_putI (rest := [[], [], [], [], [], [], [], [], [], []]) (by decide) (by decide) rfl dX4_init_105 fl_X4_53 (fun _ h => by cases h; rfl) (Or.inl rfl) ?_
  have z14 := z13.put0 (o := 20) (k := 14) (by decide)
  refine r_aload_n dX4_init_108 rfl ?_
  refine r_aload_n dX4_init_109 rfl ?_
  refine n_putR (row' := [7, 21, 22, 23, 24, 25, 0, 26, 0, 27, 28, 0, 29, 30]) (rest := [[], [], [], [], [], [], [], [], [], []]) hR (by decide) (by decide) rfl rfl dX4_init_110 fl_X4_56 (fun _ h => by cases h; exact ⟨rfl, rfl⟩) rfl rfl (by decide) ?_
  exact r_vret dX4_init_113 rfl (hQ _ z14)
theorem i_X9_31 {Rp : List (List Nat)} {kB : Nat → Nat × Nat} {σ0 σ : StT} {Q : Int → ShT → StT → Prop} (hR : Rp.length = 31) (z0 : ZI σ0 σ 32) (hQ : ∀ σ' : StT, ZI σ0 σ' 40 → Q 0 (shN 40 (Rp ++ [[4, 7, 20, 32, 33, 34, 35, 0, 36, 37, 0, 38, 39], [], [], [], [], [], [], [], []]) kB) σ') : WPm mX9_init [vR 31, vR 4, vR 7, vR 20] (shN 32 (Rp ++ [[]]) kB) σ 8 315 Q := by
  refine r_entry (by decide) (Nat.le_of_ble_eq_true rfl) rfl rfl ?_
  refine r_aload_n dX9_init_0 rfl ?_
  refine r_objI dX9_init_1 wo_X9 (Nat.le_of_ble_eq_true rfl) (Nat.le_of_ble_eq_true rfl) ?_
  refine r_aload_n dX9_init_4 rfl ?_
  refine r_bipush dX9_init_5 (by decide +kernel) ⟨by decide, by decide⟩ ?_
  refine n_newI (m := 48) (kk := 1) (rest := []) (rest' := [[]]) hR rfl (by decide) rfl rfl dX9_init_7 (Or.inl ⟨rfl, rfl⟩) w_newI rfl (by decide) ?_
  have z1 := z0.push (by decide)
  refine n_putR (row' := [0, 0, 0, 32]) (rest := [[]]) hR (by decide) (by decide) rfl rfl dX9_init_9 fl_X9_11 (fun _ h => by cases h; exact ⟨rfl, rfl⟩) rfl rfl (by decide) ?_
  refine r_aload_n dX9_init_12 rfl ?_
  refine r_bipush dX9_init_13 (by decide +kernel) ⟨by decide, by decide⟩ ?_
  refine n_newI (m := 25) (kk := 1) (rest := [[]]) (rest' := [[], []]) hR rfl (by decide) rfl rfl dX9_init_15 (Or.inl ⟨rfl, rfl⟩) w_newI rfl (by decide) ?_
  have z2 := z1.push (by decide)
  refine n_putR (row' := [0, 0, 0, 32, 33]) (rest := [[], []]) hR (by decide) (by decide) rfl rfl dX9_init_17 fl_X9_15 (fun _ h => by cases h; exact ⟨rfl, rfl⟩) rfl rfl (by decide) ?_
  refine r_aload_n dX9_init_20 rfl ?_
  refine r_bipush dX9_init_21 (by decide +kernel) ⟨by decide, by decide⟩ ?_
  refine n_newI (m := 48) (kk := 1) (rest := [[], []]) (rest' := [[], [], []]) hR rfl (by decide) rfl rfl dX9_init_23 (Or.inl ⟨rfl, rfl⟩) w_newI rfl (by decide) ?_
  have z3 := z2.push (by decide)
  refine n_putR (row' := [0, 0, 0, 32, 33, 34]) (rest := [[], [], []]) hR (by decide) (by decide) rfl rfl dX9_init_25 fl_X9_18 (fun _ h => by cases h; exact ⟨rfl, rfl⟩) rfl rfl (by decide) ?_
  refine r_aload_n dX9_init_28 rfl ?_
  refine r_bipush dX9_init_29 (by decide +kernel) ⟨by decide, by decide⟩ ?_
  refine n_newI (m := 49) (kk := 1) (rest := [[], [], []]) (rest' := [[], [], [], []]) hR rfl (by decide) rfl rfl dX9_init_31 (Or.inl ⟨rfl, rfl⟩) w_newI rfl (by decide) ?_
  have z4 := z3.push (by decide)
  refine n_putR (row' := [0, 0, 0, 32, 33, 34, 35]) (rest := [[], [], [], []]) hR (by decide) (by decide) rfl rfl dX9_init_33 fl_X9_21 (fun _ h => by cases h; exact ⟨rfl, rfl⟩) rfl rfl (by decide) ?_
  refine r_aload_n dX9_init_36 rfl ?_
  refine r_iconst dX9_init_37 ⟨by decide, by decide⟩ ?_
  refine n_putI (rest := [[], [], [], []]) (by decide) (by decide) rfl dX9_init_38 fl_X9_24 (fun _ h => by cases h; rfl) (Or.inl rfl) ?_
  have z5 := z4.put0 (o := 31) (k := 7) (by decide)
  refine r_aload_n dX9_init_41 rfl ?_
  refine r_bipush dX9_init_42 (by decide +kernel) ⟨by decide, by decide⟩ ?_
  refine n_newI (m := 48) (kk := 1) (rest := [[], [], [], []]) (rest' := [[], [], [], [], []]) hR rfl (by decide) rfl rfl dX9_init_44 (Or.inl ⟨rfl, rfl⟩) w_newI rfl (by decide) ?_
  have z6 := z5.push (by decide)
  refine n_putR (row' := [0, 0, 0, 32, 33, 34, 35, 0, 36]) (rest := [[], [], [], [], []]) hR (by decide) (by decide) rfl rfl dX9_init_46 fl_X9_28 (fun _ h => by cases h; exact ⟨rfl, rfl⟩) rfl rfl (by decide) ?_
  refine r_aload_n dX9_init_49 rfl ?_
  refine r_bipush dX9_init_50 (by decide +kernel) ⟨by decide, by decide⟩ ?_
  refine n_newI (m := 49) (kk := 1) (rest := [[], [], [], [], []]) (rest' := [[], [], [], [], [], []]) hR rfl (by decide) rfl rfl dX9_init_52 (Or.inl ⟨rfl, rfl⟩) w_newI rfl (by decide) ?_
  have z7 := z6.push (by decide)
  refine n_putR (row' := [0, 0, 0, 32, 33, 34, 35, 0, 36, 37]) (rest := [[], [], [], [], [], []]) hR (by decide) (by decide) rfl rfl dX9_init_54 fl_X9_31 (fun _ h => by cases h; exact ⟨rfl, rfl⟩) rfl rfl (by decide) ?_
  refine r_aload_n dX9_init_57 rfl ?_
  refine r_iconst dX9_init_58 ⟨by decide, by decide⟩ ?_
  refine n_putI (rest := [[], [], [], [], [], []]) (by decide) (by decide) rfl dX9_init_59 fl_X9_34 (fun _ h => by cases h; rfl) (Or.inl rfl) ?_
  have z8 := z7.put0 (o := 31) (k := 10) (by decide)
  refine r_aload_n dX9_init_62 rfl ?_
  refine r_bipush dX9_init_63 (by decide +kernel) ⟨by decide, by decide⟩ ?_
  refine n_newI (m := 24) (kk := 2) (rest := [[], [], [], [], [], []]) (rest' := [[], [], [], [], [], [], []]) hR rfl (by decide) rfl rfl dX9_init_65 (Or.inr (Or.inl ⟨rfl, rfl⟩)) w_newZ rfl (by decide) ?_
  have z9 := z8.push (by decide)
  refine n_putR (row' := [0, 0, 0, 32, 33, 34, 35, 0, 36, 37, 0, 38]) (rest := [[], [], [], [], [], [], []]) hR (by decide) (by decide) rfl rfl dX9_init_67 fl_X9_37 (fun _ h => by cases h; exact ⟨rfl, rfl⟩) rfl rfl (by decide) ?_
  refine r_aload_n dX9_init_70 rfl ?_
  refine r_bipush dX9_init_71 (by decide +kernel) ⟨by decide, by decide⟩ ?_
  refine n_newI (m := 24) (kk := 2) (rest := [[], [], [], [], [], [], []]) (rest' := [[], [], [], [], [], [], [], []]) hR rfl (by decide) rfl rfl dX9_init_73 (Or.inr (Or.inl ⟨rfl, rfl⟩)) w_newZ rfl (by decide) ?_
  have z10 := z9.push (by decide)
  refine n_putR (row' := [0, 0, 0, 32, 33, 34, 35, 0, 36, 37, 0, 38, 39]) (rest := [[], [], [], [], [], [], [], []]) hR (by decide) (by decide) rfl rfl dX9_init_75 fl_X9_41 (fun _ h => by cases h; exact ⟨rfl, rfl⟩) rfl rfl (by decide) ?_
  refine r_aload_n dX9_init_78 rfl ?_
  refine r_aload_n dX9_init_79 rfl ?_
  refine n_putR (row' := [4, 0, 0, 32, 33, 34, 35, 0, 36, 37, 0, 38, 39]) (rest := [[], [], [], [], [], [], [], []]) hR (by decide) (by decide) rfl rfl dX9_init_80 fl_X9_44 (fun _ h => by cases h; exact ⟨rfl, rfl⟩) rfl rfl (by decide) ?_
  refine r_aload_n dX9_init_83 rfl ?_
  refine r_aload_n dX9_init_84 rfl ?_
  refine n_putR (row' := [4, 7, 0, 32, 33, 34, 35, 0, 36, 37, 0, 38, 39]) (rest := [[], [], [], [], [], [], [], []]) hR (by decide) (by decide) rfl rfl dX9_init_85 fl_X9_48 (fun _ h => by cases h; exact ⟨rfl, rfl⟩) rfl rfl (by decide) ?_
  refine r_aload_n dX9_init_88 rfl ?_
  refine r_aload_n dX9_init_89 rfl ?_
  refine n_putR (row' := [4, 7, 20, 32, 33, 34, 35, 0, 36, 37, 0, 38, 39]) (rest := [[], [], [], [], [], [], [], []]) hR (by decide) (by decide) rfl rfl dX9_init_90 fl_X9_52 (fun _ h => by cases h; exact ⟨rfl, rfl⟩) rfl rfl (by decide) ?_
  exact r_vret dX9_init_93 rfl (hQ _ z10)
theorem i_X8_40 {Rp : List (List Nat)} {kB : Nat → Nat × Nat} {σ0 σ : StT} {Q : Int → ShT → StT → Prop} (hR : Rp.length = 40) (z0 : ZI σ0 σ 41) (hQ : ∀ σ' : StT, ZI σ0 σ' 51 → Q 0 (shN 51 (Rp ++ [[4, 7, 31, 41, 42, 43, 44, 45, 46, 0, 47, 48, 0, 49, 50], [], [], [], [], [], [], [], [], [], []]) kB) σ') : WPm mX8_init [vR 40, vR 4, vR 7, vR 31] (shN 41 (Rp ++ [[]]) kB) σ 10 240 Q := by
  refine r_entry (by decide) (Nat.le_of_ble_eq_true rfl) rfl rfl ?_
  refine r_aload_n dX8_init_0 rfl ?_
  refine r_objI dX8_init_1 wo_X8 (Nat.le_of_ble_eq_true rfl) (Nat.le_of_ble_eq_true rfl) ?_
  refine r_aload_n dX8_init_4 rfl ?_
  refine r_bipush dX8_init_5 (by decide +kernel) ⟨by decide, by decide⟩ ?_
  refine n_newI (m := 24) (kk := 1) (rest := []) (rest' := [[]]) hR rfl (by decide) rfl rfl dX8_init_7 (Or.inl ⟨rfl, rfl⟩) w_newI rfl (by decide) ?_
  have z1 := z0.push (by decide)
  refine n_putR (row' := [0, 0, 0, 41]) (rest := [[]]) hR (by decide) (by decide) rfl rfl dX8_init_9 fl_X8_9 (fun _ h => by cases h; exact ⟨rfl, rfl⟩) rfl rfl (by decide) ?_
  refine r_aload_n dX8_init_12 rfl ?_
  refine r_bipush dX8_init_13 (by decide +kernel) ⟨by decide, by decide⟩ ?_
  refine n_newI (m := 24) (kk := 1) (rest := [[]]) (rest' := [[], []]) hR rfl (by decide) rfl rfl dX8_init_15 (Or.inl ⟨rfl, rfl⟩) w_newI rfl (by decide) ?_
  have z2 := z1.push (by decide)
  refine n_putR (row' := [0, 0, 0, 41, 42]) (rest := [[], []]) hR (by decide) (by decide) rfl rfl dX8_init_17 fl_X8_15 (fun _ h => by cases h; exact ⟨rfl, rfl⟩) rfl rfl (by decide) ?_
  refine r_aload_n dX8_init_20 rfl ?_
  refine r_bipush dX8_init_21 (by decide +kernel) ⟨by decide, by decide⟩ ?_
  refine n_newI (m := 24) (kk := 1) (rest := [[], []]) (rest' := [[], [], []]) hR rfl (by decide) rfl rfl dX8_init_23 (Or.inl ⟨rfl, rfl⟩) w_newI rfl (by decide) ?_
  have z3 := z2.push (by decide)
  refine n_putR (row' := [0, 0, 0, 41, 42, 43]) (rest := [[], [], []]) hR (by decide) (by decide) rfl rfl dX8_init_25 fl_X8_18 (fun _ h => by cases h; exact ⟨rfl, rfl⟩) rfl rfl (by decide) ?_
  refine r_aload_n dX8_init_28 rfl ?_
  refine r_bipush dX8_init_29 (by decide +kernel) ⟨by decide, by decide⟩ ?_
  refine n_newI (m := 24) (kk := 1) (rest := [[], [], []]) (rest' := [[], [], [], []]) hR rfl (by decide) rfl rfl dX8_init_31 (Or.inl ⟨rfl, rfl⟩) w_newI rfl (by decide) ?_
  have z4 := z3.push (by decide)
  refine n_putR (row' := [0, 0, 0, 41, 42, 43, 44]) (rest := [[], [], [], []]) hR (by decide) (by decide) rfl rfl dX8_init_33 fl_X8_21 (fun _ h => by cases h; exact ⟨rfl, rfl⟩) rfl rfl (by decide) ?_
  refine r_aload_n dX8_init_36 rfl ?_
  refine r_bipush dX8_init_37 (by decide +kernel) ⟨by decide, by decide⟩ ?_
  refine n_newI (m := 24) (kk := 1) (rest := [[], [], [], []]) (rest' := [[], [], [], [], []]) hR rfl (by decide) rfl rfl dX8_init_39 (Or.inl ⟨rfl, rfl⟩) w_newI rfl (by decide) ?_
  have z5 := z4.push (by decide)
  refine n_putR (row' := [0, 0, 0, 41, 42, 43, 44, 45]) (rest := [[], [], [], [], []]) hR (by decide) (by decide) rfl rfl dX8_init_41 fl_X8_24 (fun _ h => by cases h; exact ⟨rfl, rfl⟩) rfl rfl (by decide) ?_
  refine r_aload_n dX8_init_44 rfl ?_
  refine r_bipush dX8_init_45 (by decide +kernel) ⟨by decide, by decide⟩ ?_
  refine n_newI (m := 24) (kk := 1) (rest := [[], [], [], [], []]) (rest' := [[], [], [], [], [], []]) hR rfl (by decide) rfl rfl dX8_init_47 (Or.inl ⟨rfl, rfl⟩) w_newI rfl (by decide) ?_
  have z6 := z5.push (by decide)
  refine n_putR (row' := [0, 0, 0, 41, 42, 43, 44, 45, 46]) (rest := [[], [], [], [], [], []]) hR (by decide) (by decide) rfl rfl dX8_init_49 fl_X8_27 (fun _ h => by cases h; exact ⟨rfl, rfl⟩) rfl rfl (by decide) ?_
  refine r_aload_n dX8_init_52 rfl ?_
  refine r_iconst dX8_init_53 ⟨by decide, by decide⟩ ?_
  refine n_putI (rest := [[], [], [], [], [], []]) (by decide) (by decide) rfl dX8_init_54 fl_X8_30 (fun _ h => by cases h; rfl) (Or.inl rfl) ?_
  have z7 := z6.put0 (o := 40) (k := 9) (by decide)
  refine r_aload_n dX8_init_57 rfl ?_
  refine r_bipush dX8_init_58 (by decide +kernel) ⟨by decide, by decide⟩ ?_
  refine n_newI (m := 24) (kk := 1) (rest := [[], [], [], [], [], []]) (rest' := [[], [], [], [], [], [], []]) hR rfl (by decide) rfl rfl dX8_init_60 (Or.inl ⟨rfl, rfl⟩) w_newI rfl (by decide) ?_
  have z8 := z7.push (by decide)
  refine n_putR (row' := [0, 0, 0, 41, 42, 43, 44, 45, 46, 0, 47]) (rest := [[], [], [], [], [], [], []]) hR (by decide) (by decide) rfl rfl dX8_init_62 fl_X8_34 (fun _ h => by cases h; exact ⟨rfl, rfl⟩) rfl rfl (by decide) ?_
  refine r_aload_n dX8_init_65 rfl ?_
  refine r_bipush dX8_init_66 (by decide +kernel) ⟨by decide, by decide⟩ ?_
  refine n_newI (m := 24) (kk := 1) (rest := [[], [], [], [], [], [], []]) (rest' := [[], [], [], [], [], [], [], []]) hR rfl (by decide) rfl rfl dX8_init_68 (Or.inl ⟨rfl, rfl⟩) w_newI rfl (by decide) ?_
  have z9 := z8.push (by decide)
  refine n_putR (row' := [0, 0, 0, 41, 42, 43, 44, 45, 46, 0, 47, 48]) (rest := [[], [], [], [], [], [], [], []]) hR (by decide) (by decide) rfl rfl dX8_init_70 fl_X8_37 (fun _ h => by cases h; exact ⟨rfl, rfl⟩) rfl rfl (by decide) ?_
  refine r_aload_n dX8_init_73 rfl ?_
  refine r_iconst dX8_init_74 ⟨by decide, by decide⟩ ?_
  refine n_putI (rest := [[], [], [], [], [], [], [], []]) (by decide) (by decide) rfl dX8_init_75 fl_X8_40 (fun _ h => by cases h; rfl) (Or.inl rfl) ?_
  have z10 := z9.put0 (o := 40) (k := 12) (by decide)
  refine r_aload_n dX8_init_78 rfl ?_
  refine r_bipush dX8_init_79 (by decide +kernel) ⟨by decide, by decide⟩ ?_
  refine n_newI (m := 24) (kk := 1) (rest := [[], [], [], [], [], [], [], []]) (rest' := [[], [], [], [], [], [], [], [], []]) hR rfl (by decide) rfl rfl dX8_init_81 (Or.inl ⟨rfl, rfl⟩) w_newI rfl (by decide) ?_
  have z11 := z10.push (by decide)
  refine n_putR (row' := [0, 0, 0, 41, 42, 43, 44, 45, 46, 0, 47, 48, 0, 49]) (rest := [[], [], [], [], [], [], [], [], []]) hR (by decide) (by decide) rfl rfl dX8_init_83 fl_X8_43 (fun _ h => by cases h; exact ⟨rfl, rfl⟩) rfl rfl (by decide) ?_
  refine r_aload_n dX8_init_86 rfl ?_
  refine r_bipush dX8_init_87 (by decide +kernel) ⟨by decide, by decide⟩ ?_
  refine n_newI (m := 24) (kk := 2) (rest := [[], [], [], [], [], [], [], [], []]) (rest' := [[], [], [], [], [], [], [], [], [], []]) hR rfl (by decide) rfl rfl dX8_init_89 (Or.inr (Or.inl ⟨rfl, rfl⟩)) w_newZ rfl (by decide) ?_
  have z12 := z11.push (by decide)
  refine n_putR (row' := [0, 0, 0, 41, 42, 43, 44, 45, 46, 0, 47, 48, 0, 49, 50]) (rest := [[], [], [], [], [], [], [], [], [], []]) hR (by decide) (by decide) rfl rfl dX8_init_91 fl_X8_46 (fun _ h => by cases h; exact ⟨rfl, rfl⟩) rfl rfl (by decide) ?_
  refine r_aload_n dX8_init_94 rfl ?_
  refine r_aload_n dX8_init_95 rfl ?_
  refine n_putR (row' := [4, 0, 0, 41, 42, 43, 44, 45, 46, 0, 47, 48, 0, 49, 50]) (rest := [[], [], [], [], [], [], [], [], [], []]) hR (by decide) (by decide) rfl rfl dX8_init_96 fl_X8_50 (fun _ h => by cases h; exact ⟨rfl, rfl⟩) rfl rfl (by decide) ?_
  refine r_aload_n dX8_init_99 rfl ?_
  refine r_aload_n dX8_init_100 rfl ?_
  refine n_putR (row' := [4, 7, 0, 41, 42, 43, 44, 45, 46, 0, 47, 48, 0, 49, 50]) (rest := [[], [], [], [], [], [], [], [], [], []]) hR (by decide) (by decide) rfl rfl dX8_init_101 fl_X8_54 (fun _ h => by cases h; exact ⟨rfl, rfl⟩) rfl rfl (by decide) ?_
  refine r_aload_n dX8_init_104 rfl ?_
  refine r_aload_n dX8_init_105 rfl ?_
  refine n_putR (row' := [4, 7, 31, 41, 42, 43, 44, 45, 46, 0, 47, 48, 0, 49, 50]) (rest := [[], [], [], [], [], [], [], [], [], []]) hR (by decide) (by decide) rfl rfl dX8_init_106 fl_X8_58 (fun _ h => by cases h; exact ⟨rfl, rfl⟩) rfl rfl (by decide) ?_
  exact r_vret dX8_init_109 rfl (hQ _ z12)
theorem i_X5_51 {Rp : List (List Nat)} {kB : Nat → Nat × Nat} {σ0 σ : StT} {Q : Int → ShT → StT → Prop} (hR : Rp.length = 51) (z0 : ZI σ0 σ 52) (hQ : ∀ σ' : StT, ZI σ0 σ' 53 → Q 0 (shN 53 (Rp ++ [[4, 7, 40, 52], []]) kB) σ') : WPm mX5_init [vR 51, vR 4, vR 7, vR 40] (shN 52 (Rp ++ [[]]) kB) σ 1 24 Q := by
  refine r_entry (by decide) (Nat.le_of_ble_eq_true rfl) rfl rfl ?_
  refine r_aload_n dX5_init_0 rfl ?_
  refine r_objI dX5_init_1 wo_X5 (Nat.le_of_ble_eq_true rfl) (Nat.le_of_ble_eq_true rfl) ?_
  refine r_aload_n dX5_init_4 rfl ?_
  refine r_bipush dX5_init_5 (by decide +kernel) ⟨by decide, by decide⟩ ?_
  refine n_newI (m := 24) (kk := 1) (rest := []) (rest' := [[]]) hR rfl (by decide) rfl rfl dX5_init_7 (Or.inl ⟨rfl, rfl⟩) w_newI rfl (by decide) ?_
  have z1 := z0.push (by decide)
  refine n_putR (row' := [0, 0, 0, 52]) (rest := [[]]) hR (by decide) (by decide) rfl rfl dX5_init_9 fl_X5_9 (fun _ h => by cases h; exact ⟨rfl, rfl⟩) rfl rfl (by decide) ?_
  refine r_aload_n dX5_init_12 rfl ?_
  refine r_iconst dX5_init_13 ⟨by decide, by decide⟩ ?_
  refine n_putI (rest := [[]]) (by decide) (by decide) rfl dX5_init_14 fl_X5_15 (fun _ h => by cases h; rfl) (Or.inl rfl) ?_
  have z2 := z1.put0 (o := 51) (k := 4) (by decide)
  refine r_aload_n dX5_init_17 rfl ?_
  refine r_aload_n dX5_init_18 rfl ?_
  refine n_putR (row' := [4, 0, 0, 52]) (rest := [[]]) hR (by decide) (by decide) rfl rfl dX5_init_19 fl_X5_19 (fun _ h => by cases h; exact ⟨rfl, rfl⟩) rfl rfl (by decide) ?_
  refine r_aload_n dX5_init_22 rfl ?_
  refine r_aload_n dX5_init_23 rfl ?_
  refine n_putR (row' := [4, 7, 0, 52]) (rest := [[]]) hR (by decide) (by decide) rfl rfl dX5_init_24 fl_X5_23 (fun _ h => by cases h; exact ⟨rfl, rfl⟩) rfl rfl (by decide) ?_
  refine r_aload_n dX5_init_27 rfl ?_
  refine r_aload_n dX5_init_28 rfl ?_
  refine n_putR (row' := [4, 7, 40, 52]) (rest := [[]]) hR (by decide) (by decide) rfl rfl dX5_init_29 fl_X5_27 (fun _ h => by cases h; exact ⟨rfl, rfl⟩) rfl rfl (by decide) ?_
  exact r_vret dX5_init_32 rfl (hQ _ z2)
theorem i_X0_56 {Rp : List (List Nat)} {kB : Nat → Nat × Nat} {σ0 σ : StT} {Q : Int → ShT → StT → Prop} (hR : Rp.length = 56) (z0 : ZI σ0 σ 57) (hQ : ∀ σ' : StT, ZI σ0 σ' 59 → Q 0 (shN 59 (Rp ++ [[57, 58], [], []]) kB) σ') : WPm mX0_init [vR 56] (shN 57 (Rp ++ [[]]) kB) σ 2 96 Q := by
  refine r_entry (by decide) (Nat.le_of_ble_eq_true rfl) rfl rfl ?_
  refine r_aload_n dX0_init_0 rfl ?_
  refine r_objI dX0_init_1 wo_X0 (Nat.le_of_ble_eq_true rfl) (Nat.le_of_ble_eq_true rfl) ?_
  refine r_aload_n dX0_init_4 rfl ?_
  refine r_bipush dX0_init_5 (by decide +kernel) ⟨by decide, by decide⟩ ?_
  refine n_newI (m := 48) (kk := 1) (rest := []) (rest' := [[]]) hR rfl (by decide) rfl rfl dX0_init_7 (Or.inl ⟨rfl, rfl⟩) w_newI rfl (by decide) ?_
  have z1 := z0.push (by decide)
  refine n_putR (row' := [57]) (rest := [[]]) hR (by decide) (by decide) rfl rfl dX0_init_9 fl_X0_9 (fun _ h => by cases h; exact ⟨rfl, rfl⟩) rfl rfl (by decide) ?_
  refine r_aload_n dX0_init_12 rfl ?_
  refine r_bipush dX0_init_13 (by decide +kernel) ⟨by decide, by decide⟩ ?_
  refine n_newI (m := 48) (kk := 1) (rest := [[]]) (rest' := [[], []]) hR rfl (by decide) rfl rfl dX0_init_15 (Or.inl ⟨rfl, rfl⟩) w_newI rfl (by decide) ?_
  have z2 := z1.push (by decide)
  refine n_putR (row' := [57, 58]) (rest := [[], []]) hR (by decide) (by decide) rfl rfl dX0_init_17 fl_X0_15 (fun _ h => by cases h; exact ⟨rfl, rfl⟩) rfl rfl (by decide) ?_
  refine r_aload_n dX0_init_20 rfl ?_
  refine r_iconst dX0_init_21 ⟨by decide, by decide⟩ ?_
  refine n_putI (rest := [[], []]) (by decide) (by decide) rfl dX0_init_22 fl_X0_18 (fun _ h => by cases h; rfl) (Or.inl rfl) ?_
  have z3 := z2.put0 (o := 56) (k := 2) (by decide)
  refine r_aload_n dX0_init_25 rfl ?_
  refine r_iconst dX0_init_26 ⟨by decide, by decide⟩ ?_
  refine n_putI (rest := [[], []]) (by decide) (by decide) rfl dX0_init_27 fl_X0_22 (fun _ h => by cases h; rfl) (Or.inl rfl) ?_
  have z4 := z3.put0 (o := 56) (k := 3) (by decide)
  refine r_aload_n dX0_init_30 rfl ?_
  refine r_iconst dX0_init_31 ⟨by decide, by decide⟩ ?_
  refine n_putI (rest := [[], []]) (by decide) (by decide) rfl dX0_init_32 fl_X0_25 (fun _ h => by cases h; rfl) (Or.inl rfl) ?_
  have z5 := z4.put0 (o := 56) (k := 4) (by decide)
  refine r_aload_n dX0_init_35 rfl ?_
  refine r_iconst dX0_init_36 ⟨by decide, by decide⟩ ?_
  refine n_putI (rest := [[], []]) (by decide) (by decide) rfl dX0_init_37 fl_X0_28 (fun _ h => by cases h; rfl) (Or.inl rfl) ?_
  have z6 := z5.put0 (o := 56) (k := 5) (by decide)
  refine r_aload_n dX0_init_40 rfl ?_
  refine r_iconst dX0_init_41 ⟨by decide, by decide⟩ ?_
  refine n_putI (rest := [[], []]) (by decide) (by decide) rfl dX0_init_42 fl_X0_31 (fun _ h => by cases h; rfl) (Or.inl rfl) ?_
  have z7 := z6.put0 (o := 56) (k := 6) (by decide)
  refine r_aload_n dX0_init_45 rfl ?_
  refine r_iconst dX0_init_46 ⟨by decide, by decide⟩ ?_
  refine n_putI (rest := [[], []]) (by decide) (by decide) rfl dX0_init_47 fl_X0_34 (fun _ h => by cases h; rfl) (Or.inl rfl) ?_
  have z8 := z7.putx (o := 56) (k := 7) (v := 1) (by decide) (by decide)
  refine r_aload_n dX0_init_50 rfl ?_
  refine r_iconst dX0_init_51 ⟨by decide, by decide⟩ ?_
  refine n_putI (rest := [[], []]) (by decide) (by decide) rfl dX0_init_52 fl_X0_37 (fun _ h => by cases h; rfl) (Or.inl rfl) ?_
  have z9 := z8.putx (o := 56) (k := 8) (v := 1) (by decide) (by decide)
  exact r_vret dX0_init_55 rfl (hQ _ z9)
theorem i_X5_59 {Rp : List (List Nat)} {kB : Nat → Nat × Nat} {σ0 σ : StT} {Q : Int → ShT → StT → Prop} (hR : Rp.length = 59) (z0 : ZI σ0 σ 60) (hQ : ∀ σ' : StT, ZI σ0 σ' 61 → Q 0 (shN 61 (Rp ++ [[4, 7, 40, 60], []]) kB) σ') : WPm mX5_init [vR 59, vR 4, vR 7, vR 40] (shN 60 (Rp ++ [[]]) kB) σ 1 24 Q := by
  refine r_entry (by decide) (Nat.le_of_ble_eq_true rfl) rfl rfl ?_
  refine r_aload_n dX5_init_0 rfl ?_
  refine r_objI dX5_init_1 wo_X5 (Nat.le_of_ble_eq_true rfl) (Nat.le_of_ble_eq_true rfl) ?_
  refine r_aload_n dX5_init_4 rfl ?_
  refine r_bipush dX5_init_5 (by decide +kernel) ⟨by decide, by decide⟩ ?_
  refine n_newI (m := 24) (kk := 1) (rest := []) (rest' := [[]]) hR rfl (by decide) rfl rfl dX5_init_7 (Or.inl ⟨rfl, rfl⟩) w_newI rfl (by decide) ?_
  have z1 := z0.push (by decide)
  refine n_putR (row' := [0, 0, 0, 60]) (rest := [[]]) hR (by decide) (by decide) rfl rfl dX5_init_9 fl_X5_9 (fun _ h => by cases h; exact ⟨rfl, rfl⟩) rfl rfl (by decide) ?_
  refine r_aload_n dX5_init_12 rfl ?_
  refine r_iconst dX5_init_13 ⟨by decide, by decide⟩ ?_
  refine n_putI (rest := [[]]) (by decide) (by decide) rfl dX5_init_14 fl_X5_15 (fun _ h => by cases h; rfl) (Or.inl rfl) ?_
  have z2 := z1.put0 (o := 59) (k := 4) (by decide)
  refine r_aload_n dX5_init_17 rfl ?_
  refine r_aload_n dX5_init_18 rfl ?_
  refine n_putR (row' := [4, 0, 0, 60]) (rest := [[]]) hR (by decide) (by decide) rfl rfl dX5_init_19 fl_X5_19 (fun _ h => by cases h; exact ⟨rfl, rfl⟩) rfl rfl (by decide) ?_
  refine r_aload_n dX5_init_22 rfl ?_
  refine r_aload_n dX5_init_23 rfl ?_
  refine n_putR (row' := [4, 7, 0, 60]) (rest := [[]]) hR (by decide) (by decide) rfl rfl dX5_init_24 fl_X5_23 (fun _ h => by cases h; exact ⟨rfl, rfl⟩) rfl rfl (by decide) ?_
  refine r_aload_n dX5_init_27 rfl ?_
  refine r_aload_n dX5_init_28 rfl ?_
  refine n_putR (row' := [4, 7, 40, 60]) (rest := [[]]) hR (by decide) (by decide) rfl rfl dX5_init_29 fl_X5_27 (fun _ h => by cases h; exact ⟨rfl, rfl⟩) rfl rfl (by decide) ?_
  exact r_vret dX5_init_32 rfl (hQ _ z2)
theorem i_X0_61 {Rp : List (List Nat)} {kB : Nat → Nat × Nat} {σ0 σ : StT} {Q : Int → ShT → StT → Prop} (hR : Rp.length = 61) (z0 : ZI σ0 σ 62) (hQ : ∀ σ' : StT, ZI σ0 σ' 64 → Q 0 (shN 64 (Rp ++ [[62, 63], [], []]) kB) σ') : WPm mX0_init [vR 61] (shN 62 (Rp ++ [[]]) kB) σ 2 96 Q := by
  refine r_entry (by decide) (Nat.le_of_ble_eq_true rfl) rfl rfl ?_
  refine r_aload_n dX0_init_0 rfl ?_
  refine r_objI dX0_init_1 wo_X0 (Nat.le_of_ble_eq_true rfl) (Nat.le_of_ble_eq_true rfl) ?_
  refine r_aload_n dX0_init_4 rfl ?_
  refine r_bipush dX0_init_5 (by decide +kernel) ⟨by decide, by decide⟩ ?_
  refine n_newI (m := 48) (kk := 1) (rest := []) (rest' := [[]]) hR rfl (by decide) rfl rfl dX0_init_7 (Or.inl ⟨rfl, rfl⟩) w_newI rfl (by decide) ?_
  have z1 := z0.push (by decide)
  refine n_putR (row' := [62]) (rest := [[]]) hR (by decide) (by decide) rfl rfl dX0_init_9 fl_X0_9 (fun _ h => by cases h; exact ⟨rfl, rfl⟩) rfl rfl (by decide) ?_
  refine r_aload_n dX0_init_12 rfl ?_
  refine r_bipush dX0_init_13 (by decide +kernel) ⟨by decide, by decide⟩ ?_
  refine n_newI (m := 48) (kk := 1) (rest := [[]]) (rest' := [[], []]) hR rfl (by decide) rfl rfl dX0_init_15 (Or.inl ⟨rfl, rfl⟩) w_newI rfl (by decide) ?_
  have z2 := z1.push (by decide)
  refine n_putR (row' := [62, 63]) (rest := [[], []]) hR (by decide) (by decide) rfl rfl dX0_init_17 fl_X0_15 (fun _ h => by cases h; exact ⟨rfl, rfl⟩) rfl rfl (by decide) ?_
  refine r_aload_n dX0_init_20 rfl ?_
  refine r_iconst dX0_init_21 ⟨by decide, by decide⟩ ?_
  refine n_putI (rest := [[], []]) (by decide) (by decide) rfl dX0_init_22 fl_X0_18 (fun _ h => by cases h; rfl) (Or.inl rfl) ?_
  have z3 := z2.put0 (o := 61) (k := 2) (by decide)
  refine r_aload_n dX0_init_25 rfl ?_
  refine r_iconst dX0_init_26 ⟨by decide, by decide⟩ ?_
  refine n_putI (rest := [[], []]) (by decide) (by decide) rfl dX0_init_27 fl_X0_22 (fun _ h => by cases h; rfl) (Or.inl rfl) ?_
  have z4 := z3.put0 (o := 61) (k := 3) (by decide)
  refine r_aload_n dX0_init_30 rfl ?_
  refine r_iconst dX0_init_31 ⟨by decide, by decide⟩ ?_
  refine n_putI (rest := [[], []]) (by decide) (by decide) rfl dX0_init_32 fl_X0_25 (fun _ h => by cases h; rfl) (Or.inl rfl) ?_
  have z5 := z4.put0 (o := 61) (k := 4) (by decide)
  refine r_aload_n dX0_init_35 rfl ?_
  refine r_iconst dX0_init_36 ⟨by decide, by decide⟩ ?_
  refine n_putI (rest := [[], []]) (by decide) (by decide) rfl dX0_init_37 fl_X0_28 (fun _ h => by cases h; rfl) (Or.inl rfl) ?_
  have z6 := z5.put0 (o := 61) (k := 5) (by decide)
  refine r_aload_n dX0_init_40 rfl ?_
  refine r_iconst dX0_init_41 ⟨by decide, by decide⟩ ?_
  refine n_putI (rest := [[], []]) (by decide) (by decide) rfl dX0_init_42 fl_X0_31 (fun _ h => by cases h; rfl) (Or.inl rfl) ?_
  have z7 := z6.put0 (o := 61) (k := 6) (by decide)
  refine r_aload_n dX0_init_45 rfl ?_
  refine r_iconst dX0_init_46 ⟨by decide, by decide⟩ ?_
  refine n_putI (rest := [[], []]) (by decide) (by decide) rfl dX0_init_47 fl_X0_34 (fun _ h => by cases h; rfl) (Or.inl rfl) ?_
  have z8 := z7.putx (o := 61) (k := 7) (v := 1) (by decide) (by decide)
  refine r_aload_n dX0_init_50 rfl ?_
  refine r_iconst dX0_init_51 ⟨by decide, by decide⟩ ?_
  refine n_putI (rest := [[], []]) (by decide) (by decide) rfl dX0_init_52 fl_X0_37 (fun _ h => by cases h; rfl) (Or.inl rfl) ?_
  have z9 := z8.putx (o := 61) (k := 8) (v := 1) (by decide) (by decide)
  exact r_vret dX0_init_55 rfl (hQ _ z9)
theorem i_X5_64 {Rp : List (List Nat)} {kB : Nat → Nat × Nat} {σ0 σ : StT} {Q : Int → ShT → StT → Prop} (hR : Rp.length = 64) (z0 : ZI σ0 σ 65) (hQ : ∀ σ' : StT, ZI σ0 σ' 66 → Q 0 (shN 66 (Rp ++ [[4, 7, 40, 65], []]) kB) σ') : WPm mX5_init [vR 64, vR 4, vR 7, vR 40] (shN 65 (Rp ++ [[]]) kB) σ 1 24 Q := by
  refine r_entry (by decide) (Nat.le_of_ble_eq_true rfl) rfl rfl ?_
  refine r_aload_n dX5_init_0 rfl ?_
  refine r_objI dX5_init_1 wo_X5 (Nat.le_of_ble_eq_true rfl) (Nat.le_of_ble_eq_true rfl) ?_
  refine r_aload_n dX5_init_4 rfl ?_
  refine r_bipush dX5_init_5 (by decide +kernel) ⟨by decide, by decide⟩ ?_
  refine n_newI (m := 24) (kk := 1) (rest := []) (rest' := [[]]) hR rfl (by decide) rfl rfl dX5_init_7 (Or.inl ⟨rfl, rfl⟩) w_newI rfl (by decide) ?_
  have z1 := z0.push (by decide)
  refine n_putR (row' := [0, 0, 0, 65]) (rest := [[]]) hR (by decide) (by decide) rfl rfl dX5_init_9 fl_X5_9 (fun _ h => by cases h; exact ⟨rfl, rfl⟩) rfl rfl (by decide) ?_
  refine r_aload_n dX5_init_12 rfl ?_
  refine r_iconst dX5_init_13 ⟨by decide, by decide⟩ ?_
  refine n_putI (rest := [[]]) (by decide) (by decide) rfl dX5_init_14 fl_X5_15 (fun _ h => by cases h; rfl) (Or.inl rfl) ?_
  have z2 := z1.put0 (o := 64) (k := 4) (by decide)
  refine r_aload_n dX5_init_17 rfl ?_
  refine r_aload_n dX5_init_18 rfl ?_
  refine n_putR (row' := [4, 0, 0, 65]) (rest := [[]]) hR (by decide) (by decide) rfl rfl dX5_init_19 fl_X5_19 (fun _ h => by cases h; exact ⟨rfl, rfl⟩) rfl rfl (by decide) ?_
  refine r_aload_n dX5_init_22 rfl ?_
  refine r_aload_n dX5_init_23 rfl ?_
  refine n_putR (row' := [4, 7, 0, 65]) (rest := [[]]) hR (by decide) (by decide) rfl rfl dX5_init_24 fl_X5_23 (fun _ h => by cases h; exact ⟨rfl, rfl⟩) rfl rfl (by decide) ?_
  refine r_aload_n dX5_init_27 rfl ?_
  refine r_aload_n dX5_init_28 rfl ?_
  refine n_putR (row' := [4, 7, 40, 65]) (rest := [[]]) hR (by decide) (by decide) rfl rfl dX5_init_29 fl_X5_27 (fun _ h => by cases h; exact ⟨rfl, rfl⟩) rfl rfl (by decide) ?_
  exact r_vret dX5_init_32 rfl (hQ _ z2)
theorem i_X0_66 {Rp : List (List Nat)} {kB : Nat → Nat × Nat} {σ0 σ : StT} {Q : Int → ShT → StT → Prop} (hR : Rp.length = 66) (z0 : ZI σ0 σ 67) (hQ : ∀ σ' : StT, ZI σ0 σ' 69 → Q 0 (shN 69 (Rp ++ [[67, 68], [], []]) kB) σ') : WPm mX0_init [vR 66] (shN 67 (Rp ++ [[]]) kB) σ 2 96 Q := by
  refine r_entry (by decide) (Nat.le_of_ble_eq_true rfl) rfl rfl ?_
  refine r_aload_n dX0_init_0 rfl ?_
  refine r_objI dX0_init_1 wo_X0 (Nat.le_of_ble_eq_true rfl) (Nat.le_of_ble_eq_true rfl) ?_
  refine r_aload_n dX0_init_4 rfl ?_
  refine r_bipush dX0_init_5 (by decide +kernel) ⟨by decide, by decide⟩ ?_
  refine n_newI (m := 48) (kk := 1) (rest := []) (rest' := [[]]) hR rfl (by decide) rfl rfl dX0_init_7 (Or.inl ⟨rfl, rfl⟩) w_newI rfl (by decide) ?_
  have z1 := z0.push (by decide)
  refine n_putR (row' := [67]) (rest := [[]]) hR (by decide) (by decide) rfl rfl dX0_init_9 fl_X0_9 (fun _ h => by cases h; exact ⟨rfl, rfl⟩) rfl rfl (by decide) ?_
  refine r_aload_n dX0_init_12 rfl ?_
  refine r_bipush dX0_init_13 (by decide +kernel) ⟨by decide, by decide⟩ ?_
  refine n_newI (m := 48) (kk := 1) (rest := [[]]) (rest' := [[], []]) hR rfl (by decide) rfl rfl dX0_init_15 (Or.inl ⟨rfl, rfl⟩) w_newI rfl (by decide) ?_
  have z2 := z1.push (by decide)
  refine n_putR (row' := [67, 68]) (rest := [[], []]) hR (by decide) (by decide) rfl rfl dX0_init_17 fl_X0_15 (fun _ h => by cases h; exact ⟨rfl, rfl⟩) rfl rfl (by decide) ?_
  refine r_aload_n dX0_init_20 rfl ?_
  refine r_iconst dX0_init_21 ⟨by decide, by decide⟩ ?_
  refine n_putI (rest := [[], []]) (by decide) (by decide) rfl dX0_init_22 fl_X0_18 (fun _ h => by cases h; rfl) (Or.inl rfl) ?_
  have z3 := z2.put0 (o := 66) (k := 2) (by decide)
  refine r_aload_n dX0_init_25 rfl ?_
  refine r_iconst dX0_init_26 ⟨by decide, by decide⟩ ?_
  refine n_putI (rest := [[], []]) (by decide) (by decide) rfl dX0_init_27 fl_X0_22 (fun _ h => by cases h; rfl) (Or.inl rfl) ?_
  have z4 := z3.put0 (o := 66) (k := 3) (by decide)
  refine r_aload_n dX0_init_30 rfl ?_
  refine r_iconst dX0_init_31 ⟨by decide, by decide⟩ ?_
  refine n_putI (rest := [[], []]) (by decide) (by decide) rfl dX0_init_32 fl_X0_25 (fun _ h => by cases h; rfl) (Or.inl rfl) ?_
  have z5 := z4.put0 (o := 66) (k := 4) (by decide)
  refine r_aload_n dX0_init_35 rfl ?_
  refine r_iconst dX0_init_36 ⟨by decide, by decide⟩ ?_
  refine n_putI (rest := [[], []]) (by decide) (by decide) rfl dX0_init_37 fl_X0_28 (fun _ h => by cases h; rfl) (Or.inl rfl) ?_
  have z6 := z5.put0 (o := 66) (k := 5) (by decide)
  refine r_aload_n dX0_init_40 rfl ?_
  refine r_iconst dX0_init_41 ⟨by decide, by decide⟩ ?_
  refine n_putI (rest := [[], []]) (by decide) (by decide) rfl dX0_init_42 fl_X0_31 (fun _ h => by cases h; rfl) (Or.inl rfl) ?_
  have z7 := z6.put0 (o := 66) (k := 6) (by decide)
  refine r_aload_n dX0_init_45 rfl ?_
  refine r_iconst dX0_init_46 ⟨by decide, by decide⟩ ?_
  refine n_putI (rest := [[], []]) (by decide) (by decide) rfl dX0_init_47 fl_X0_34 (fun _ h => by cases h; rfl) (Or.inl rfl) ?_
  have z8 := z7.putx (o := 66) (k := 7) (v := 1) (by decide) (by decide)
  refine r_aload_n dX0_init_50 rfl ?_
  refine r_iconst dX0_init_51 ⟨by decide, by decide⟩ ?_
  refine n_putI (rest := [[], []]) (by decide) (by decide) rfl dX0_init_52 fl_X0_37 (fun _ h => by cases h; rfl) (Or.inl rfl) ?_
  have z9 := z8.putx (o := 66) (k := 8) (v := 1) (by decide) (by decide)
  exact r_vret dX0_init_55 rfl (hQ _ z9)
theorem i_X5_69 {Rp : List (List Nat)} {kB : Nat → Nat × Nat} {σ0 σ : StT} {Q : Int → ShT → StT → Prop} (hR : Rp.length = 69) (z0 : ZI σ0 σ 70) (hQ : ∀ σ' : StT, ZI σ0 σ' 71 → Q 0 (shN 71 (Rp ++ [[4, 7, 40, 70], []]) kB) σ') : WPm mX5_init [vR 69, vR 4, vR 7, vR 40] (shN 70 (Rp ++ [[]]) kB) σ 1 24 Q := by
  refine r_entry (by decide) (Nat.le_of_ble_eq_true rfl) rfl rfl ?_
  refine r_aload_n dX5_init_0 rfl ?_
  refine r_objI dX5_init_1 wo_X5 (Nat.le_of_ble_eq_true rfl) (Nat.le_of_ble_eq_true rfl) ?_
  refine r_aload_n dX5_init_4 rfl ?_
  refine r_bipush dX5_init_5 (by decide +kernel) ⟨by decide, by decide⟩ ?_
  refine n_newI (m := 24) (kk := 1) (rest := []) (rest' := [[]]) hR rfl (by decide) rfl rfl dX5_init_7 (Or.inl ⟨rfl, rfl⟩) w_newI rfl (by decide) ?_
  have z1 := z0.push (by decide)
  refine n_putR (row' := [0, 0, 0, 70]) (rest := [[]]) hR (by decide) (by decide) rfl rfl dX5_init_9 fl_X5_9 (fun _ h => by cases h; exact ⟨rfl, rfl⟩) rfl rfl (by decide) ?_
  refine r_aload_n dX5_init_12 rfl ?_
  refine r_iconst dX5_init_13 ⟨by decide, by decide⟩ ?_
  refine n_putI (rest := [[]]) (by decide) (by decide) rfl dX5_init_14 fl_X5_15 (fun _ h => by cases h; rfl) (Or.inl rfl) ?_
  have z2 := z1.put0 (o := 69) (k := 4) (by decide)
  refine r_aload_n dX5_init_17 rfl ?_
  refine r_aload_n dX5_init_18 rfl ?_
  refine n_putR (row' := [4, 0, 0, 70]) (rest := [[]]) hR (by decide) (by decide) rfl rfl dX5_init_19 fl_X5_19 (fun _ h => by cases h; exact ⟨rfl, rfl⟩) rfl rfl (by decide) ?_
  refine r_aload_n dX5_init_22 rfl ?_
  refine r_aload_n dX5_init_23 rfl ?_
  refine n_putR (row' := [4, 7, 0, 70]) (rest := [[]]) hR (by decide) (by decide) rfl rfl dX5_init_24 fl_X5_23 (fun _ h => by cases h; exact ⟨rfl, rfl⟩) rfl rfl (by decide) ?_
  refine r_aload_n dX5_init_27 rfl ?_
  refine r_aload_n dX5_init_28 rfl ?_
  refine n_putR (row' := [4, 7, 40, 70]) (rest := [[]]) hR (by decide) (by decide) rfl rfl dX5_init_29 fl_X5_27 (fun _ h => by cases h; exact ⟨rfl, rfl⟩) rfl rfl (by decide) ?_
  exact r_vret dX5_init_32 rfl (hQ _ z2)
theorem i_X0_71 {Rp : List (List Nat)} {kB : Nat → Nat × Nat} {σ0 σ : StT} {Q : Int → ShT → StT → Prop} (hR : Rp.length = 71) (z0 : ZI σ0 σ 72) (hQ : ∀ σ' : StT, ZI σ0 σ' 74 → Q 0 (shN 74 (Rp ++ [[72, 73], [], []]) kB) σ') : WPm mX0_init [vR 71] (shN 72 (Rp ++ [[]]) kB) σ 2 96 Q := by
  refine r_entry (by decide) (Nat.le_of_ble_eq_true rfl) rfl rfl ?_
  refine r_aload_n dX0_init_0 rfl ?_
  refine r_objI dX0_init_1 wo_X0 (Nat.le_of_ble_eq_true rfl) (Nat.le_of_ble_eq_true rfl) ?_
  refine r_aload_n dX0_init_4 rfl ?_
  refine r_bipush dX0_init_5 (by decide +kernel) ⟨by decide, by decide⟩ ?_
  refine n_newI (m := 48) (kk := 1) (rest := []) (rest' := [[]]) hR rfl (by decide) rfl rfl dX0_init_7 (Or.inl ⟨rfl, rfl⟩) w_newI rfl (by decide) ?_
  have z1 := z0.push (by decide)
  refine n_putR (row' := [72]) (rest := [[]]) hR (by decide) (by decide) rfl rfl dX0_init_9 fl_X0_9 (fun _ h => by cases h; exact ⟨rfl, rfl⟩) rfl rfl (by decide) ?_
  refine r_aload_n dX0_init_12 rfl ?_
  refine r_bipush dX0_init_13 (by decide +kernel) ⟨by decide, by decide⟩ ?_
  refine n_newI (m := 48) (kk := 1) (rest := [[]]) (rest' := [[], []]) hR rfl (by decide) rfl rfl dX0_init_15 (Or.inl ⟨rfl, rfl⟩) w_newI rfl (by decide) ?_
  have z2 := z1.push (by decide)
  refine n_putR (row' := [72, 73]) (rest := [[], []]) hR (by decide) (by decide) rfl rfl dX0_init_17 fl_X0_15 (fun _ h => by cases h; exact ⟨rfl, rfl⟩) rfl rfl (by decide) ?_
  refine r_aload_n dX0_init_20 rfl ?_
  refine r_iconst dX0_init_21 ⟨by decide, by decide⟩ ?_
  refine n_putI (rest := [[], []]) (by decide) (by decide) rfl dX0_init_22 fl_X0_18 (fun _ h => by cases h; rfl) (Or.inl rfl) ?_
  have z3 := z2.put0 (o := 71) (k := 2) (by decide)
  refine r_aload_n dX0_init_25 rfl ?_
  refine r_iconst dX0_init_26 ⟨by decide, by decide⟩ ?_
  refine n_putI (rest := [[], []]) (by decide) (by decide) rfl dX0_init_27 fl_X0_22 (fun _ h => by cases h; rfl) (Or.inl rfl) ?_
  have z4 := z3.put0 (o := 71) (k := 3) (by decide)
  refine r_aload_n dX0_init_30 rfl ?_
  refine r_iconst dX0_init_31 ⟨by decide, by decide⟩ ?_
  refine n_putI (rest := [[], []]) (by decide) (by decide) rfl dX0_init_32 fl_X0_25 (fun _ h => by cases h; rfl) (Or.inl rfl) ?_
  have z5 := z4.put0 (o := 71) (k := 4) (by decide)
  refine r_aload_n dX0_init_35 rfl ?_
  refine r_iconst dX0_init_36 ⟨by decide, by decide⟩ ?_
  refine n_putI (rest := [[], []]) (by decide) (by decide) rfl dX0_init_37 fl_X0_28 (fun _ h => by cases h; rfl) (Or.inl rfl) ?_
  have z6 := z5.put0 (o := 71) (k := 5) (by decide)
  refine r_aload_n dX0_init_40 rfl ?_
  refine r_iconst dX0_init_41 ⟨by decide, by decide⟩ ?_
  refine n_putI (rest := [[], []]) (by decide) (by decide) rfl dX0_init_42 fl_X0_31 (fun _ h => by cases h; rfl) (Or.inl rfl) ?_
  have z7 := z6.put0 (o := 71) (k := 6) (by decide)
  refine r_aload_n dX0_init_45 rfl ?_
  refine r_iconst dX0_init_46 ⟨by decide, by decide⟩ ?_
  refine n_putI (rest := [[], []]) (by decide) (by decide) rfl dX0_init_47 fl_X0_34 (fun _ h => by cases h; rfl) (Or.inl rfl) ?_
  have z8 := z7.putx (o := 71) (k := 7) (v := 1) (by decide) (by decide)
  refine r_aload_n dX0_init_50 rfl ?_
  refine r_iconst dX0_init_51 ⟨by decide, by decide⟩ ?_
  refine n_putI (rest := [[], []]) (by decide) (by decide) rfl dX0_init_52 fl_X0_37 (fun _ h => by cases h; rfl) (Or.inl rfl) ?_
  have z9 := z8.putx (o := 71) (k := 8) (v := 1) (by decide) (by decide)
  exact r_vret dX0_init_55 rfl (hQ _ z9)
theorem i_X5_74 {Rp : List (List Nat)} {kB : Nat → Nat × Nat} {σ0 σ : StT} {Q : Int → ShT → StT → Prop} (hR : Rp.length = 74) (z0 : ZI σ0 σ 75) (hQ : ∀ σ' : StT, ZI σ0 σ' 76 → Q 0 (shN 76 (Rp ++ [[4, 7, 40, 75], []]) kB) σ') : WPm mX5_init [vR 74, vR 4, vR 7, vR 40] (shN 75 (Rp ++ [[]]) kB) σ 1 24 Q := by
  refine r_entry (by decide) (Nat.le_of_ble_eq_true rfl) rfl rfl ?_
  refine r_aload_n dX5_init_0 rfl ?_
  refine r_objI dX5_init_1 wo_X5 (Nat.le_of_ble_eq_true rfl) (Nat.le_of_ble_eq_true rfl) ?_
  refine r_aload_n dX5_init_4 rfl ?_
  refine r_bipush dX5_init_5 (by decide +kernel) ⟨by decide, by decide⟩ ?_
  refine n_newI (m := 24) (kk := 1) (rest := []) (rest' := [[]]) hR rfl (by decide) rfl rfl dX5_init_7 (Or.inl ⟨rfl, rfl⟩) w_newI rfl (by decide) ?_
  have z1 := z0.push (by decide)
  refine n_putR (row' := [0, 0, 0, 75]) (rest := [[]]) hR (by decide) (by decide) rfl rfl dX5_init_9 fl_X5_9 (fun _ h => by cases h; exact ⟨rfl, rfl⟩) rfl rfl (by decide) ?_
  refine r_aload_n dX5_init_12 rfl ?_
  refine r_iconst dX5_init_13 ⟨by decide, by decide⟩ ?_
  refine n_putI (rest := [[]]) (by decide) (by decide) rfl dX5_init_14 fl_X5_15 (fun _ h => by cases h; rfl) (Or.inl rfl) ?_
  have z2 := z1.put0 (o := 74) (k := 4) (by decide)
  refine r_aload_n dX5_init_17 rfl ?_
  refine r_aload_n dX5_init_18 rfl ?_
  refine n_putR (row' := [4, 0, 0, 75]) (rest := [[]]) hR (by decide) (by decide) rfl rfl dX5_init_19 fl_X5_19 (fun _ h => by cases h; exact ⟨rfl, rfl⟩) rfl rfl (by decide) ?_
  refine r_aload_n dX5_init_22 rfl ?_
  refine r_aload_n dX5_init_23 rfl ?_
  refine n_putR (row' := [4, 7, 0, 75]) (rest := [[]]) hR (by decide) (by decide) rfl rfl dX5_init_24 fl_X5_23 (fun _ h => by cases h; exact ⟨rfl, rfl⟩) rfl rfl (by decide) ?_
  refine r_aload_n dX5_init_27 rfl ?_
  refine r_aload_n dX5_init_28 rfl ?_
  refine n_putR (row' := [4, 7, 40, 75]) (rest := [[]]) hR (by decide) (by decide) rfl rfl dX5_init_29 fl_X5_27 (fun _ h => by cases h; exact ⟨rfl, rfl⟩) rfl rfl (by decide) ?_
  exact r_vret dX5_init_32 rfl (hQ _ z2)
theorem i_X0_76 {Rp : List (List Nat)} {kB : Nat → Nat × Nat} {σ0 σ : StT} {Q : Int → ShT → StT → Prop} (hR : Rp.length = 76) (z0 : ZI σ0 σ 77) (hQ : ∀ σ' : StT, ZI σ0 σ' 79 → Q 0 (shN 79 (Rp ++ [[77, 78], [], []]) kB) σ') : WPm mX0_init [vR 76] (shN 77 (Rp ++ [[]]) kB) σ 2 96 Q := by
  refine r_entry (by decide) (Nat.le_of_ble_eq_true rfl) rfl rfl ?_
  refine r_aload_n dX0_init_0 rfl ?_
  refine r_objI dX0_init_1 wo_X0 (Nat.le_of_ble_eq_true rfl) (Nat.le_of_ble_eq_true rfl) ?_
  refine r_aload_n dX0_init_4 rfl ?_
  refine r_bipush dX0_init_5 (by decide +kernel) ⟨by decide, by decide⟩ ?_
  refine n_newI (m := 48) (kk := 1) (rest := []) (rest' := [[]]) hR rfl (by decide) rfl rfl dX0_init_7 (Or.inl ⟨rfl, rfl⟩) w_newI rfl (by decide) ?_
  have z1 := z0.push (by decide)
  refine n_putR (row' := [77]) (rest := [[]]) hR (by decide) (by decide) rfl rfl dX0_init_9 fl_X0_9 (fun _ h => by cases h; exact ⟨rfl, rfl⟩) rfl rfl (by decide) ?_
  refine r_aload_n dX0_init_12 rfl ?_
  refine r_bipush dX0_init_13 (by decide +kernel) ⟨by decide, by decide⟩ ?_
  refine n_newI (m := 48) (kk := 1) (rest := [[]]) (rest' := [[], []]) hR rfl (by decide) rfl rfl dX0_init_15 (Or.inl ⟨rfl, rfl⟩) w_newI rfl (by decide) ?_
  have z2 := z1.push (by decide)
  refine n_putR (row' := [77, 78]) (rest := [[], []]) hR (by decide) (by decide) rfl rfl dX0_init_17 fl_X0_15 (fun _ h => by cases h; exact ⟨rfl, rfl⟩) rfl rfl (by decide) ?_
  refine r_aload_n dX0_init_20 rfl ?_
  refine r_iconst dX0_init_21 ⟨by decide, by decide⟩ ?_
  refine n_putI (rest := [[], []]) (by decide) (by decide) rfl dX0_init_22 fl_X0_18 (fun _ h => by cases h; rfl) (Or.inl rfl) ?_
  have z3 := z2.put0 (o := 76) (k := 2) (by decide)
  refine r_aload_n dX0_init_25 rfl ?_
  refine r_iconst dX0_init_26 ⟨by decide, by decide⟩ ?_
  refine n_putI (rest := [[], []]) (by decide) (by decide) rfl dX0_init_27 fl_X0_22 (fun _ h => by cases h; rfl) (Or.inl rfl) ?_
  have z4 := z3.put0 (o := 76) (k := 3) (by decide)
  refine r_aload_n dX0_init_30 rfl ?_
  refine r_iconst dX0_init_31 ⟨by decide, by decide⟩ ?_
  refine n_putI (rest := [[], []]) (by decide) (by decide) rfl dX0_init_32 fl_X0_25 (fun _ h => by cases h; rfl) (Or.inl rfl) ?_
  have z5 := z4.put0 (o := 76) (k := 4) (by decide)
  refine r_aload_n dX0_init_35 rfl ?_
  refine r_iconst dX0_init_36 ⟨by decide, by decide⟩ ?_
  refine n_putI (rest := [[], []]) (by decide) (by decide) rfl dX0_init_37 fl_X0_28 (fun _ h => by cases h; rfl) (Or.inl rfl) ?_
  have z6 := z5.put0 (o := 76) (k := 5) (by decide)
  refine r_aload_n dX0_init_40 rfl ?_
  refine r_iconst dX0_init_41 ⟨by decide, by decide⟩ ?_
  refine n_putI (rest := [[], []]) (by decide) (by decide) rfl dX0_init_42 fl_X0_31 (fun _ h => by cases h; rfl) (Or.inl rfl) ?_
  have z7 := z6.put0 (o := 76) (k := 6) (by decide)
  refine r_aload_n dX0_init_45 rfl ?_
  refine r_iconst dX0_init_46 ⟨by decide, by decide⟩ ?_
  refine n_putI (rest := [[], []]) (by decide) (by decide) rfl dX0_init_47 fl_X0_34 (fun _ h => by cases h; rfl) (Or.inl rfl) ?_
  have z8 := z7.putx (o := 76) (k := 7) (v := 1) (by decide) (by decide)
  refine r_aload_n dX0_init_50 rfl ?_
  refine r_iconst dX0_init_51 ⟨by decide, by decide⟩ ?_
  refine n_putI (rest := [[], []]) (by decide) (by decide) rfl dX0_init_52 fl_X0_37 (fun _ h => by cases h; rfl) (Or.inl rfl) ?_
  have z9 := z8.putx (o := 76) (k := 8) (v := 1) (by decide) (by decide)
  exact r_vret dX0_init_55 rfl (hQ _ z9)
theorem i_X5_79 {Rp : List (List Nat)} {kB : Nat → Nat × Nat} {σ0 σ : StT} {Q : Int → ShT → StT → Prop} (hR : Rp.length = 79) (z0 : ZI σ0 σ 80) (hQ : ∀ σ' : StT, ZI σ0 σ' 81 → Q 0 (shN 81 (Rp ++ [[4, 7, 40, 80], []]) kB) σ') : WPm mX5_init [vR 79, vR 4, vR 7, vR 40] (shN 80 (Rp ++ [[]]) kB) σ 1 24 Q := by
  refine r_entry (by decide) (Nat.le_of_ble_eq_true rfl) rfl rfl ?_
  refine r_aload_n dX5_init_0 rfl ?_
  refine r_objI dX5_init_1 wo_X5 (Nat.le_of_ble_eq_true rfl) (Nat.le_of_ble_eq_true rfl) ?_
  refine r_aload_n dX5_init_4 rfl ?_
  refine r_bipush dX5_init_5 (by decide +kernel) ⟨by decide, by decide⟩ ?_
  refine n_newI (m := 24) (kk := 1) (rest := []) (rest' := [[]]) hR rfl (by decide) rfl rfl dX5_init_7 (Or.inl ⟨rfl, rfl⟩) w_newI rfl (by decide) ?_
  have z1 := z0.push (by decide)
  refine n_putR (row' := [0, 0, 0, 80]) (rest := [[]]) hR (by decide) (by decide) rfl rfl dX5_init_9 fl_X5_9 (fun _ h => by cases h; exact ⟨rfl, rfl⟩) rfl rfl (by decide) ?_
  refine r_aload_n dX5_init_12 rfl ?_
  refine r_iconst dX5_init_13 ⟨by decide, by decide⟩ ?_
  refine n_putI (rest := [[]]) (by decide) (by decide) rfl dX5_init_14 fl_X5_15 (fun _ h => by cases h; rfl) (Or.inl rfl) ?_
  have z2 := z1.put0 (o := 79) (k := 4) (by decide)
  refine r_aload_n dX5_init_17 rfl ?_
  refine r_aload_n dX5_init_18 rfl ?_
  refine n_putR (row' := [4, 0, 0, 80]) (rest := [[]]) hR (by decide) (by decide) rfl rfl dX5_init_19 fl_X5_19 (fun _ h => by cases h; exact ⟨rfl, rfl⟩) rfl rfl (by decide) ?_
  refine r_aload_n dX5_init_22 rfl ?_
  refine r_aload_n dX5_init_23 rfl ?_
  refine n_putR (row' := [4, 7, 0, 80]) (rest := [[]]) hR (by decide) (by decide) rfl rfl dX5_init_24 fl_X5_23 (fun _ h => by cases h; exact ⟨rfl, rfl⟩) rfl rfl (by decide) ?_
  refine r_aload_n dX5_init_27 rfl ?_
  refine r_aload_n dX5_init_28 rfl ?_
  refine n_putR (row' := [4, 7, 40, 80]) (rest := [[]]) hR (by decide) (by decide) rfl rfl dX5_init_29 fl_X5_27 (fun _ h => by cases h; exact ⟨rfl, rfl⟩) rfl rfl (by decide) ?_
  exact r_vret dX5_init_32 rfl (hQ _ z2)
theorem i_X0_81 {Rp : List (List Nat)} {kB : Nat → Nat × Nat} {σ0 σ : StT} {Q : Int → ShT → StT → Prop} (hR : Rp.length = 81) (z0 : ZI σ0 σ 82) (hQ : ∀ σ' : StT, ZI σ0 σ' 84 → Q 0 (shN 84 (Rp ++ [[82, 83], [], []]) kB) σ') : WPm mX0_init [vR 81] (shN 82 (Rp ++ [[]]) kB) σ 2 96 Q := by
  refine r_entry (by decide) (Nat.le_of_ble_eq_true rfl) rfl rfl ?_
  refine r_aload_n dX0_init_0 rfl ?_
  refine r_objI dX0_init_1 wo_X0 (Nat.le_of_ble_eq_true rfl) (Nat.le_of_ble_eq_true rfl) ?_
  refine r_aload_n dX0_init_4 rfl ?_
  refine r_bipush dX0_init_5 (by decide +kernel) ⟨by decide, by decide⟩ ?_
  refine n_newI (m := 48) (kk := 1) (rest := []) (rest' := [[]]) hR rfl (by decide) rfl rfl dX0_init_7 (Or.inl ⟨rfl, rfl⟩) w_newI rfl (by decide) ?_
  have z1 := z0.push (by decide)
  refine n_putR (row' := [82]) (rest := [[]]) hR (by decide) (by decide) rfl rfl dX0_init_9 fl_X0_9 (fun _ h => by cases h; exact ⟨rfl, rfl⟩) rfl rfl (by decide) ?_
  refine r_aload_n dX0_init_12 rfl ?_
  refine r_bipush dX0_init_13 (by decide +kernel) ⟨by decide, by decide⟩ ?_
  refine n_newI (m := 48) (kk := 1) (rest := [[]]) (rest' := [[], []]) hR rfl (by decide) rfl rfl dX0_init_15 (Or.inl ⟨rfl, rfl⟩) w_newI rfl (by decide) ?_
  have z2 := z1.push (by decide)
  refine n_putR (row' := [82, 83]) (rest := [[], []]) hR (by decide) (by decide) rfl rfl dX0_init_17 fl_X0_15 (fun _ h => by cases h; exact ⟨rfl, rfl⟩) rfl rfl (by decide) ?_
  refine r_aload_n dX0_init_20 rfl ?_
  refine r_iconst dX0_init_21 ⟨by decide, by decide⟩ ?_
  refine n_putI (rest := [[], []]) (by decide) (by decide) rfl dX0_init_22 fl_X0_18 (fun _ h => by cases h; rfl) (Or.inl rfl) ?_
  have z3 := z2.put0 (o := 81) (k := 2) (by decide)
  refine r_aload_n dX0_init_25 rfl ?_
  refine r_iconst dX0_init_26 ⟨by decide, by decide⟩ ?_
  refine n_putI (rest := [[], []]) (by decide) (by decide) rfl dX0_init_27 fl_X0_22 (fun _ h => by cases h; rfl) (Or.inl rfl) ?_
  have z4 := z3.put0 (o := 81) (k := 3) (by decide)
  refine r_aload_n dX0_init_30 rfl ?_
  refine r_iconst dX0_init_31 ⟨by decide, by decide⟩ ?_
  refine n_putI (rest := [[], []]) (by decide) (by decide) rfl dX0_init_32 fl_X0_25 (fun _ h => by cases h; rfl) (Or.inl rfl) ?_
  have z5 := z4.put0 (o := 81) (k := 4) (by decide)
  refine r_aload_n dX0_init_35 rfl ?_
  refine r_iconst dX0_init_36 ⟨by decide, by decide⟩ ?_
  refine n_putI (rest := [[], []]) (by decide) (by decide) rfl dX0_init_37 fl_X0_28 (fun _ h => by cases h; rfl) (Or.inl rfl) ?_
  have z6 := z5.put0 (o := 81) (k := 5) (by decide)
  refine r_aload_n dX0_init_40 rfl ?_
  refine r_iconst dX0_init_41 ⟨by decide, by decide⟩ ?_
  refine n_putI (rest := [[], []]) (by decide) (by decide) rfl dX0_init_42 fl_X0_31 (fun _ h => by cases h; rfl) (Or.inl rfl) ?_
  have z7 := z6.put0 (o := 81) (k := 6) (by decide)
  refine r_aload_n dX0_init_45 rfl ?_
  refine r_iconst dX0_init_46 ⟨by decide, by decide⟩ ?_
  refine n_putI (rest := [[], []]) (by decide) (by decide) rfl dX0_init_47 fl_X0_34 (fun _ h => by cases h; rfl) (Or.inl rfl) ?_
  have z8 := z7.putx (o := 81) (k := 7) (v := 1) (by decide) (by decide)
  refine r_aload_n dX0_init_50 rfl ?_
  refine r_iconst dX0_init_51 ⟨by decide, by decide⟩ ?_
  refine n_putI (rest := [[], []]) (by decide) (by decide) rfl dX0_init_52 fl_X0_37 (fun _ h => by cases h; rfl) (Or.inl rfl) ?_
  have z9 := z8.putx (o := 81) (k := 8) (v := 1) (by decide) (by decide)
  exact r_vret dX0_init_55 rfl (hQ _ z9)
theorem i_X5_84 {Rp : List (List Nat)} {kB : Nat → Nat × Nat} {σ0 σ : StT} {Q : Int → ShT → StT → Prop} (hR : Rp.length = 84) (z0 : ZI σ0 σ 85) (hQ : ∀ σ' : StT, ZI σ0 σ' 86 → Q 0 (shN 86 (Rp ++ [[4, 7, 40, 85], []]) kB) σ') : WPm mX5_init [vR 84, vR 4, vR 7, vR 40] (shN 85 (Rp ++ [[]]) kB) σ 1 24 Q := by
  refine r_entry (by decide) (Nat.le_of_ble_eq_true rfl) rfl rfl ?_
  refine r_aload_n dX5_init_0 rfl ?_
  refine r_objI dX5_init_1 wo_X5 (Nat.le_of_ble_eq_true rfl) (Nat.le_of_ble_eq_true rfl) ?_
  refine r_aload_n dX5_init_4 rfl ?_
  refine r_bipush dX5_init_5 (by decide +kernel) ⟨by decide, by decide⟩ ?_
  refine n_newI (m := 24) (kk := 1) (rest := []) (rest' := [[]]) hR rfl (by decide) rfl rfl dX5_init_7 (Or.inl ⟨rfl, rfl⟩) w_newI rfl (by decide) ?_
  have z1 := z0.push (by decide)
  refine n_putR (row' := [0, 0, 0, 85]) (rest := [[]]) hR (by decide) (by decide) rfl rfl dX5_init_9 fl_X5_9 (fun _ h => by cases h; exact ⟨rfl, rfl⟩) rfl rfl (by decide) ?_
  refine r_aload_n dX5_init_12 rfl ?_
  refine r_iconst dX5_init_13 ⟨by decide, by decide⟩ ?_
  refine n_putI (rest := [[]]) (by decide) (by decide) rfl dX5_init_14 fl_X5_15 (fun _ h => by cases h; rfl) (Or.inl rfl) ?_
  have z2 := z1.put0 (o := 84) (k := 4) (by decide)
  refine r_aload_n dX5_init_17 rfl ?_
  refine r_aload_n dX5_init_18 rfl ?_
  refine n_putR (row' := [4, 0, 0, 85]) (rest := [[]]) hR (by decide) (by decide) rfl rfl dX5_init_19 fl_X5_19 (fun _ h => by cases h; exact ⟨rfl, rfl⟩) rfl rfl (by decide) ?_
  refine r_aload_n dX5_init_22 rfl ?_
  refine r_aload_n dX5_init_23 rfl ?_
  refine n_putR (row' := [4, 7, 0, 85]) (rest := [[]]) hR (by decide) (by decide) rfl rfl dX5_init_24 fl_X5_23 (fun _ h => by cases h; exact ⟨rfl, rfl⟩) rfl rfl (by decide) ?_
  refine r_aload_n dX5_init_27 rfl ?_
  refine r_aload_n dX5_init_28 rfl ?_
  refine n_putR (row' := [4, 7, 40, 85]) (rest := [[]]) hR (by decide) (by decide) rfl rfl dX5_init_29 fl_X5_27 (fun _ h => by cases h; exact ⟨rfl, rfl⟩) rfl rfl (by decide) ?_
  exact r_vret dX5_init_32 rfl (hQ _ z2)
theorem i_X0_86 {Rp : List (List Nat)} {kB : Nat → Nat × Nat} {σ0 σ : StT} {Q : Int → ShT → StT → Prop} (hR : Rp.length = 86) (z0 : ZI σ0 σ 87) (hQ : ∀ σ' : StT, ZI σ0 σ' 89 → Q 0 (shN 89 (Rp ++ [[87, 88], [], []]) kB) σ') : WPm mX0_init [vR 86] (shN 87 (Rp ++ [[]]) kB) σ 2 96 Q := by
  refine r_entry (by decide) (Nat.le_of_ble_eq_true rfl) rfl rfl ?_
  refine r_aload_n dX0_init_0 rfl ?_
  refine r_objI dX0_init_1 wo_X0 (Nat.le_of_ble_eq_true rfl) (Nat.le_of_ble_eq_true rfl) ?_
  refine r_aload_n dX0_init_4 rfl ?_
  refine r_bipush dX0_init_5 (by decide +kernel) ⟨by decide, by decide⟩ ?_
  refine n_newI (m := 48) (kk := 1) (rest := []) (rest' := [[]]) hR rfl (by decide) rfl rfl dX0_init_7 (Or.inl ⟨rfl, rfl⟩) w_newI rfl (by decide) ?_
  have z1 := z0.push (by decide)
  refine n_putR (row' := [87]) (rest := [[]]) hR (by decide) (by decide) rfl rfl dX0_init_9 fl_X0_9 (fun _ h => by cases h; exact ⟨rfl, rfl⟩) rfl rfl (by decide) ?_
  refine r_aload_n dX0_init_12 rfl ?_
  refine r_bipush dX0_init_13 (by decide +kernel) ⟨by decide, by decide⟩ ?_
  refine n_newI (m := 48) (kk := 1) (rest := [[]]) (rest' := [[], []]) hR rfl (by decide) rfl rfl dX0_init_15 (Or.inl ⟨rfl, rfl⟩) w_newI rfl (by decide) ?_
  have z2 := z1.push (by decide)
  refine n_putR (row' := [87, 88]) (rest := [[], []]) hR (by decide) (by decide) rfl rfl dX0_init_17 fl_X0_15 (fun _ h => by cases h; exact ⟨rfl, rfl⟩) rfl rfl (by decide) ?_
  refine r_aload_n dX0_init_20 rfl ?_
  refine r_iconst dX0_init_21 ⟨by decide, by decide⟩ ?_
  refine n_putI (rest := [[], []]) (by decide) (by decide) rfl dX0_init_22 fl_X0_18 (fun _ h => by cases h; rfl) (Or.inl rfl) ?_
  have z3 := z2.put0 (o := 86) (k := 2) (by decide)
  refine r_aload_n dX0_init_25 rfl ?_
  refine r_iconst dX0_init_26 ⟨by decide, by decide⟩ ?_
  refine n_putI (rest := [[], []]) (by decide) (by decide) rfl dX0_init_27 fl_X0_22 (fun _ h => by cases h; rfl) (Or.inl rfl) ?_
  have z4 := z3.put0 (o := 86) (k := 3) (by decide)
  refine r_aload_n dX0_init_30 rfl ?_
  refine r_iconst dX0_init_31 ⟨by decide, by decide⟩ ?_
  refine n_putI (rest := [[], []]) (by decide) (by decide) rfl dX0_init_32 fl_X0_25 (fun _ h => by cases h; rfl) (Or.inl rfl) ?_
  have z5 := z4.put0 (o := 86) (k := 4) (by decide)
  refine r_aload_n dX0_init_35 rfl ?_
  refine r_iconst dX0_init_36 ⟨by decide, by decide⟩ ?_
  refine n_putI (rest := [[], []]) (by decide) (by decide) rfl dX0_init_37 fl_X0_28 (fun _ h => by cases h; rfl) (Or.inl rfl) ?_
  have z6 := z5.put0 (o := 86) (k := 5) (by decide)
  refine r_aload_n dX0_init_40 rfl ?_
  refine r_iconst dX0_init_41 ⟨by decide, by decide⟩ ?_
  refine n_putI (rest := [[], []]) (by decide) (by decide) rfl dX0_init_42 fl_X0_31 (fun _ h => by cases h; rfl) (Or.inl rfl) ?_
  have z7 := z6.put0 (o := 86) (k := 6) (by decide)
  refine r_aload_n dX0_init_45 rfl ?_
  refine r_iconst dX0_init_46 ⟨by decide, by decide⟩ ?_
  refine n_putI (rest := [[], []]) (by decide) (by decide) rfl dX0_init_47 fl_X0_34 (fun _ h => by cases h; rfl) (Or.inl rfl) ?_
  have z8 := z7.putx (o := 86) (k := 7) (v := 1) (by decide) (by decide)
  refine r_aload_n dX0_init_50 rfl ?_
  refine r_iconst dX0_init_51 ⟨by decide, by decide⟩ ?_
  refine n_putI (rest := [[], []]) (by decide) (by decide) rfl dX0_init_52 fl_X0_37 (fun _ h => by cases h; rfl) (Or.inl rfl) ?_
  have z9 := z8.putx (o := 86) (k := 8) (v := 1) (by decide) (by decide)
  exact r_vret dX0_init_55 rfl (hQ _ z9)
theorem i_X5_89 {Rp : List (List Nat)} {kB : Nat → Nat × Nat} {σ0 σ : StT} {Q : Int → ShT → StT → Prop} (hR : Rp.length = 89) (z0 : ZI σ0 σ 90) (hQ : ∀ σ' : StT, ZI σ0 σ' 91 → Q 0 (shN 91 (Rp ++ [[4, 7, 40, 90], []]) kB) σ') : WPm mX5_init [vR 89, vR 4, vR 7, vR 40] (shN 90 (Rp ++ [[]]) kB) σ 1 24 Q := by
  refine r_entry (by decide) (Nat.le_of_ble_eq_true rfl) rfl rfl ?_
  refine r_aload_n dX5_init_0 rfl ?_
  refine r_objI dX5_init_1 wo_X5 (Nat.le_of_ble_eq_true rfl) (Nat.le_of_ble_eq_true rfl) ?_
  refine r_aload_n dX5_init_4 rfl ?_
  refine r_bipush dX5_init_5 (by decide +kernel) ⟨by decide, by decide⟩ ?_
  refine n_newI (m := 24) (kk := 1) (rest := []) (rest' := [[]]) hR rfl (by decide) rfl rfl dX5_init_7 (Or.inl ⟨rfl, rfl⟩) w_newI rfl (by decide) ?_
  have z1 := z0.push (by decide)
  refine n_putR (row' := [0, 0, 0, 90]) (rest := [[]]) hR (by decide) (by decide) rfl rfl dX5_init_9 fl_X5_9 (fun _ h => by cases h; exact ⟨rfl, rfl⟩) rfl rfl (by decide) ?_
  refine r_aload_n dX5_init_12 rfl ?_
  refine r_iconst dX5_init_13 ⟨by decide, by decide⟩ ?_
  refine n_putI (rest := [[]]) (by decide) (by decide) rfl dX5_init_14 fl_X5_15 (fun _ h => by cases h; rfl) (Or.inl rfl) ?_
  have z2 := z1.put0 (o := 89) (k := 4) (by decide)
  refine r_aload_n dX5_init_17 rfl ?_
  refine r_aload_n dX5_init_18 rfl ?_
  refine n_putR (row' := [4, 0, 0, 90]) (rest := [[]]) hR (by decide) (by decide) rfl rfl dX5_init_19 fl_X5_19 (fun _ h => by cases h; exact ⟨rfl, rfl⟩) rfl rfl (by decide) ?_
  refine r_aload_n dX5_init_22 rfl ?_
  refine r_aload_n dX5_init_23 rfl ?_
  refine n_putR (row' := [4, 7, 0, 90]) (rest := [[]]) hR (by decide) (by decide) rfl rfl dX5_init_24 fl_X5_23 (fun _ h => by cases h; exact ⟨rfl, rfl⟩) rfl rfl (by decide) ?_
  refine r_aload_n dX5_init_27 rfl ?_
  refine r_aload_n dX5_init_28 rfl ?_
  refine n_putR (row' := [4, 7, 40, 90]) (rest := [[]]) hR (by decide) (by decide) rfl rfl dX5_init_29 fl_X5_27 (fun _ h => by cases h; exact ⟨rfl, rfl⟩) rfl rfl (by decide) ?_
  exact r_vret dX5_init_32 rfl (hQ _ z2)
theorem i_X0_91 {Rp : List (List Nat)} {kB : Nat → Nat × Nat} {σ0 σ : StT} {Q : Int → ShT → StT → Prop} (hR : Rp.length = 91) (z0 : ZI σ0 σ 92) (hQ : ∀ σ' : StT, ZI σ0 σ' 94 → Q 0 (shN 94 (Rp ++ [[92, 93], [], []]) kB) σ') : WPm mX0_init [vR 91] (shN 92 (Rp ++ [[]]) kB) σ 2 96 Q := by
  refine r_entry (by decide) (Nat.le_of_ble_eq_true rfl) rfl rfl ?_
  refine r_aload_n dX0_init_0 rfl ?_
  refine r_objI dX0_init_1 wo_X0 (Nat.le_of_ble_eq_true rfl) (Nat.le_of_ble_eq_true rfl) ?_
  refine r_aload_n dX0_init_4 rfl ?_
  refine r_bipush dX0_init_5 (by decide +kernel) ⟨by decide, by decide⟩ ?_
  refine n_newI (m := 48) (kk := 1) (rest := []) (rest' := [[]]) hR rfl (by decide) rfl rfl dX0_init_7 (Or.inl ⟨rfl, rfl⟩) w_newI rfl (by decide) ?_
  have z1 := z0.push (by decide)
  refine n_putR (row' := [92]) (rest := [[]]) hR (by decide) (by decide) rfl rfl dX0_init_9 fl_X0_9 (fun _ h => by cases h; exact ⟨rfl, rfl⟩) rfl rfl (by decide) ?_
  refine r_aload_n dX0_init_12 rfl ?_
  refine r_bipush dX0_init_13 (by decide +kernel) ⟨by decide, by decide⟩ ?_
  refine n_newI (m := 48) (kk := 1) (rest := [[]]) (rest' := [[], []]) hR rfl (by decide) rfl rfl dX0_init_15 (Or.inl ⟨rfl, rfl⟩) w_newI rfl (by decide) ?_
  have z2 := z1.push (by decide)
  refine n_putR (row' := [92, 93]) (rest := [[], []]) hR (by decide) (by decide) rfl rfl dX0_init_17 fl_X0_15 (fun _ h => by cases h; exact ⟨rfl, rfl⟩) rfl rfl (by decide) ?_
  refine r_aload_n dX0_init_20 rfl ?_
  refine r_iconst dX0_init_21 ⟨by decide, by decide⟩ ?_
  refine n_putI (rest := [[], []]) (by decide) (by decide) rfl dX0_init_22 fl_X0_18 (fun _ h => by cases h; rfl) (Or.inl rfl) ?_
  have z3 := z2.put0 (o := 91) (k := 2) (by decide)
  refine r_aload_n dX0_init_25 rfl ?_
  refine r_iconst dX0_init_26 ⟨by decide, by decide⟩ ?_
  refine n_putI (rest := [[], []]) (by decide) (by decide) rfl dX0_init_27 fl_X0_22 (fun _ h => by cases h; rfl) (Or.inl rfl) ?_
  have z4 := z3.put0 (o := 91) (k := 3) (by decide)
  refine r_aload_n dX0_init_30 rfl ?_
  refine r_iconst dX0_init_31 ⟨by decide, by decide⟩ ?_
  refine n_putI (rest := [[], []]) (by decide) (by decide) rfl dX0_init_32 fl_X0_25 (fun _ h => by cases h; rfl) (Or.inl rfl) ?_
  have z5 := z4.put0 (o := 91) (k := 4) (by decide)
  refine r_aload_n dX0_init_35 rfl ?_
  refine r_iconst dX0_init_36 ⟨by decide, by decide⟩ ?_
  refine n_putI (rest := [[], []]) (by decide) (by decide) rfl dX0_init_37 fl_X0_28 (fun _ h => by cases h; rfl) (Or.inl rfl) ?_
  have z6 := z5.put0 (o := 91) (k := 5) (by decide)
  refine r_aload_n dX0_init_40 rfl ?_
  refine r_iconst dX0_init_41 ⟨by decide, by decide⟩ ?_
  refine n_putI (rest := [[], []]) (by decide) (by decide) rfl dX0_init_42 fl_X0_31 (fun _ h => by cases h; rfl) (Or.inl rfl) ?_
  have z7 := z6.put0 (o := 91) (k := 6) (by decide)
  refine r_aload_n dX0_init_45 rfl ?_
  refine r_iconst dX0_init_46 ⟨by decide, by decide⟩ ?_
  refine n_putI (rest := [[], []]) (by decide) (by decide) rfl dX0_init_47 fl_X0_34 (fun _ h => by cases h; rfl) (Or.inl rfl) ?_
  have z8 := z7.putx (o := 91) (k := 7) (v := 1) (by decide) (by decide)
  refine r_aload_n dX0_init_50 rfl ?_
  refine r_iconst dX0_init_51 ⟨by decide, by decide⟩ ?_
  refine n_putI (rest := [[], []]) (by decide) (by decide) rfl dX0_init_52 fl_X0_37 (fun _ h => by cases h; rfl) (Or.inl rfl) ?_
  have z9 := z8.putx (o := 91) (k := 8) (v := 1) (by decide) (by decide)
  exact r_vret dX0_init_55 rfl (hQ _ z9)
theorem i_X5_94 {Rp : List (List Nat)} {kB : Nat → Nat × Nat} {σ0 σ : StT} {Q : Int → ShT → StT → Prop} (hR : Rp.length = 94) (z0 : ZI σ0 σ 95) (hQ : ∀ σ' : StT, ZI σ0 σ' 96 → Q 0 (shN 96 (Rp ++ [[4, 7, 40, 95], []]) kB) σ') : WPm mX5_init [vR 94, vR 4, vR 7, vR 40] (shN 95 (Rp ++ [[]]) kB) σ 1 24 Q := by
  refine r_entry (by decide) (Nat.le_of_ble_eq_true rfl) rfl rfl ?_
  refine r_aload_n dX5_init_0 rfl ?_
  refine r_objI dX5_init_1 wo_X5 (Nat.le_of_ble_eq_true rfl) (Nat.le_of_ble_eq_true rfl) ?_
  refine r_aload_n dX5_init_4 rfl ?_
  refine r_bipush dX5_init_5 (by decide +kernel) ⟨by decide, by decide⟩ ?_
  refine n_newI (m := 24) (kk := 1) (rest := []) (rest' := [[]]) hR rfl (by decide) rfl rfl dX5_init_7 (Or.inl ⟨rfl, rfl⟩) w_newI rfl (by decide) ?_
  have z1 := z0.push (by decide)
  refine n_putR (row' := [0, 0, 0, 95]) (rest := [[]]) hR (by decide) (by decide) rfl rfl dX5_init_9 fl_X5_9 (fun _ h => by cases h; exact ⟨rfl, rfl⟩) rfl rfl (by decide) ?_
  refine r_aload_n dX5_init_12 rfl ?_
  refine r_iconst dX5_init_13 ⟨by decide, by decide⟩ ?_
  refine n_putI (rest := [[]]) (by decide) (by decide) rfl dX5_init_14 fl_X5_15 (fun _ h => by cases h; rfl) (Or.inl rfl) ?_
  have z2 := z1.put0 (o := 94) (k := 4) (by decide)
  refine r_aload_n dX5_init_17 rfl ?_
  refine r_aload_n dX5_init_18 rfl ?_
  refine n_putR (row' := [4, 0, 0, 95]) (rest := [[]]) hR (by decide) (by decide) rfl rfl dX5_init_19 fl_X5_19 (fun _ h => by cases h; exact ⟨rfl, rfl⟩) rfl rfl (by decide) ?_
  refine r_aload_n dX5_init_22 rfl ?_
  refine r_aload_n dX5_init_23 rfl ?_
  refine n_putR (row' := [4, 7, 0, 95]) (rest := [[]]) hR (by decide) (by decide) rfl rfl dX5_init_24 fl_X5_23 (fun _ h => by cases h; exact ⟨rfl, rfl⟩) rfl rfl (by decide) ?_
  refine r_aload_n dX5_init_27 rfl ?_
  refine r_aload_n dX5_init_28 rfl ?_
  refine n_putR (row' := [4, 7, 40, 95]) (rest := [[]]) hR (by decide) (by decide) rfl rfl dX5_init_29 fl_X5_27 (fun _ h => by cases h; exact ⟨rfl, rfl⟩) rfl rfl (by decide) ?_
  exact r_vret dX5_init_32 rfl (hQ _ z2)
theorem i_X0_96 {Rp : List (List Nat)} {kB : Nat → Nat × Nat} {σ0 σ : StT} {Q : Int → ShT → StT → Prop} (hR : Rp.length = 96) (z0 : ZI σ0 σ 97) (hQ : ∀ σ' : StT, ZI σ0 σ' 99 → Q 0 (shN 99 (Rp ++ [[97, 98], [], []]) kB) σ') : WPm mX0_init [vR 96] (shN 97 (Rp ++ [[]]) kB) σ 2 96 Q := by
  refine r_entry (by decide) (Nat.le_of_ble_eq_true rfl) rfl rfl ?_
  refine r_aload_n dX0_init_0 rfl ?_
  refine r_objI dX0_init_1 wo_X0 (Nat.le_of_ble_eq_true rfl) (Nat.le_of_ble_eq_true rfl) ?_
  refine r_aload_n dX0_init_4 rfl ?_
  refine r_bipush dX0_init_5 (by decide +kernel) ⟨by decide, by decide⟩ ?_
  refine n_newI (m := 48) (kk := 1) (rest := []) (rest' := [[]]) hR rfl (by decide) rfl rfl dX0_init_7 (Or.inl ⟨rfl, rfl⟩) w_newI rfl (by decide) ?_
  have z1 := z0.push (by decide)
  refine n_putR (row' := [97]) (rest := [[]]) hR (by decide) (by decide) rfl rfl dX0_init_9 fl_X0_9 (fun _ h => by cases h; exact ⟨rfl, rfl⟩) rfl rfl (by decide) ?_
  refine r_aload_n dX0_init_12 rfl ?_
  refine r_bipush dX0_init_13 (by decide +kernel) ⟨by decide, by decide⟩ ?_
  refine n_newI (m := 48) (kk := 1) (rest := [[]]) (rest' := [[], []]) hR rfl (by decide) rfl rfl dX0_init_15 (Or.inl ⟨rfl, rfl⟩) w_newI rfl (by decide) ?_
  have z2 := z1.push (by decide)
  refine n_putR (row' := [97, 98]) (rest := [[], []]) hR (by decide) (by decide) rfl rfl dX0_init_17 fl_X0_15 (fun _ h => by cases h; exact ⟨rfl, rfl⟩) rfl rfl (by decide) ?_
  refine r_aload_n dX0_init_20 rfl ?_
  refine r_iconst dX0_init_21 ⟨by decide, by decide⟩ ?_
  refine n_putI (rest := [[], []]) (by decide) (by decide) rfl dX0_init_22 fl_X0_18 (fun _ h => by cases h; rfl) (Or.inl rfl) ?_
  have z3 := z2.put0 (o := 96) (k := 2) (by decide)
  refine r_aload_n dX0_init_25 rfl ?_
  refine r_iconst dX0_init_26 ⟨by decide, by decide⟩ ?_
  refine n_putI (rest := [[], []]) (by decide) (by decide) rfl dX0_init_27 fl_X0_22 (fun _ h => by cases h; rfl) (Or.inl rfl) ?_
  have z4 := z3.put0 (o := 96) (k := 3) (by decide)
  refine r_aload_n dX0_init_30 rfl ?_
  refine r_iconst dX0_init_31 ⟨by decide, by decide⟩ ?_
  refine n_putI (rest := [[], []]) (by decide) (by decide) rfl dX0_init_32 fl_X0_25 (fun _ h => by cases h; rfl) (Or.inl rfl) ?_
  have z5 := z4.put0 (o := 96) (k := 4) (by decide)
  refine r_aload_n dX0_init_35 rfl ?_
  refine r_iconst dX0_init_36 ⟨by decide, by decide⟩ ?_
  refine n_putI (rest := [[], []]) (by decide) (by decide) rfl dX0_init_37 fl_X0_28 (fun _ h => by cases h; rfl) (Or.inl rfl) ?_
  have z6 := z5.put0 (o := 96) (k := 5) (by decide)
  refine r_aload_n dX0_init_40 rfl ?_
  refine r_iconst dX0_init_41 ⟨by decide, by decide⟩ ?_
  refine n_putI (rest := [[], []]) (by decide) (by decide) rfl dX0_init_42 fl_X0_31 (fun _ h => by cases h; rfl) (Or.inl rfl) ?_
  have z7 := z6.put0 (o := 96) (k := 6) (by decide)
  refine r_aload_n dX0_init_45 rfl ?_
  refine r_iconst dX0_init_46 ⟨by decide, by decide⟩ ?_
  refine n_putI (rest := [[], []]) (by decide) (by decide) rfl dX0_init_47 fl_X0_34 (fun _ h => by cases h; rfl) (Or.inl rfl) ?_
  have z8 := z7.putx (o := 96) (k := 7) (v := 1) (by decide) (by decide)
  refine r_aload_n dX0_init_50 rfl ?_
  refine r_iconst dX0_init_51 ⟨by decide, by decide⟩ ?_
  refine n_putI (rest := [[], []]) (by decide) (by decide) rfl dX0_init_52 fl_X0_37 (fun _ h => by cases h; rfl) (Or.inl rfl) ?_
  have z9 := z8.putx (o := 96) (k := 8) (v := 1) (by decide) (by decide)
  exact r_vret dX0_init_55 rfl (hQ _ z9)
theorem i_X5_99 {Rp : List (List Nat)} {kB : Nat → Nat × Nat} {σ0 σ : StT} {Q : Int → ShT → StT → Prop} (hR : Rp.length = 99) (z0 : ZI σ0 σ 100) (hQ : ∀ σ' : StT, ZI σ0 σ' 101 → Q 0 (shN 101 (Rp ++ [[4, 7, 40, 100], []]) kB) σ') : WPm mX5_init [vR 99, vR 4, vR 7, vR 40] (shN 100 (Rp ++ [[]]) kB) σ 1 24 Q := by
  refine r_entry (by decide) (Nat.le_of_ble_eq_true rfl) rfl rfl ?_
  refine r_aload_n dX5_init_0 rfl ?_
  refine r_objI dX5_init_1 wo_X5 (Nat.le_of_ble_eq_true rfl) (Nat.le_of_ble_eq_true rfl) ?_
  refine r_aload_n dX5_init_4 rfl ?_
  refine r_bipush dX5_init_5 (by decide +kernel) ⟨by decide, by decide⟩ ?_
  refine n_newI (m := 24) (kk := 1) (rest := []) (rest' := [[]]) hR rfl (by decide) rfl rfl dX5_init_7 (Or.inl ⟨rfl, rfl⟩) w_newI rfl (by decide) ?_
  have z1 := z0.push (by decide)
  refine n_putR (row' := [0, 0, 0, 100]) (rest := [[]]) hR (by decide) (by decide) rfl rfl dX5_init_9 fl_X5_9 (fun _ h => by cases h; exact ⟨rfl, rfl⟩) rfl rfl (by decide) ?_
  refine r_aload_n dX5_init_12 rfl ?_
  refine r_iconst dX5_init_13 ⟨by decide, by decide⟩ ?_
  refine n_putI (rest := [[]]) (by decide) (by decide) rfl dX5_init_14 fl_X5_15 (fun _ h => by cases h; rfl) (Or.inl rfl) ?_
  have z2 := z1.put0 (o := 99) (k := 4) (by decide)
  refine r_aload_n dX5_init_17 rfl ?_
  refine r_aload_n dX5_init_18 rfl ?_
  refine n_putR (row' := [4, 0, 0, 100]) (rest := [[]]) hR (by decide) (by decide) rfl rfl dX5_init_19 fl_X5_19 (fun _ h => by cases h; exact ⟨rfl, rfl⟩) rfl rfl (by decide) ?_
  refine r_aload_n dX5_init_22 rfl ?_
  refine r_aload_n dX5_init_23 rfl ?_
  refine n_putR (row' := [4, 7, 0, 100]) (rest := [[]]) hR (by decide) (by decide) rfl rfl dX5_init_24 fl_X5_23 (fun _ h => by cases h; exact ⟨rfl, rfl⟩) rfl rfl (by decide) ?_
  refine r_aload_n dX5_init_27 rfl ?_
  refine r_aload_n dX5_init_28 rfl ?_
  refine n_putR (row' := [4, 7, 40, 100]) (rest := [[]]) hR (by decide) (by decide) rfl rfl dX5_init_29 fl_X5_27 (fun _ h => by cases h; exact ⟨rfl, rfl⟩) rfl rfl (by decide) ?_
  exact r_vret dX5_init_32 rfl (hQ _ z2)
theorem i_X0_101 {Rp : List (List Nat)} {kB : Nat → Nat × Nat} {σ0 σ : StT} {Q : Int → ShT → StT → Prop} (hR : Rp.length = 101) (z0 : ZI σ0 σ 102) (hQ : ∀ σ' : StT, ZI σ0 σ' 104 → Q 0 (shN 104 (Rp ++ [[102, 103], [], []]) kB) σ') : WPm mX0_init [vR 101] (shN 102 (Rp ++ [[]]) kB) σ 2 96 Q := by
  refine r_entry (by decide) (Nat.le_of_ble_eq_true rfl) rfl rfl ?_
  refine r_aload_n dX0_init_0 rfl ?_
  refine r_objI dX0_init_1 wo_X0 (Nat.le_of_ble_eq_true rfl) (Nat.le_of_ble_eq_true rfl) ?_
  refine r_aload_n dX0_init_4 rfl ?_
  refine r_bipush dX0_init_5 (by decide +kernel) ⟨by decide, by decide⟩ ?_
  refine n_newI (m := 48) (kk := 1) (rest := []) (rest' := [[]]) hR rfl (by decide) rfl rfl dX0_init_7 (Or.inl ⟨rfl, rfl⟩) w_newI rfl (by decide) ?_
  have z1 := z0.push (by decide)
  refine n_putR (row' := [102]) (rest := [[]]) hR (by decide) (by decide) rfl rfl dX0_init_9 fl_X0_9 (fun _ h => by cases h; exact ⟨rfl, rfl⟩) rfl rfl (by decide) ?_
  refine r_aload_n dX0_init_12 rfl ?_
  refine r_bipush dX0_init_13 (by decide +kernel) ⟨by decide, by decide⟩ ?_
  refine n_newI (m := 48) (kk := 1) (rest := [[]]) (rest' := [[], []]) hR rfl (by decide) rfl rfl dX0_init_15 (Or.inl ⟨rfl, rfl⟩) w_newI rfl (by decide) ?_
  have z2 := z1.push (by decide)
  refine n_putR (row' := [102, 103]) (rest := [[], []]) hR (by decide) (by decide) rfl rfl dX0_init_17 fl_X0_15 (fun _ h => by cases h; exact ⟨rfl, rfl⟩) rfl rfl (by decide) ?_
  refine r_aload_n dX0_init_20 rfl ?_
  refine r_iconst dX0_init_21 ⟨by decide, by decide⟩ ?_
  refine n_putI (rest := [[], []]) (by decide) (by decide) rfl dX0_init_22 fl_X0_18 (fun _ h => by cases h; rfl) (Or.inl rfl) ?_
  have z3 := z2.put0 (o := 101) (k := 2) (by decide)
  refine r_aload_n dX0_init_25 rfl ?_
  refine r_iconst dX0_init_26 ⟨by decide, by decide⟩ ?_
  refine n_putI (rest := [[], []]) (by decide) (by decide) rfl dX0_init_27 fl_X0_22 (fun _ h => by cases h; rfl) (Or.inl rfl) ?_
  have z4 := z3.put0 (o := 101) (k := 3) (by decide)
  refine r_aload_n dX0_init_30 rfl ?_
  refine r_iconst dX0_init_31 ⟨by decide, by decide⟩ ?_
  refine n_putI (rest := [[], []]) (by decide) (by decide) rfl dX0_init_32 fl_X0_25 (fun _ h => by cases h; rfl) (Or.inl rfl) ?_
  have z5 := z4.put0 (o := 101) (k := 4) (by decide)
  refine r_aload_n dX0_init_35 rfl ?_
  refine r_iconst dX0_init_36 ⟨by decide, by decide⟩ ?_
  refine n_putI (rest := [[], []]) (by decide) (by decide) rfl dX0_init_37 fl_X0_28 (fun _ h => by cases h; rfl) (Or.inl rfl) ?_
  have z6 := z5.put0 (o := 101) (k := 5) (by decide)
  refine r_aload_n dX0_init_40 rfl ?_
  refine r_iconst dX0_init_41 ⟨by decide, by decide⟩ ?_
  refine n_putI (rest := [[], []]) (by decide) (by decide) rfl dX0_init_42 fl_X0_31 (fun _ h => by cases h; rfl) (Or.inl rfl) ?_
  have z7 := z6.put0 (o := 101) (k := 6) (by decide)
  refine r_aload_n dX0_init_45 rfl ?_
  refine r_iconst dX0_init_46 ⟨by decide, by decide⟩ ?_
  refine n_putI (rest := [[], []]) (by decide) (by decide) rfl dX0_init_47 fl_X0_34 (fun _ h => by cases h; rfl) (Or.inl rfl) ?_
  have z8 := z7.putx (o := 101) (k := 7) (v := 1) (by decide) (by decide)
  refine r_aload_n dX0_init_50 rfl ?_
  refine r_iconst dX0_init_51 ⟨by decide, by decide⟩ ?_
  refine n_putI (rest := [[], []]) (by decide) (by decide) rfl dX0_init_52 fl_X0_37 (fun _ h => by cases h; rfl) (Or.inl rfl) ?_
  have z9 := z8.putx (o := 101) (k := 8) (v := 1) (by decide) (by decide)
  exact r_vret dX0_init_55 rfl (hQ _ z9)
theorem i_X5_104 {Rp : List (List Nat)} {kB : Nat → Nat × Nat} {σ0 σ : StT} {Q : Int → ShT → StT → Prop} (hR : Rp.length = 104) (z0 : ZI σ0 σ 105) (hQ : ∀ σ' : StT, ZI σ0 σ' 106 → Q 0 (shN 106 (Rp ++ [[4, 7, 40, 105], []]) kB) σ') : WPm mX5_init [vR 104, vR 4, vR 7, vR 40] (shN 105 (Rp ++ [[]]) kB) σ 1 24 Q := by
  refine r_entry (by decide) (Nat.le_of_ble_eq_true rfl) rfl rfl ?_
  refine r_aload_n dX5_init_0 rfl ?_
  refine r_objI dX5_init_1 wo_X5 (Nat.le_of_ble_eq_true rfl) (Nat.le_of_ble_eq_true rfl) ?_
  refine r_aload_n dX5_init_4 rfl ?_
  refine r_bipush dX5_init_5 (by decide +kernel) ⟨by decide, by decide⟩ ?_
  refine n_newI (m := 24) (kk := 1) (rest := []) (rest' := [[]]) hR rfl (by decide) rfl rfl dX5_init_7 (Or.inl ⟨rfl, rfl⟩) w_newI rfl (by decide) ?_
  have z1 := z0.push (by decide)
  refine n_putR (row' := [0, 0, 0, 105]) (rest := [[]]) hR (by decide) (by decide) rfl rfl dX5_init_9 fl_X5_9 (fun _ h => by cases h; exact ⟨rfl, rfl⟩) rfl rfl (by decide) ?_
  refine r_aload_n dX5_init_12 rfl ?_
  refine r_iconst dX5_init_13 ⟨by decide, by decide⟩ ?_
  refine n_putI (rest := [[]]) (by decide) (by decide) rfl dX5_init_14 fl_X5_15 (fun _ h => by cases h; rfl) (Or.inl rfl) ?_
  have z2 := z1.put0 (o := 104) (k := 4) (by decide)
  refine r_aload_n dX5_init_17 rfl ?_
  refine r_aload_n dX5_init_18 rfl ?_
  refine n_putR (row' := [4, 0, 0, 105]) (rest := [[]]) hR (by decide) (by decide) rfl rfl dX5_init_19 fl_X5_19 (fun _ h => by cases h; exact ⟨rfl, rfl⟩) rfl rfl (by decide) ?_
  refine r_aload_n dX5_init_22 rfl ?_
  refine r_aload_n dX5_init_23 rfl ?_
  refine n_putR (row' := [4, 7, 0, 105]) (rest := [[]]) hR (by decide) (by decide) rfl rfl dX5_init_24 fl_X5_23 (fun _ h => by cases h; exact ⟨rfl, rfl⟩) rfl rfl (by decide) ?_
  refine r_aload_n dX5_init_27 rfl ?_
  refine r_aload_n dX5_init_28 rfl ?_
  refine n_putR (row' := [4, 7, 40, 105]) (rest := [[]]) hR (by decide) (by decide) rfl rfl dX5_init_29 fl_X5_27 (fun _ h => by cases h; exact ⟨rfl, rfl⟩) rfl rfl (by decide) ?_
  exact r_vret dX5_init_32 rfl (hQ _ z2)
theorem i_X2_53 {Rp : List (List Nat)} {kB : Nat → Nat × Nat} {σ0 σ : StT} {Q : Int → ShT → StT → Prop} (hR : Rp.length = 53) (z0 : ZI σ0 σ 54) (hQ : ∀ σ' : StT, ZI σ0 σ' 106 → Q 0 (shN 106 (Rp ++ [[54, 55], [56, 61, 66, 71, 76, 81, 86, 91, 96, 101], [59, 64, 69, 74, 79, 84, 89, 94, 99, 104], [57, 58], [], [], [4, 7, 40, 60], [], [62, 63], [], [], [4, 7, 40, 65], [], [67, 68], [], [], [4, 7, 40, 70], [], [72, 73], [], [], [4, 7, 40, 75], [], [77, 78], [], [], [4, 7, 40, 80], [], [82, 83], [], [], [4, 7, 40, 85], [], [87, 88], [], [], [4, 7, 40, 90], [], [92, 93], [], [], [4, 7, 40, 95], [], [97, 98], [], [], [4, 7, 40, 100], [], [102, 103], [], [], [4, 7, 40, 105], []]) kB) σ') : WPm mX2_init [vR 53, vR 4, vR 7, vR 40] (shN 54 (Rp ++ [[]]) kB) σ 52 1360 Q := by
  refine r_entry (by decide) (Nat.le_of_ble_eq_true rfl) rfl rfl ?_
  refine r_aload_n dX2_init_0 rfl ?_
  refine r_objI dX2_init_1 wo_X2 (Nat.le_of_ble_eq_true rfl) (Nat.le_of_ble_eq_true rfl) ?_
  refine r_aload_n dX2_init_4 rfl ?_
  refine r_bipush dX2_init_5 (by decide +kernel) ⟨by decide, by decide⟩ ?_
  refine n_newQ (m := 10) (kk := 4) (rest := []) (rest' := [[]]) hR rfl (by decide) rfl rfl dX2_init_7 (Or.inl ⟨rfl, rfl⟩) wc_X2_9 rfl (by decide) ?_
  have z1 := z0.push (by decide)
  refine n_putR (row' := [54]) (rest := [[]]) hR (by decide) (by decide) rfl rfl dX2_init_10 fl_X2_11 (fun _ h => by cases h; exact ⟨rfl, rfl⟩) rfl rfl (by decide) ?_
  refine r_aload_n dX2_init_13 rfl ?_
  refine r_bipush dX2_init_14 (by decide +kernel) ⟨by decide, by decide⟩ ?_
  refine n_newQ (m := 10) (kk := 5) (rest := [[]]) (rest' := [[], []]) hR rfl (by decide) rfl rfl dX2_init_16 (Or.inr ⟨rfl, rfl⟩) wc_X2_15 rfl (by decide) ?_
  have z2 := z1.push (by decide)
  refine n_putR (row' := [54, 55]) (rest := [[], []]) hR (by decide) (by decide) rfl rfl dX2_init_19 fl_X2_17 (fun _ h => by cases h; exact ⟨rfl, rfl⟩) rfl rfl (by decide) ?_
  refine r_aload_n dX2_init_22 rfl ?_
  refine r_iconst dX2_init_23 ⟨by decide, by decide⟩ ?_
  refine n_putI (rest := [[], []]) (by decide) (by decide) rfl dX2_init_24 fl_X2_21 (fun _ h => by cases h; rfl) (Or.inl rfl) ?_
  have z3 := z2.put0 (o := 53) (k := 2) (by decide)
  refine r_aload_n dX2_init_27 rfl ?_
  refine r_iconst dX2_init_28 ⟨by decide, by decide⟩ ?_
  refine n_putI (rest := [[], []]) (by decide) (by decide) rfl dX2_init_29 fl_X2_25 (fun _ h => by cases h; rfl) (Or.inl rfl) ?_
  have z4 := z3.put0 (o := 53) (k := 3) (by decide)
  refine r_iconst dX2_init_32 ⟨by decide, by decide⟩ ?_
  refine r_istore dX2_init_33 (by decide) rfl rfl ?_
  refine r_iload dX2_init_35 rfl ?_
  refine r_bipush dX2_init_37 (by decide +kernel) ⟨by decide, by decide⟩ ?_
  refine r_icmp_ge (tgt := 79) dX2_init_39 rfl (fun h => absurd h (by decide)) (fun _ => ?_)
  refine r_aload_n dX2_init_42 rfl ?_
  refine n_getR (rest := [[], []]) hR (by decide) (by decide) rfl rfl (by decide) dX2_init_43 fl_X2_11 rfl ?_
  refine r_iload dX2_init_46 rfl ?_
  refine n_new (ci := 0) (m := 9) (rest := [[], []]) hR rfl (by decide) rfl dX2_init_48 rfl wc_X2_9 wn_X0 wz_X0 (fun k _ => dv0 k) (by decide) ?_
  have z5 := z4.push (by decide)
  refine r_dup dX2_init_51 rfl ?_
  refine r_callIN (j := 3) (z := mX0_init) (as := []) (rc' := 2) (rs' := 96) (rc := 47) (rs := 1235) dX2_init_52 mo_X0_init rfl wi_X0 rfl rfl rfl (by decide) (Nat.le_of_ble_eq_true rfl) ?_
  refine i_X0_56 (n_len (rest := [[], []]) hR rfl) z5 ?_
  intro σ6 z6
  refine n_as (rest := [[], []]) (rest' := [[], [], [57, 58], [], []]) rfl ?_
  refine n_aast (a := 54) (x := 56) (j := 0) (ci := 0) (m := 10) (i' := 0) (rest := [[], [], [57, 58], [], []]) (rest' := [[56], [], [57, 58], [], []]) hR (by decide) rfl (by decide) (by decide) (by decide) dX2_init_55 (Or.inl ⟨rfl, rfl⟩) rfl rfl (by decide) (by decide) rfl ?_
  refine r_aload_n dX2_init_56 rfl ?_
  refine n_getR (rest := [[56], [], [57, 58], [], []]) hR (by decide) (by decide) rfl rfl (by decide) dX2_init_57 fl_X2_17 rfl ?_
  refine r_iload dX2_init_60 rfl ?_
  refine n_new (ci := 5) (m := 5) (rest := [[56], [], [57, 58], [], []]) hR rfl (by decide) rfl dX2_init_62 rfl wc_X2_15 wn_X5 wz_X5 (fun k _ => dv5 k) (by decide) ?_
  have z7 := z6.push (by decide)
  refine r_dup dX2_init_65 rfl ?_
  refine r_aload_n dX2_init_66 rfl ?_
  refine r_aload_n dX2_init_67 rfl ?_
  refine r_aload_n dX2_init_68 rfl ?_
  refine r_callI (z := mX5_init) (as := [vR 4, vR 7, vR 40]) (rc' := 1) (rs' := 24) (rc := 45) (rs := 1206) dX2_init_69 mo_X5_init ws_X2_29 wi_X5 rfl rfl rfl (by decide) (Nat.le_of_ble_eq_true rfl) ?_
  refine i_X5_59 (n_len (rest := [[56], [], [57, 58], [], []]) hR rfl) z7 ?_
  intro σ8 z8
  refine n_as (rest := [[56], [], [57, 58], [], []]) (rest' := [[56], [], [57, 58], [], [], [4, 7, 40, 60], []]) rfl ?_
  refine n_aast (a := 55) (x := 59) (j := 1) (ci := 5) (m := 10) (i' := 0) (rest := [[56], [], [57, 58], [], [], [4, 7, 40, 60], []]) (rest' := [[56], [59], [57, 58], [], [], [4, 7, 40, 60], []]) hR (by decide) rfl (by decide) (by decide) (by decide) dX2_init_72 (Or.inr ⟨rfl, rfl⟩) rfl rfl (by decide) (by decide) rfl ?_
  refine r_iinc dX2_init_73 rfl (by decide) rfl rfl ⟨by decide, by decide⟩ ?_
  refine r_goto (tgt := 35) dX2_init_76 rfl ?_
  refine r_iload dX2_init_35 rfl ?_
  refine r_bipush dX2_init_37 (by decide +kernel) ⟨by decide, by decide⟩ ?_
  refine r_icmp_ge (tgt := 79) dX2_init_39 rfl (fun h => absurd h (by decide)) (fun _ => ?_)
  refine r_aload_n dX2_init_42 rfl ?_
  refine n_getR (rest := [[56], [59], [57, 58], [], [], [4, 7, 40, 60], []]) hR (by decide) (by decide) rfl rfl (by decide) dX2_init_43 fl_X2_11 rfl ?_
  refine r_iload dX2_init_46 rfl ?_
  refine n_new (ci := 0) (m := 9) (rest := [[56], [59], [57, 58], [], [], [4, 7, 40, 60], []]) hR rfl (by decide) rfl dX2_init_48 rfl wc_X2_9 wn_X0 wz_X0 (fun k _ => dv0 k) (by decide) ?_
  have z9 := z8.push (by decide)
  refine r_dup dX2_init_51 rfl ?_
  refine r_callIN (j := 3) (z := mX0_init) (as := []) (rc' := 2) (rs' := 96) (rc := 42) (rs := 1101) dX2_init_52 mo_X0_init rfl wi_X0 rfl rfl rfl (by decide) (Nat.le_of_ble_eq_true rfl) ?_
  refine i_X0_61 (n_len (rest := [[56], [59], [57, 58], [], [], [4, 7, 40, 60], []]) hR rfl) z9 ?_
  intro σ10 z10
  refine n_as (rest := [[56], [59], [57, 58], [], [], [4, 7, 40, 60], []]) (rest' := [[56], [59], [57, 58], [], [], [4, 7, 40, 60], [], [62, 63], [], []]) rfl ?_
  refine n_aast (a := 54) (x := 61) (j := 0) (ci := 0) (m := 10) (i' := 1) (rest := [[56], [59], [57, 58], [], [], [4, 7, 40, 60], [], [62, 63], [], []]) (rest' := [[56, 61], [59], [57, 58], [], [], [4, 7, 40, 60], [], [62, 63], [], []]) hR (by decide) rfl (by decide) (by decide) (by decide) dX2_init_55 (Or.inl ⟨rfl, rfl⟩) rfl rfl (by decide) (by decide) rfl ?_
  refine r_aload_n dX2_init_56 rfl ?_
  refine n_getR (rest := [[56, 61], [59], [57, 58], [], [], [4, 7, 40, 60], [], [62, 63], [], []]) hR (by decide) (by decide) rfl rfl (by decide) dX2_init_57 fl_X2_17 rfl ?_
  refine r_iload dX2_init_60 rfl ?_
  refine n_new (ci := 5) (m := 5) (rest := [[56, 61], [59], [57, 58], [], [], [4, 7, 40, 60], [], [62, 63], [], []]) hR rfl (by decide) rfl dX2_init_62 rfl wc_X2_15 wn_X5 wz_X5 (fun k _ => dv5 k) (by decide) ?_
  have z11 := z10.push (by decide)
  refine r_dup dX2_init_65 rfl ?_
  refine r_aload_n dX2_init_66 rfl ?_
  refine r_aload_n dX2_init_67 rfl ?_
  refine r_aload_n dX2_init_68 rfl ?_
  refine r_callI (z := mX5_init) (as := [vR 4, vR 7, vR 40]) (rc' := 1) (rs' := 24) (rc := 40) (rs := 1072) dX2_init_69 mo_X5_init ws_X2_29 wi_X5 rfl rfl rfl (by decide) (Nat.le_of_ble_eq_true rfl) ?_
  refine i_X5_64 (n_len (rest := [[56, 61], [59], [57, 58], [], [], [4, 7, 40, 60], [], [62, 63], [], []]) hR rfl) z11 ?_
  intro σ12 z12
  refine n_as (rest := [[56, 61], [59], [57, 58], [], [], [4, 7, 40, 60], [], [62, 63], [], []]) (rest' := [[56, 61], [59], [57, 58], [], [], [4, 7, 40, 60], [], [62, 63], [], [], [4, 7, 40, 65], []]) rfl ?_
  refine n_aast (a := 55) (x := 64) (j := 1) (ci := 5) (m := 10) (i' := 1) (rest := [[56, 61], [59], [57, 58], [], [], [4, 7, 40, 60], [], [62, 63], [], [], [4, 7, 40, 65], []]) (rest' := [[56, 61], [59, 64], [57, 58], [], [], [4, 7, 40, 60], [], [62, 63], [], [], [4, 7, 40, 65], []]) hR (by decide) rfl (by decide) (by decide) (by decide) dX2_init_72 (Or.inr ⟨rfl, rfl⟩) rfl rfl (by decide) (by decide) rfl ?_
  refine r_iinc dX2_init_73 rfl (by decide) rfl rfl ⟨by decide, by decide⟩ ?_
  refine r_goto (tgt := 35) dX2_init_76 rfl ?_
  refine r_iload dX2_init_35 rfl ?_
  refine r_bipush dX2_init_37 (by decide +kernel) ⟨by decide, by decide⟩ ?_
  refine r_icmp_ge (tgt := 79) dX2_init_39 rfl (fun h => absurd h (by decide)) (fun _ => ?_)
  refine r_aload_n dX2_init_42 rfl ?_
  refine n_getR (rest := [[56, 61], [59, 64], [57, 58], [], [], [4, 7, 40, 60], [], [62, 63], [], [], [4, 7, 40, 65], []]) hR (by decide) (by decide) rfl rfl (by decide) dX2_init_43 fl_X2_11 rfl ?_
  refine r_iload dX2_init_46 rfl ?_
  refine n_new (ci := 0) (m := 9) (rest := [[56, 61], [59, 64], [57, 58], [], [], [4, 7, 40, 60], [], [62, 63], [], [], [4, 7, 40, 65], []]) hR rfl (by decide) rfl dX2_init_48 rfl wc_X2_9 wn_X0 wz_X0 (fun k _ => dv0 k) (by decide) ?_
  have z13 := z12.push (by decide)
  refine r_dup dX2_init_51 rfl ?_
  refine r_callIN (j := 3) (z := mX0_init) (as := []) (rc' := 2) (rs' := 96) (rc := 37) (rs := 967) dX2_init_52 mo_X0_init rfl wi_X0 rfl rfl rfl (by decide) (Nat.le_of_ble_eq_true rfl) ?_
  refine i_X0_66 (n_len (rest := [[56, 61], [59, 64], [57, 58], [], [], [4, 7, 40, 60], [], [62, 63], [], [], [4, 7, 40, 65], []]) hR rfl) z13 ?_
  intro σ14 z14
  refine n_as (rest := [[56, 61], [59, 64], [57, 58], [], [], [4, 7, 40, 60], [], [62, 63], [], [], [4, 7, 40, 65], []]) (rest' := [[56, 61], [59, 64], [57, 58], [], [], [4, 7, 40, 60], [], [62, 63], [], [], [4, 7, 40, 65], [], [67, 68], [], []]) rfl ?_
  refine n_aast (a := 54) (x := 66) (j := 0) (ci := 0) (m := 10) (i' := 2) (rest := [[56, 61], [59, 64], [57, 58], [], [], [4, 7, 40, 60], [], [62, 63], [], [], [4, 7, 40, 65], [], [67, 68], [], []]) (rest' := [[56, 61, 66], [59, 64], [57, 58], [], [], [4, 7, 40, 60], [], [62, 63], [], [], [4, 7, 40, 65], [], [67, 68], [], []]) hR (by decide) rfl (by decide) (by decide) (by decide) dX2_init_55 (Or.inl ⟨rfl, rfl⟩) rfl rfl (by decide) (by decide) rfl ?_
  refine r_aload_n dX2_init_56 rfl ?_
  refine n_getR (rest := [[56, 61, 66], [59, 64], [57, 58], [], [], [4, 7, 40, 60], [], [62, 63], [], [], [4, 7, 40, 65], [], [67, 68], [], []]) hR (by decide) (by decide) rfl rfl (by decide) dX2_init_57 fl_X2_17 rfl ?_
  refine r_iload dX2_init_60 rfl ?_
  refine n_new (ci := 5) (m := 5) (rest := [[56, 61, 66], [59, 64], [57, 58], [], [], [4, 7, 40, 60], [], [62, 63], [], [], [4, 7, 40, 65], [], [67, 68], [], []]) hR rfl (by decide) rfl dX2_init_62 rfl wc_X2_15 wn_X5 wz_X5 (fun k _ => dv5 k) (by decide) ?_
  have z15 := z14.push (by decide)
  refine r_dup dX2_init_65 rfl ?_
  refine r_aload_n dX2_init_66 rfl ?_
  refine r_aload_n dX2_init_67 rfl ?_
  refine r_aload_n dX2_init_68 rfl ?_
  refine r_callI (z := mX5_init) (as := [vR 4, vR 7, vR 40]) (rc' := 1) (rs' := 24) (rc := 35) (rs := 938) dX2_init_69 mo_X5_init ws_X2_29 wi_X5 rfl rfl rfl (by decide) (Nat.le_of_ble_eq_true rfl) ?_
  refine i_X5_69 (n_len (rest := [[56, 61, 66], [59, 64], [57, 58], [], [], [4, 7, 40, 60], [], [62, 63], [], [], [4, 7, 40, 65], [], [67, 68], [], []]) hR rfl) z15 ?_
  intro σ16 z16
  refine n_as (rest := [[56, 61, 66], [59, 64], [57, 58], [], [], [4, 7, 40, 60], [], [62, 63], [], [], [4, 7, 40, 65], [], [67, 68], [], []]) (rest' := [[56, 61, 66], [59, 64], [57, 58], [], [], [4, 7, 40, 60], [], [62, 63], [], [], [4, 7, 40, 65], [], [67, 68], [], [], [4, 7, 40, 70], []]) rfl ?_
  refine n_aast (a := 55) (x := 69) (j := 1) (ci := 5) (m := 10) (i' := 2) (rest := [[56, 61, 66], [59, 64], [57, 58], [], [], [4, 7, 40, 60], [], [62, 63], [], [], [4, 7, 40, 65], [], [67, 68], [], [], [4, 7, 40, 70], []]) (rest' := [[56, 61, 66], [59, 64, 69], [57, 58], [], [], [4, 7, 40, 60], [], [62, 63], [], [], [4, 7, 40, 65], [], [67, 68], [], [], [4, 7, 40, 70], []]) hR (by decide) rfl (by decide) (by decide) (by decide) dX2_init_72 (Or.inr ⟨rfl, rfl⟩) rfl rfl (by decide) (by decide) rfl ?_
  refine r_iinc dX2_init_73 rfl (by decide) rfl rfl ⟨by decide, by decide⟩ ?_
  refine r_goto (tgt := 35) dX2_init_76 rfl ?_
  refine r_iload dX2_init_35 rfl ?_
  refine r_bipush dX2_init_37 (by decide +kernel) ⟨by decide, by decide⟩ ?_
  refine r_icmp_ge (tgt := 79) dX2_init_39 rfl (fun h => absurd h (by decide)) (fun _ => ?_)
  refine r_aload_n dX2_init_42 rfl ?_
  refine n_getR (rest := [[56, 61, 66], [59, 64, 69], [57, 58], [], [], [4, 7, 40, 60], [], [62, 63], [], [], [4, 7, 40, 65], [], [67, 68], [], [], [4, 7, 40, 70], []]) hR (by decide) (by decide) rfl rfl (by decide) dX2_init_43 fl_X2_11 rfl ?_
  refine r_iload dX2_init_46 rfl ?_
  refine n_new (ci := 0) (m := 9) (rest := [[56, 61, 66], [59, 64, 69], [57, 58], [], [], [4, 7, 40, 60], [], [62, 63], [], [], [4, 7, 40, 65], [], [67, 68], [], [], [4, 7, 40, 70], []]) hR rfl (by decide) rfl dX2_init_48 rfl wc_X2_9 wn_X0 wz_X0 (fun k _ => dv0 k) (by decide) ?_
  have z17 := z16.push (by decide)
  refine r_dup dX2_init_51 rfl ?_
  refine r_callIN (j := 3) (z := mX0_init) (as := []) (rc' := 2) (rs' := 96) (rc := 32) (rs := 833) dX2_init_52 mo_X0_init rfl wi_X0 rfl rfl rfl (by decide) (Nat.le_of_ble_eq_true rfl) ?_
  refine i_X0_71 (n_len (rest := [[56, 61, 66], [59, 64, 69], [57, 58], [], [], [4, 7, 40, 60], [], [62, 63], [], [], [4, 7, 40, 65], [], [67, 68], [], [], [4, 7, 40, 70], []]) hR rfl) z17 ?_
  intro σ18 z18
  refine n_as (rest := [[56, 61, 66], [59, 64, 69], [57, 58], [], [], [4, 7, 40, 60], [], [62, 63], [], [], [4, 7, 40, 65], [], [67, 68], [], [], [4, 7, 40, 70], []]) (rest' := [[56, 61, 66], [59, 64, 69], [57, 58], [], [], [4, 7, 40, 60], [], [62, 63], [], [], [4, 7, 40, 65], [], [67, 68], [], [], [4, 7, 40, 70], [], [72, 73], [], []]) rfl ?_
  refine n_aast (a := 54) (x := 71) (j := 0) (ci := 0) (m := 10) (i' := 3) (rest := [[56, 61, 66], [59, 64, 69], [57, 58], [], [], [4, 7, 40, 60], [], [62, 63], [], [], [4, 7, 40, 65], [], [67, 68], [], [], [4, 7, 40, 70], [], [72, 73], [], []]) (rest' := [[56, 61, 66, 71], [59, 64, 69], [57, 58], [], [], [4, 7, 40, 60], [], [62, 63], [], [], [4, 7, 40, 65], [], [67, 68], [], [], [4, 7, 40, 70], [], [72, 73], [], []]) hR (by decide) rfl (by decide) (by decide) (by decide) dX2_init_55 (Or.inl ⟨rfl, rfl⟩) rfl rfl (by decide) (by decide) rfl ?_
  refine r_aload_n dX2_init_56 rfl ?_
  refine n_getR (rest := [[56, 61, 66, 71], [59, 64, 69], [57, 58], [], [], [4, 7, 40, 60], [], [62, 63], [], [], [4, 7, 40, 65], [], [67, 68], [], [], [4, 7, 40, 70], [], [72, 73], [], []]) hR (by decide) (by decide) rfl rfl (by decide) dX2_init_57 fl_X2_17 rfl ?_
  refine r_iload dX2_init_60 rfl ?_
  refine n_new (ci := 5) (m := 5) (rest := [[56, 61, 66, 71], [59, 64, 69], [57, 58], [], [], [4, 7, 40, 60], [], [62, 63], [], [], [4, 7, 40, 65], [], [67, 68], [], [], [4, 7, 40, 70], [], [72, 73], [], []]) hR rfl (by decide) rfl dX2_init_62 rfl wc_X2_15 wn_X5 wz_X5 (fun k _ => dv5 k) (by decide) ?_
  have z19 := z18.push (by decide)
  refine r_dup dX2_init_65 rfl ?_
  refine r_aload_n dX2_init_66 rfl ?_
  refine r_aload_n dX2_init_67 rfl ?_
  refine r_aload_n dX2_init_68 rfl ?_
  refine r_callI (z := mX5_init) (as := [vR 4, vR 7, vR 40]) (rc' := 1) (rs' := 24) (rc := 30) (rs := 804) dX2_init_69 mo_X5_init ws_X2_29 wi_X5 rfl rfl rfl (by decide) (Nat.le_of_ble_eq_true rfl) ?_
  refine i_X5_74 (n_len (rest := [[56, 61, 66, 71], [59, 64, 69], [57, 58], [], [], [4, 7, 40, 60], [], [62, 63], [], [], [4, 7, 40, 65], [], [67, 68], [], [], [4, 7, 40, 70], [], [72, 73], [], []]) hR rfl) z19 ?_
  intro σ20 z20
  refine n_as (rest := [[56, 61, 66, 71], [59, 64, 69], [57, 58], [], [], [4, 7, 40, 60], [], [62, 63], [], [], [4, 7, 40, 65], [], [67, 68], [], [], [4, 7, 40, 70], [], [72, 73], [], []]) (rest' := [[56, 61, 66, 71], [59, 64, 69], [57, 58], [], [], [4, 7, 40, 60], [], [62, 63], [], [], [4, 7, 40, 65], [], [67, 68], [], [], [4, 7, 40, 70], [], [72, 73], [], [], [4, 7, 40, 75], []]) rfl ?_
  refine n_aast (a := 55) (x := 74) (j := 1) (ci := 5) (m := 10) (i' := 3) (rest := [[56, 61, 66, 71], [59, 64, 69], [57, 58], [], [], [4, 7, 40, 60], [], [62, 63], [], [], [4, 7, 40, 65], [], [67, 68], [], [], [4, 7, 40, 70], [], [72, 73], [], [], [4, 7, 40, 75], []]) (rest' := [[56, 61, 66, 71], [59, 64, 69, 74], [57, 58], [], [], [4, 7, 40, 60], [], [62, 63], [], [], [4, 7, 40, 65], [], [67, 68], [], [], [4, 7, 40, 70], [], [72, 73], [], [], [4, 7, 40, 75], []]) hR (by decide) rfl (by decide) (by decide) (by decide) dX2_init_72 (Or.inr ⟨rfl, rfl⟩) rfl rfl (by decide) (by decide) rfl ?_
  refine r_iinc dX2_init_73 rfl (by decide) rfl rfl ⟨by decide, by decide⟩ ?_
  refine r_goto (tgt := 35) dX2_init_76 rfl ?_
  refine r_iload dX2_init_35 rfl ?_
  refine r_bipush dX2_init_37 (by decide +kernel) ⟨by decide, by decide⟩ ?_
  refine r_icmp_ge (tgt := 79) dX2_init_39 rfl (fun h => absurd h (by decide)) (fun _ => ?_)
  refine r_aload_n dX2_init_42 rfl ?_
  refine n_getR (rest := [[56, 61, 66, 71], [59, 64, 69, 74], [57, 58], [], [], [4, 7, 40, 60], [], [62, 63], [], [], [4, 7, 40, 65], [], [67, 68], [], [], [4, 7, 40, 70], [], [72, 73], [], [], [4, 7, 40, 75], []]) hR (by decide) (by decide) rfl rfl (by decide) dX2_init_43 fl_X2_11 rfl ?_
  refine r_iload dX2_init_46 rfl ?_
  refine n_new (ci := 0) (m := 9) (rest := [[56, 61, 66, 71], [59, 64, 69, 74], [57, 58], [], [], [4, 7, 40, 60], [], [62, 63], [], [], [4, 7, 40, 65], [], [67, 68], [], [], [4, 7, 40, 70], [], [72, 73], [], [], [4, 7, 40, 75], []]) hR rfl (by decide) rfl dX2_init_48 rfl wc_X2_9 wn_X0 wz_X0 (fun k _ => dv0 k) (by decide) ?_
  have z21 := z20.push (by decide)
  refine r_dup dX2_init_51 rfl ?_
  refine r_callIN (j := 3) (z := mX0_init) (as := []) (rc' := 2) (rs' := 96) (rc := 27) (rs := 699) dX2_init_52 mo_X0_init rfl wi_X0 rfl rfl rfl (by decide) (Nat.le_of_ble_eq_true rfl) ?_
  refine i_X0_76 (n_len (rest := [[56, 61, 66, 71], [59, 64, 69, 74], [57, 58], [], [], [4, 7, 40, 60], [], [62, 63], [], [], [4, 7, 40, 65], [], [67, 68], [], [], [4, 7, 40, 70], [], [72, 73], [], [], [4, 7, 40, 75], []]) hR rfl) z21 ?_
  intro σ22 z22
  refine n_as (rest := [[56, 61, 66, 71], [59, 64, 69, 74], [57, 58], [], [], [4, 7, 40, 60], [], [62, 63], [], [], [4, 7, 40, 65], [], [67, 68], [], [], [4, 7, 40, 70], [], [72, 73], [], [], [4, 7, 40, 75], []]) (rest' := [[56, 61, 66, 71], [59, 64, 69, 74], [57, 58], [], [], [4, 7, 40, 60], [], [62, 63], [], [], [4, 7, 40, 65], [], [67, 68], [], [], [4, 7, 40, 70], [], [72, 73], [], [], [4, 7, 40, 75], [], [77, 78], [], []]) rfl ?_
  refine n_aast (a := 54) (x := 76) (j := 0) (ci := 0) (m := 10) (i' := 4) (rest := [[56, 61, 66, 71], [59, 64, 69, 74], [57, 58], [], [], [4, 7, 40, 60], [], [62, 63], [], [], [4, 7, 40, 65], [], [67, 68], [], [], [4, 7, 40, 70], [], [72, 73], [], [], [4, 7, 40, 75], [], [77, 78], [], []]) (rest' := [[56, 61, 66, 71, 76], [59, 64, 69, 74], [57, 58], [], [], [4, 7, 40, 60], [], [62, 63], [], [], [4, 7, 40, 65], [], [67, 68], [], [], [4, 7, 40, 70], [], [72, 73], [], [], [4, 7, 40, 75], [], [77, 78], [], []]) hR (by decide) rfl (by decide) (by decide) (by decide) dX2_init_55 (Or.inl ⟨rfl, rfl⟩) rfl rfl (by decide) (by decide) rfl ?_
  refine r_aload_n dX2_init_56 rfl ?_
  refine n_getR (rest := [[56, 61, 66, 71, 76], [59, 64, 69, 74], [57, 58], [], [], [4, 7, 40, 60], [], [62, 63], [], [], [4, 7, 40, 65], [], [67, 68], [], [], [4, 7, 40, 70], [], [72, 73], [], [], [4, 7, 40, 75], [], [77, 78], [], []]) hR (by decide) (by decide) rfl rfl (by decide) dX2_init_57 fl_X2_17 rfl ?_
  refine r_iload dX2_init_60 rfl ?_
  refine n_new (ci := 5) (m := 5) (rest := [[56, 61, 66, 71, 76], [59, 64, 69, 74], [57, 58], [], [], [4, 7, 40, 60], [], [62, 63], [], [], [4, 7, 40, 65], [], [67, 68], [], [], [4, 7, 40, 70], [], [72, 73], [], [], [4, 7, 40, 75], [], [77, 78], [], []]) hR rfl (by decide) rfl dX2_init_62 rfl wc_X2_15 wn_X5 wz_X5 (fun k _ => dv5 k) (by decide) ?_
  have z23 := z22.push (by decide)
  refine r_dup dX2_init_65 rfl ?_
  refine r_aload_n dX2_init_66 rfl ?_
  refine r_aload_n dX2_init_67 rfl ?_
  refine r_aload_n dX2_init_68 rfl ?_
  refine r_callI (z := mX5_init) (as := [vR 4, vR 7, vR 40]) (rc' := 1) (rs' := 24) (rc := 25) (rs := 670) dX2_init_69 mo_X5_init ws_X2_29 wi_X5 rfl rfl rfl (by decide) (Nat.le_of_ble_eq_true rfl) ?_
  refine i_X5_79 (n_len (rest := [[56, 61, 66, 71, 76], [59, 64, 69, 74], [57, 58], [], [], [4, 7, 40, 60], [], [62, 63], [], [], [4, 7, 40, 65], [], [67, 68], [], [], [4, 7, 40, 70], [], [72, 73], [], [], [4, 7, 40, 75], [], [77, 78], [], []]) hR rfl) z23 ?_
  intro σ24 z24
  refine n_as (rest := [[56, 61, 66, 71, 76], [59, 64, 69, 74], [57, 58], [], [], [4, 7, 40, 60], [], [62, 63], [], [], [4, 7, 40, 65], [], [67, 68], [], [], [4, 7, 40, 70], [], [72, 73], [], [], [4, 7, 40, 75], [], [77, 78], [], []]) (rest' := [[56, 61, 66, 71, 76], [59, 64, 69, 74], [57, 58], [], [], [4, 7, 40, 60], [], [62, 63], [], [], [4, 7, 40, 65], [], [67, 68], [], [], [4, 7, 40, 70], [], [72, 73], [], [], [4, 7, 40, 75], [], [77, 78], [], [], [4, 7, 40, 80], []]) rfl ?_
  refine n_aast (a := 55) (x := 79) (j := 1) (ci := 5) (m := 10) (i' := 4) (rest := [[56, 61, 66, 71, 76], [59, 64, 69, 74], [57, 58], [], [], [4, 7, 40, 60], [], [62, 63], [], [], [4, 7, 40, 65], [], [67, 68], [], [], [4, 7, 40, 70], [], [72, 73], [], [], [4, 7, 40, 75], [], [77, 78], [], [], [4, 7, 40, 80], []]) (rest' := [[56, 61, 66, 71, 76], [59, 64, 69, 74, 79], [57, 58], [], [], [4, 7, 40, 60], [], [62, 63], [], [], [4, 7, 40, 65], [], [67, 68], [], [], [4, 7, 40, 70], [], [72, 73], [], [], [4, 7, 40, 75], [], [77, 78], [], [], [4, 7, 40, 80], []]) hR (by decide) rfl (by decide) (by decide) (by decide) dX2_init_72 (Or.inr ⟨rfl, rfl⟩) rfl rfl (by decide) (by decide) rfl ?_
  refine r_iinc dX2_init_73 rfl (by decide) rfl rfl ⟨by decide, by decide⟩ ?_
  refine r_goto (tgt := 35) dX2_init_76 rfl ?_
  refine r_iload dX2_init_35 rfl ?_
  refine r_bipush dX2_init_37 (by decide +kernel) ⟨by decide, by decide⟩ ?_
  refine r_icmp_ge (tgt := 79) dX2_init_39 rfl (fun h => absurd h (by decide)) (fun _ => ?_)
  refine r_aload_n dX2_init_42 rfl ?_
  refine n_getR (rest := [[56, 61, 66, 71, 76], [59, 64, 69, 74, 79], [57, 58], [], [], [4, 7, 40, 60], [], [62, 63], [], [], [4, 7, 40, 65], [], [67, 68], [], [], [4, 7, 40, 70], [], [72, 73], [], [], [4, 7, 40, 75], [], [77, 78], [], [], [4, 7, 40, 80], []]) hR (by decide) (by decide) rfl rfl (by decide) dX2_init_43 fl_X2_11 rfl ?_
  refine r_iload dX2_init_46 rfl ?_
  refine n_new (ci := 0) (m := 9) (rest := [[56, 61, 66, 71, 76], [59, 64, 69, 74, 79], [57, 58], [], [], [4, 7, 40, 60], [], [62, 63], [], [], [4, 7, 40, 65], [], [67, 68], [], [], [4, 7, 40, 70], [], [72, 73], [], [], [4, 7, 40, 75], [], [77, 78], [], [], [4, 7, 40, 80], []]) hR rfl (by decide) rfl dX2_init_48 rfl wc_X2_9 wn_X0 wz_X0 (fun k _ => dv0 k) (by decide) ?_
  have z25 := z24.push (by decide)
  refine r_dup dX2_init_51 rfl ?_
  refine r_callIN (j := 3) (z := mX0_init) (as := []) (rc' := 2) (rs' := 96) (rc := 22) (rs := 565) dX2_init_52 mo_X0_init rfl wi_X0 rfl rfl rfl (by decide) (Nat.le_of_ble_eq_true rfl) ?_
  refine i_X0_81 (n_len (rest := [[56, 61, 66, 71, 76], [59, 64, 69, 74, 79], [57, 58], [], [], [4, 7, 40, 60], [], [62, 63], [], [], [4, 7, 40, 65], [], [67, 68], [], [], [4, 7, 40, 70], [], [72, 73], [], [], [4, 7, 40, 75], [], [77, 78], [], [], [4, 7, 40, 80], []]) hR rfl) z25 ?_
  intro σ26 z26
  refine n_as (rest := [[56, 61, 66, 71, 76], [59, 64, 69, 74, 79], [57, 58], [], [], [4, 7, 40, 60], [], [62, 63], [], [], [4, 7, 40, 65], [], [67, 68], [], [], [4, 7, 40, 70], [], [72, 73], [], [], [4, 7, 40, 75], [], [77, 78], [], [], [4, 7, 40, 80], []]) (rest' := [[56, 61, 66, 71, 76], [59, 64, 69, 74, 79], [57, 58], [], [], [4, 7, 40, 60], [], [62, 63], [], [], [4, 7, 40, 65], [], [67, 68], [], [], [4, 7, 40, 70], [], [72, 73], [], [], [4, 7, 40, 75], [], [77, 78], [], [], [4, 7, 40, 80], [], [82, 83], [], []]) rfl ?_
  refine n_aast (a := 54) (x := 81) (j := 0) (ci := 0) (m := 10) (i' := 5) (rest := [[56, 61, 66, 71, 76], [59, 64, 69, 74, 79], [57, 58], [], [], [4, 7, 40, 60], [], [62, 63], [], [], [4, 7, 40, 65], [], [67, 68], [], [], [4, 7, 40, 70], [], [72, 73], [], [], [4, 7, 40, 75], [], [77, 78], [], [], [4, 7, 40, 80], [], [82, 83], [], []]) (rest' := [[56, 61, 66, 71, 76, 81], [59, 64, 69, 74, 79], [57, 58], [], [], [4, 7, 40, 60], [], [62, 63], [], [], [4, 7, 40, 65], [], [67, 68], [], [], [4, 7, 40, 70], [], [72, 73], [], [], [4, 7, 40, 75], [], [77, 78], [], [], [4, 7, 40, 80], [], [82, 83], [], []]) hR (by decide) rfl (by decide) (by decide) (by decide) dX2_init_55 (Or.inl ⟨rfl, rfl⟩) rfl rfl (by decide) (by decide) rfl ?_
  refine r_aload_n dX2_init_56 rfl ?_
  refine n_getR (rest := [[56, 61, 66, 71, 76, 81], [59, 64, 69, 74, 79], [57, 58], [], [], [4, 7, 40, 60], [], [62, 63], [], [], [4, 7, 40, 65], [], [67, 68], [], [], [4, 7, 40, 70], [], [72, 73], [], [], [4, 7, 40, 75], [], [77, 78], [], [], [4, 7, 40, 80], [], [82, 83], [], []]) hR (by decide) (by decide) rfl rfl (by decide) dX2_init_57 fl_X2_17 rfl ?_
  refine r_iload dX2_init_60 rfl ?_
  refine n_new (ci := 5) (m := 5) (rest := [[56, 61, 66, 71, 76, 81], [59, 64, 69, 74, 79], [57, 58], [], [], [4, 7, 40, 60], [], [62, 63], [], [], [4, 7, 40, 65], [], [67, 68], [], [], [4, 7, 40, 70], [], [72, 73], [], [], [4, 7, 40, 75], [], [77, 78], [], [], [4, 7, 40, 80], [], [82, 83], [], []]) hR rfl (by decide) rfl dX2_init_62 rfl wc_X2_15 wn_X5 wz_X5 (fun k _ => dv5 k) (by decide) ?_
  have z27 := z26.push (by decide)
  refine r_dup dX2_init_65 rfl ?_
  refine r_aload_n dX2_init_66 rfl ?_
  refine r_aload_n dX2_init_67 rfl ?_
  refine r_aload_n dX2_init_68 rfl ?_
  refine r_callI (z := mX5_init) (as := [vR 4, vR 7, vR 40]) (rc' := 1) (rs' := 24) (rc := 20) (rs := 536) dX2_init_69 mo_X5_init ws_X2_29 wi_X5 rfl rfl rfl (by decide) (Nat.le_of_ble_eq_true rfl) ?_
  refine i_X5_84 (n_len (rest := [[56, 61, 66, 71, 76, 81], [59, 64, 69, 74, 79], [57, 58], [], [], [4, 7, 40, 60], [], [62, 63], [], [], [4, 7, 40, 65], [], [67, 68], [], [], [4, 7, 40, 70], [], [72, 73], [], [], [4, 7, 40, 75], [], [77, 78], [], [], [4, 7, 40, 80], [], [82, 83], [], []]) hR rfl) z27 ?_
  intro σ28 z28
  refine n_as (rest := [[56, 61, 66, 71, 76, 81], [59, 64, 69, 74, 79], [57, 58], [], [], [4, 7, 40, 60], [], [62, 63], [], [], [4, 7, 40, 65], [], [67, 68], [], [], [4, 7, 40, 70], [], [72, 73], [], [], [4, 7, 40, 75], [], [77, 78], [], [], [4, 7, 40, 80], [], [82, 83], [], []]) (rest' := [[56, 61, 66, 71, 76, 81], [59, 64, 69, 74, 79], [57, 58], [], [], [4, 7, 40, 60], [], [62, 63], [], [], [4, 7, 40, 65], [], [67, 68], [], [], [4, 7, 40, 70], [], [72, 73], [], [], [4, 7, 40, 75], [], [77, 78], [], [], [4, 7, 40, 80], [], [82, 83], [], [], [4, 7, 40, 85], []]) rfl ?_
  refine n_aast (a := 55) (x := 84) (j := 1) (ci := 5) (m := 10) (i' := 5) (rest := [[56, 61, 66, 71, 76, 81], [59, 64, 69, 74, 79], [57, 58], [], [], [4, 7, 40, 60], [], [62, 63], [], [], [4, 7, 40, 65], [], [67, 68], [], [], [4, 7, 40, 70], [], [72, 73], [], [], [4, 7, 40, 75], [], [77, 78], [], [], [4, 7, 40, 80], [], [82, 83], [], [], [4, 7, 40, 85], []]) (rest' := [[56, 61, 66, 71, 76, 81], [59, 64, 69, 74, 79, 84], [57, 58], [], [], [4, 7, 40, 60], [], [62, 63], [], [], [4, 7, 40, 65], [], [67, 68], [], [], [4, 7, 40, 70], [], [72, 73], [], [], [4, 7, 40, 75], [], [77, 78], [], [], [4, 7, 40, 80], [], [82, 83], [], [], [4, 7, 40, 85], []]) hR (by decide) rfl (by decide) (by decide) (by decide) dX2_init_72 (Or.inr ⟨rfl, rfl⟩) rfl rfl (by decide) (by decide) rfl ?_
  refine r_iinc dX2_init_73 rfl (by decide) rfl rfl ⟨by decide, by decide⟩ ?_
  refine r_goto (tgt := 35) dX2_init_76 rfl ?_
  refine r_iload dX2_init_35 rfl ?_
  refine r_bipush dX2_init_37 (by decide +kernel) ⟨by decide, by decide⟩ ?_
  refine r_icmp_ge (tgt := 79) dX2_init_39 rfl (fun h => absurd h (by decide)) (fun _ => ?_)
  refine r_aload_n dX2_init_42 rfl ?_
  refine n_getR (rest := [[56, 61, 66, 71, 76, 81], [59, 64, 69, 74, 79, 84], [57, 58], [], [], [4, 7, 40, 60], [], [62, 63], [], [], [4, 7, 40, 65], [], [67, 68], [], [], [4, 7, 40, 70], [], [72, 73], [], [], [4, 7, 40, 75], [], [77, 78], [], [], [4, 7, 40, 80], [], [82, 83], [], [], [4, 7, 40, 85], []]) hR (by decide) (by decide) rfl rfl (by decide) dX2_init_43 fl_X2_11 rfl ?_
  refine r_iload dX2_init_46 rfl ?_
  refine n_new (ci := 0) (m := 9) (rest := [[56, 61, 66, 71, 76, 81], [59, 64, 69, 74, 79, 84], [57, 58], [], [], [4, 7, 40, 60], [], [62, 63], [], [], [4, 7, 40, 65], [], [67, 68], [], [], [4, 7, 40, 70], [], [72, 73], [], [], [4, 7, 40, 75], [], [77, 78], [], [], [4, 7, 40, 80], [], [82, 83], [], [], [4, 7, 40, 85], []]) hR rfl (by decide) rfl dX2_init_48 rfl wc_X2_9 wn_X0 wz_X0 (fun k _ => dv0 k) (by decide) ?_
  have z29 := z28.push (by decide)
  refine r_dup dX2_init_51 rfl ?_
  refine r_callIN (j := 3) (z := mX0_init) (as := []) (rc' := 2) (rs' := 96) (rc := 17) (rs := 431) dX2_init_52 mo_X0_init rfl wi_X0 rfl rfl rfl (by decide) (Nat.le_of_ble_eq_true rfl) ?_
  refine i_X0_86 (n_len (rest := [[56, 61, 66, 71, 76, 81], [59, 64, 69, 74, 79, 84], [57, 58], [], [], [4, 7, 40, 60], [], [62, 63], [], [], [4, 7, 40, 65], [], [67, 68], [], [], [4, 7, 40, 70], [], [72, 73], [], [], [4, 7, 40, 75], [], [77, 78], [], [], [4, 7, 40, 80], [], [82, 83], [], [], [4, 7, 40, 85], []]) hR rfl) z29 ?_
  intro σ30 z30
  refine n_as (rest := [[56, 61, 66, 71, 76, 81], [59, 64, 69, 74, 79, 84], [57, 58], [], [], [4, 7, 40, 60], [], [62, 63], [], [], [4, 7, 40, 65], [], [67, 68], [], [], [4, 7, 40, 70], [], [72, 73], [], [], [4, 7, 40, 75], [], [77, 78], [], [], [4, 7, 40, 80], [], [82, 83], [], [], [4, 7, 40, 85], []]) (rest' := [[56, 61, 66, 71, 76, 81], [59, 64, 69, 74, 79, 84], [57, 58], [], [], [4, 7, 40, 60], [], [62, 63], [], [], [4, 7, 40, 65], [], [67, 68], [], [], [4, 7, 40, 70], [], [72, 73], [], [], [4, 7, 40, 75], [], [77, 78], [], [], [4, 7, 40, 80], [], [82, 83], [], [], [4, 7, 40, 85], [], [87, 88], [], []]) rfl ?_
  refine n_aast (a := 54) (x := 86) (j := 0) (ci := 0) (m := 10) (i' := 6) (rest := [[56, 61, 66, 71, 76, 81], [59, 64, 69, 74, 79, 84], [57, 58], [], [], [4, 7, 40, 60], [], [62, 63], [], [], [4, 7, 40, 65], [], [67, 68], [], [], [4, 7, 40, 70], [], [72, 73], [], [], [4, 7, 40, 75], [], [77, 78], [], [], [4, 7, 40, 80], [], [82, 83], [], [], [4, 7, 40, 85], [], [87, 88], [], []]) (rest' := [[56, 61, 66, 71, 76, 81, 86], [59, 64, 69, 74, 79, 84], [57, 58], [], [], [4, 7, 40, 60], [], [62, 63], [], [], [4, 7, 40, 65], [], [67, 68], [], [], [4, 7, 40, 70], [], [72, 73], [], [], [4, 7, 40, 75], [], [77, 78], [], [], [4, 7, 40, 80], [], [82, 83], [], [], [4, 7, 40, 85], [], [87, 88], [], []]) hR (by decide) rfl (by decide) (by decide) (by decide) dX2_init_55 (Or.inl ⟨rfl, rfl⟩) rfl rfl (by decide) (by decide) rfl ?_
  refine r_aload_n dX2_init_56 rfl ?_
  refine n_getR (rest := [[56, 61, 66, 71, 76, 81, 86], [59, 64, 69, 74, 79, 84], [57, 58], [], [], [4, 7, 40, 60], [], [62, 63], [], [], [4, 7, 40, 65], [], [67, 68], [], [], [4, 7, 40, 70], [], [72, 73], [], [], [4, 7, 40, 75], [], [77, 78], [], [], [4, 7, 40, 80], [], [82, 83], [], [], [4, 7, 40, 85], [], [87, 88], [], []]) hR (by decide) (by decide) rfl rfl (by decide) dX2_init_57 fl_X2_17 rfl ?_
  refine r_iload dX2_init_60 rfl ?_
  refine n_new (ci := 5) (m := 5) (rest := [[56, 61, 66, 71, 76, 81, 86], [59, 64, 69, 74, 79, 84], [57, 58], [], [], [4, 7, 40, 60], [], [62, 63], [], [], [4, 7, 40, 65], [], [67, 68], [], [], [4, 7, 40, 70], [], [72, 73], [], [], [4, 7, 40, 75], [], [77, 78], [], [], [4, 7, 40, 80], [], [82, 83], [], [], [4, 7, 40, 85], [], [87, 88], [], []]) hR rfl (by decide) rfl dX2_init_62 rfl wc_X2_15 wn_X5 wz_X5 (fun k _ => dv5 k) (by decide) ?_
  have z31 := z30.push (by decide)
  refine r_dup dX2_init_65 rfl ?_
  refine r_aload_n dX2_init_66 rfl ?_
  refine r_aload_n dX2_init_67 rfl ?_
  refine r_aload_n dX2_init_68 rfl ?_
  refine r_callI (z := mX5_init) (as := [vR 4, vR 7, vR 40]) (rc' := 1) (rs' := 24) (rc := 15) (rs := 402) dX2_init_69 mo_X5_init ws_X2_29 wi_X5 rfl rfl rfl (by decide) (Nat.le_of_ble_eq_true rfl) ?_
  refine i_X5_89 (n_len (rest := [[56, 61, 66, 71, 76, 81, 86], [59, 64, 69, 74, 79, 84], [57, 58], [], [], [4, 7, 40, 60], [], [62, 63], [], [], [4, 7, 40, 65], [], [67, 68], [], [], [4, 7, 40, 70], [], [72, 73], [], [], [4, 7, 40, 75], [], [77, 78], [], [], [4, 7, 40, 80], [], [82, 83], [], [], [4, 7, 40, 85], [], [87, 88], [], []]) hR rfl) z31 ?_
  intro σ32 z32
  refine n_as (rest := [[56, 61, 66, 71, 76, 81, 86], [59, 64, 69, 74, 79, 84], [57, 58], [], [], [4, 7, 40, 60], [], [62, 63], [], [], [4, 7, 40, 65], [], [67, 68], [], [], [4, 7, 40, 70], [], [72, 73], [], [], [4, 7, 40, 75], [], [77, 78], [], [], [4, 7, 40, 80], [], [82, 83], [], [], [4, 7, 40, 85], [], [87, 88], [], []]) (rest' := [[56, 61, 66, 71, 76, 81, 86], [59, 64, 69, 74, 79, 84], [57, 58], [], [], [4, 7, 40, 60], [], [62, 63], [], [], [4, 7, 40, 65], [], [67, 68], [], [], [4, 7, 40, 70], [], [72, 73], [], [], [4, 7, 40, 75], [], [77, 78], [], [], [4, 7, 40, 80], [], [82, 83], [], [], [4, 7, 40, 85], [], [87, 88], [], [], [4, 7, 40, 90], []]) rfl ?_
  refine n_aast (a := 55) (x := 89) (j := 1) (ci := 5) (m := 10) (i' := 6) (rest := [[56, 61, 66, 71, 76, 81, 86], [59, 64, 69, 74, 79, 84], [57, 58], [], [], [4, 7, 40, 60], [], [62, 63], [], [], [4, 7, 40, 65], [], [67, 68], [], [], [4, 7, 40, 70], [], [72, 73], [], [], [4, 7, 40, 75], [], [77, 78], [], [], [4, 7, 40, 80], [], [82, 83], [], [], [4, 7, 40, 85], [], [87, 88], [], [], [4, 7, 40, 90], []]) (rest' := [[56, 61, 66, 71, 76, 81, 86], [59, 64, 69, 74, 79, 84, 89], [57, 58], [], [], [4, 7, 40, 60], [], [62, 63], [], [], [4, 7, 40, 65], [], [67, 68], [], [], [4, 7, 40, 70], [], [72, 73], [], [], [4, 7, 40, 75], [], [77, 78], [], [], [4, 7, 40, 80], [], [82, 83], [], [], [4, 7, 40, 85], [], [87, 88], [], [], [4, 7, 40, 90], []]) hR (by decide) rfl (by decide) (by decide) (by decide) dX2_init_72 (Or.inr ⟨rfl, rfl⟩) rfl rfl (by decide) (by decide) rfl ?_
  refine r_iinc dX2_init_73 rfl (by decide) rfl rfl ⟨by decide, by decide⟩ ?_
  refine r_goto (tgt := 35) dX2_init_76 rfl ?_
  refine r_iload dX2_init_35 rfl ?_
  refine r_bipush dX2_init_37 (by decide +kernel) ⟨by decide, by decide⟩ ?_
  refine r_icmp_ge (tgt := 79) dX2_init_39 rfl (fun h => absurd h (by decide)) (fun _ => ?_)
  refine r_aload_n dX2_init_42 rfl ?_
  refine n_getR (rest := [[56, 61, 66, 71, 76, 81, 86], [59, 64, 69, 74, 79, 84, 89], [57, 58], [], [], [4, 7, 40, 60], [], [62, 63], [], [], [4, 7, 40, 65], [], [67, 68], [], [], [4, 7, 40, 70], [], [72, 73], [], [], [4, 7, 40, 75], [], [77, 78], [], [], [4, 7, 40, 80], [], [82, 83], [], [], [4, 7, 40, 85], [], [87, 88], [], [], [4, 7, 40, 90], []]) hR (by decide) (by decide) rfl rfl (by decide) dX2_init_43 fl_X2_11 rfl ?_
  refine r_iload dX2_init_46 rfl ?_
  refine n_new (ci := 0) (m := 9) (rest := [[56, 61, 66, 71, 76, 81, 86], [59, 64, 69, 74, 79, 84, 89], [57, 58], [], [], [4, 7, 40, 60], [], [62, 63], [], [], [4, 7, 40, 65], [], [67, 68], [], [], [4, 7, 40, 70], [], [72, 73], [], [], [4, 7, 40, 75], [], [77, 78], [], [], [4, 7, 40, 80], [], [82, 83], [], [], [4, 7, 40, 85], [], [87, 88], [], [], [4, 7, 40, 90], []]) hR rfl (by decide) rfl dX2_init_48 rfl wc_X2_9 wn_X0 wz_X0 (fun k _ => dv0 k) (by decide) ?_
  have z33 := z32.push (by decide)
  refine r_dup dX2_init_51 rfl ?_
  refine r_callIN (j := 3) (z := mX0_init) (as := []) (rc' := 2) (rs' := 96) (rc := 12) (rs := 297) dX2_init_52 mo_X0_init rfl wi_X0 rfl rfl rfl (by decide) (Nat.le_of_ble_eq_true rfl) ?_
  refine i_X0_91 (n_len (rest := [[56, 61, 66, 71, 76, 81, 86], [59, 64, 69, 74, 79, 84, 89], [57, 58], [], [], [4, 7, 40, 60], [], [62, 63], [], [], [4, 7, 40, 65], [], [67, 68], [], [], [4, 7, 40, 70], [], [72, 73], [], [], [4, 7, 40, 75], [], [77, 78], [], [], [4, 7, 40, 80], [], [82, 83], [], [], [4, 7, 40, 85], [], [87, 88], [], [], [4, 7, 40, 90], []]) hR rfl) z33 ?_
  intro σ34 z34
  refine n_as (rest := [[56, 61, 66, 71, 76, 81, 86], [59, 64, 69, 74, 79, 84, 89], [57, 58], [], [], [4, 7, 40, 60], [], [62, 63], [], [], [4, 7, 40, 65], [], [67, 68], [], [], [4, 7, 40, 70], [], [72, 73], [], [], [4, 7, 40, 75], [], [77, 78], [], [], [4, 7, 40, 80], [], [82, 83], [], [], [4, 7, 40, 85], [], [87, 88], [], [], [4, 7, 40, 90], []]) (rest' := [[56, 61, 66, 71, 76, 81, 86], [59, 64, 69, 74, 79, 84, 89], [57, 58], [], [], [4, 7, 40, 60], [], [62, 63], [], [], [4, 7, 40, 65], [], [67, 68], [], [], [4, 7, 40, 70], [], [72, 73], [], [], [4, 7, 40, 75], [], [77, 78], [], [], [4, 7, 40, 80], [], [82, 83], [], [], [4, 7, 40, 85], [], [87, 88], [], [], [4, 7, 40, 90], [], [92, 93], [], []]) rfl ?_
  refine n_aast (a := 54) (x := 91) (j := 0) (ci := 0) (m := 10) (i' := 7) (rest := [[56, 61, 66, 71, 76, 81, 86], [59, 64, 69, 74, 79, 84, 89], [57, 58], [], [], [4, 7, 40, 60], [], [62, 63], [], [], [4, 7, 40, 65], [], [67, 68], [], [], [4, 7, 40, 70], [], [72, 73], [], [], [4, 7, 40, 75], [], [77, 78], [], [], [4, 7, 40, 80], [], [82, 83], [], [], [4, 7, 40, 85], [], [87, 88], [], [], [4, 7, 40, 90], [], [92, 93], [], []]) (rest' := [[56, 61, 66, 71, 76, 81, 86, 91], [59, 64, 69, 74, 79, 84, 89], [57, 58], [], [], [4, 7, 40, 60], [], [62, 63], [], [], [4, 7, 40, 65], [], [67, 68], [], [], [4, 7, 40, 70], [], [72, 73], [], [], [4, 7, 40, 75], [], [77, 78], [], [], [4, 7, 40, 80], [], [82, 83], [], [], [4, 7, 40, 85], [], [87, 88], [], [], [4, 7, 40, 90], [], [92, 93], [], []]) hR (by decide) rfl (by decide) (by decide) (by decide) dX2_init_55 (Or.inl ⟨rfl, rfl⟩) rfl rfl (by decide) (by decide) rfl ?_
  refine r_aload_n dX2_init_56 rfl ?_
  refine n_getR (rest := [[56, 61, 66, 71, 76, 81, 86, 91], [59, 64, 69, 74, 79, 84, 89], [57, 58], [], [], [4, 7, 40, 60], [], [62, 63], [], [], [4, 7, 40, 65], [], [67, 68], [], [], [4, 7, 40, 70], [], [72, 73], [], [], [4, 7, 40, 75], [], [77, 78], [], [], [4, 7, 40, 80], [], [82, 83], [], [], [4, 7, 40, 85], [], [87, 88], [], [], [4, 7, 40, 90], [], [92, 93], [], []]) hR (by decide) (by decide) rfl rfl (by decide) dX2_init_57 fl_X2_17 rfl ?_
  refine r_iload dX2_init_60 rfl ?_
  refine n_new (ci := 5) (m := 5) (rest := [[56, 61, 66, 71, 76, 81, 86, 91], [59, 64, 69, 74, 79, 84, 89], [57, 58], [], [], [4, 7, 40, 60], [], [62, 63], [], [], [4, 7, 40, 65], [], [67, 68], [], [], [4, 7, 40, 70], [], [72, 73], [], [], [4, 7, 40, 75], [], [77, 78], [], [], [4, 7, 40, 80], [], [82, 83], [], [], [4, 7, 40, 85], [], [87, 88], [], [], [4, 7, 40, 90], [], [92, 93], [], []]) hR rfl (by decide) rfl dX2_init_62 rfl wc_X2_15 wn_X5 wz_X5 (fun k _ => dv5 k) (by decide) ?_
  have z35 := z34.push (by decide)
  refine r_dup dX2_init_65 rfl ?_
  refine r_aload_n dX2_init_66 rfl ?_
  refine r_aload_n dX2_init_67 rfl ?_
  refine r_aload_n dX2_init_68 rfl ?_
  refine r_callI (z := mX5_init) (as := [vR 4, vR 7, vR 40]) (rc' := 1) (rs' := 24) (rc := 10) (rs := 268) dX2_init_69 mo_X5_init ws_X2_29 wi_X5 rfl rfl rfl (by decide) (Nat.le_of_ble_eq_true rfl) ?_
  refine i_X5_94 (n_len (rest := [[56, 61, 66, 71, 76, 81, 86, 91], [59, 64, 69, 74, 79, 84, 89], [57, 58], [], [], [4, 7, 40, 60], [], [62, 63], [], [], [4, 7, 40, 65], [], [67, 68], [], [], [4, 7, 40, 70], [], [72, 73], [], [], [4, 7, 40, 75], [], [77, 78], [], [], [4, 7, 40, 80], [], [82, 83], [], [], [4, 7, 40, 85], [], [87, 88], [], [], [4, 7, 40, 90], [], [92, 93], [], []]) hR rfl) z35 ?_
  intro σ36 z36
  refine n_as (rest := [[56, 61, 66, 71, 76, 81, 86, 91], [59, 64, 69, 74, 79, 84, 89], [57, 58], [], [], [4, 7, 40, 60], [], [62, 63], [], [], [4, 7, 40, 65], [], [67, 68], [], [], [4, 7, 40, 70], [], [72, 73], [], [], [4, 7, 40, 75], [], [77, 78], [], [], [4, 7, 40, 80], [], [82, 83], [], [], [4, 7, 40, 85], [], [87, 88], [], [], [4, 7, 40, 90], [], [92, 93], [], []]) (rest' := [[56, 61, 66, 71, 76, 81, 86, 91], [59, 64, 69, 74, 79, 84, 89], [57, 58], [], [], [4, 7, 40, 60], [], [62, 63], [], [], [4, 7, 40, 65], [], [67, 68], [], [], [4, 7, 40, 70], [], [72, 73], [], [], [4, 7, 40, 75], [], [77, 78], [], [], [4, 7, 40, 80], [], [82, 83], [], [], [4, 7, 40, 85], [], [87, 88], [], [], [4, 7, 40, 90], [], [92, 93], [], [], [4, 7, 40, 95], []]) rfl ?_
  refine n_aast (a := 55) (x := 94) (j := 1) (ci := 5) (m := 10) (i' := 7) (rest := [[56, 61, 66, 71, 76, 81, 86, 91], [59, 64, 69, 74, 79, 84, 89], [57, 58], [], [], [4, 7, 40, 60], [], [62, 63], [], [], [4, 7, 40, 65], [], [67, 68], [], [], [4, 7, 40, 70], [], [72, 73], [], [], [4, 7, 40, 75], [], [77, 78], [], [], [4, 7, 40, 80], [], [82, 83], [], [], [4, 7, 40, 85], [], [87, 88], [], [], [4, 7, 40, 90], [], [92, 93], [], [], [4, 7, 40, 95], []]) (rest' := [[56, 61, 66, 71, 76, 81, 86, 91], [59, 64, 69, 74, 79, 84, 89, 94], [57, 58], [], [], [4, 7, 40, 60], [], [62, 63], [], [], [4, 7, 40, 65], [], [67, 68], [], [], [4, 7, 40, 70], [], [72, 73], [], [], [4, 7, 40, 75], [], [77, 78], [], [], [4, 7, 40, 80], [], [82, 83], [], [], [4, 7, 40, 85], [], [87, 88], [], [], [4, 7, 40, 90], [], [92, 93], [], [], [4, 7, 40, 95], []]) hR (by decide) rfl (by decide) (by decide) (by decide) dX2_init_72 (Or.inr ⟨rfl, rfl⟩) rfl rfl (by decide) (by decide) rfl ?_
  refine r_iinc dX2_init_73 rfl (by decide) rfl rfl ⟨by decide, by decide⟩ ?_
  refine r_goto (tgt := 35) dX2_init_76 rfl ?_
  refine r_iload dX2_init_35 rfl ?_
  refine r_bipush dX2_init_37 (by decide +kernel) ⟨by decide, by decide⟩ ?_
  refine r_icmp_ge (tgt := 79) dX2_init_39 rfl (fun h => absurd h (by decide)) (fun _ => ?_)
  refine r_aload_n dX2_init_42 rfl ?_
  refine n_getR (rest := [[56, 61, 66, 71, 76, 81, 86, 91], [59, 64, 69, 74, 79, 84, 89, 94], [57, 58], [], [], [4, 7, 40, 60], [], [62, 63], [], [], [4, 7, 40, 65], [], [67, 68], [], [], [4, 7, 40, 70], [], [72, 73], [], [], [4, 7, 40, 75], [], [77, 78], [], [], [4, 7, 40, 80], [], [82, 83], [], [], [4, 7, 40, 85], [], [87, 88], [], [], [4, 7, 40, 90], [], [92, 93], [], [], [4, 7, 40, 95], []]) hR (by decide) (by decide) rfl rfl (by decide) dX2_init_43 fl_X2_11 rfl ?_
  refine r_iload dX2_init_46 rfl ?_
  refine n_new (ci := 0) (m := 9) (rest := [[56, 61, 66, 71, 76, 81, 86, 91], [59, 64, 69, 74, 79, 84, 89, 94], [57, 58], [], [], [4, 7, 40, 60], [], [62, 63], [], [], [4, 7, 40, 65], [], [67, 68], [], [], [4, 7, 40, 70], [], [72, 73], [], [], [4, 7, 40, 75], [], [77, 78], [], [], [4, 7, 40, 80], [], [82, 83], [], [], [4, 7, 40, 85], [], [87, 88], [], [], [4, 7, 40, 90], [], [92, 93], [], [], [4, 7, 40, 95], []]) hR rfl (by decide) rfl dX2_init_48 rfl wc_X2_9 wn_X0 wz_X0 (fun k _ => dv0 k) (by decide) ?_
  have z37 := z36.push (by decide)
  refine r_dup dX2_init_51 rfl ?_
  refine r_callIN (j := 3) (z := mX0_init) (as := []) (rc' := 2) (rs' := 96) (rc := 7) (rs := 163) dX2_init_52 mo_X0_init rfl wi_X0 rfl rfl rfl (by decide) (Nat.le_of_ble_eq_true rfl) ?_
  refine i_X0_96 (n_len (rest := [[56, 61, 66, 71, 76, 81, 86, 91], [59, 64, 69, 74, 79, 84, 89, 94], [57, 58], [], [], [4, 7, 40, 60], [], [62, 63], [], [], [4, 7, 40, 65], [], [67, 68], [], [], [4, 7, 40, 70], [], [72, 73], [], [], [4, 7, 40, 75], [], [77, 78], [], [], [4, 7, 40, 80], [], [82, 83], [], [], [4, 7, 40, 85], [], [87, 88], [], [], [4, 7, 40, 90], [], [92, 93], [], [], [4, 7, 40, 95], []]) hR rfl) z37 ?_
  intro σ38 z38
  refine n_as (rest := [[56, 61, 66, 71, 76, 81, 86, 91], [59, 64, 69, 74, 79, 84, 89, 94], [57, 58], [], [], [4, 7, 40, 60], [], [62, 63], [], [], [4, 7, 40, 65], [], [67, 68], [], [], [4, 7, 40, 70], [], [72, 73], [], [], [4, 7, 40, 75], [], [77, 78], [], [], [4, 7, 40, 80], [], [82, 83], [], [], [4, 7, 40, 85], [], [87, 88], [], [], [4, 7, 40, 90], [], [92, 93], [], [], [4, 7, 40, 95], []]) (rest' := [[56, 61, 66, 71, 76, 81, 86, 91], [59, 64, 69, 74, 79, 84, 89, 94], [57, 58], [], [], [4, 7, 40, 60], [], [62, 63], [], [], [4, 7, 40, 65], [], [67, 68], [], [], [4, 7, 40, 70], [], [72, 73], [], [], [4, 7, 40, 75], [], [77, 78], [], [], [4, 7, 40, 80], [], [82, 83], [], [], [4, 7, 40, 85], [], [87, 88], [], [], [4, 7, 40, 90], [], [92, 93], [], [], [4, 7, 40, 95], [], [97, 98], [], []]) rfl ?_
  refine n_aast (a := 54) (x := 96) (j := 0) (ci := 0) (m := 10) (i' := 8) (rest := [[56, 61, 66, 71, 76, 81, 86, 91], [59, 64, 69, 74, 79, 84, 89, 94], [57, 58], [], [], [4, 7, 40, 60], [], [62, 63], [], [], [4, 7, 40, 65], [], [67, 68], [], [], [4, 7, 40, 70], [], [72, 73], [], [], [4, 7, 40, 75], [], [77, 78], [], [], [4, 7, 40, 80], [], [82, 83], [], [], [4, 7, 40, 85], [], [87, 88], [], [], [4, 7, 40, 90], [], [92, 93], [], [], [4, 7, 40, 95], [], [97, 98], [], []]) (rest' := [[56, 61, 66, 71, 76, 81, 86, 91, 96], [59, 64, 69, 74, 79, 84, 89, 94], [57, 58], [], [], [4, 7, 40, 60], [], [62, 63], [], [], [4, 7, 40, 65], [], [67, 68], [], [], [4, 7, 40, 70], [], [72, 73], [], [], [4, 7, 40, 75], [], [77, 78], [], [], [4, 7, 40, 80], [], [82, 83], [], [], [4, 7, 40, 85], [], [87, 88], [], [], [4, 7, 40, 90], [], [92, 93], [], [], [4, 7, 40, 95], [], [97, 98], [], []]) hR (by decide) rfl (by decide) (by decide) (by decide) dX2_init_55 (Or.inl ⟨rfl, rfl⟩) rfl rfl (by decide) (by decide) rfl ?_
  refine r_aload_n dX2_init_56 rfl ?_
  refine n_getR (rest := [[56, 61, 66, 71, 76, 81, 86, 91, 96], [59, 64, 69, 74, 79, 84, 89, 94], [57, 58], [], [], [4, 7, 40, 60], [], [62, 63], [], [], [4, 7, 40, 65], [], [67, 68], [], [], [4, 7, 40, 70], [], [72, 73], [], [], [4, 7, 40, 75], [], [77, 78], [], [], [4, 7, 40, 80], [], [82, 83], [], [], [4, 7, 40, 85], [], [87, 88], [], [], [4, 7, 40, 90], [], [92, 93], [], [], [4, 7, 40, 95], [], [97, 98], [], []]) hR (by decide) (by decide) rfl rfl (by decide) dX2_init_57 fl_X2_17 rfl ?_
  refine r_iload dX2_init_60 rfl ?_
  refine n_new (ci := 5) (m := 5) (rest := [[56, 61, 66, 71, 76, 81, 86, 91, 96], [59, 64, 69, 74, 79, 84, 89, 94], [57, 58], [], [], [4, 7, 40, 60], [], [62, 63], [], [], [4, 7, 40, 65], [], [67, 68], [], [], [4, 7, 40, 70], [], [72, 73], [], [], [4, 7, 40, 75], [], [77, 78], [], [], [4, 7, 40, 80], [], [82, 83], [], [], [4, 7, 40, 85], [], [87, 88], [], [], [4, 7, 40, 90], [], [92, 93], [], [], [4, 7, 40, 95], [], [97, 98], [], []]) hR rfl (by decide) rfl dX2_init_62 rfl wc_X2_15 wn_X5 wz_X5 (fun k _ => dv5 k) (by decide) ?_
  have z39 := z38.push (by decide)
  refine r_dup dX2_init_65 rfl ?_
  refine r_aload_n dX2_init_66 rfl ?_
  refine r_aload_n dX2_init_67 rfl ?_
  refine r_aload_n dX2_init_68 rfl ?_
  refine r_callI (z := mX5_init) (as := [vR 4, vR 7, vR 40]) (rc' := 1) (rs' := 24) (rc := 5) (rs := 134) dX2_init_69 mo_X5_init ws_X2_29 wi_X5 rfl rfl rfl (by decide) (Nat.le_of_ble_eq_true rfl) ?_
  refine i_X5_99 (n_len (rest := [[56, 61, 66, 71, 76, 81, 86, 91, 96], [59, 64, 69, 74, 79, 84, 89, 94], [57, 58], [], [], [4, 7, 40, 60], [], [62, 63], [], [], [4, 7, 40, 65], [], [67, 68], [], [], [4, 7, 40, 70], [], [72, 73], [], [], [4, 7, 40, 75], [], [77, 78], [], [], [4, 7, 40, 80], [], [82, 83], [], [], [4, 7, 40, 85], [], [87, 88], [], [], [4, 7, 40, 90], [], [92, 93], [], [], [4, 7, 40, 95], [], [97, 98], [], []]) hR rfl) z39 ?_
  intro σ40 z40
  refine n_as (rest := [[56, 61, 66, 71, 76, 81, 86, 91, 96], [59, 64, 69, 74, 79, 84, 89, 94], [57, 58], [], [], [4, 7, 40, 60], [], [62, 63], [], [], [4, 7, 40, 65], [], [67, 68], [], [], [4, 7, 40, 70], [], [72, 73], [], [], [4, 7, 40, 75], [], [77, 78], [], [], [4, 7, 40, 80], [], [82, 83], [], [], [4, 7, 40, 85], [], [87, 88], [], [], [4, 7, 40, 90], [], [92, 93], [], [], [4, 7, 40, 95], [], [97, 98], [], []]) (rest' := [[56, 61, 66, 71, 76, 81, 86, 91, 96], [59, 64, 69, 74, 79, 84, 89, 94], [57, 58], [], [], [4, 7, 40, 60], [], [62, 63], [], [], [4, 7, 40, 65], [], [67, 68], [], [], [4, 7, 40, 70], [], [72, 73], [], [], [4, 7, 40, 75], [], [77, 78], [], [], [4, 7, 40, 80], [], [82, 83], [], [], [4, 7, 40, 85], [], [87, 88], [], [], [4, 7, 40, 90], [], [92, 93], [], [], [4, 7, 40, 95], [], [97, 98], [], [], [4, 7, 40, 100], []]) rfl ?_
  refine n_aast (a := 55) (x := 99) (j := 1) (ci := 5) (m := 10) (i' := 8) (rest := [[56, 61, 66, 71, 76, 81, 86, 91, 96], [59, 64, 69, 74, 79, 84, 89, 94], [57, 58], [], [], [4, 7, 40, 60], [], [62, 63], [], [], [4, 7, 40, 65], [], [67, 68], [], [], [4, 7, 40, 70], [], [72, 73], [], [], [4, 7, 40, 75], [], [77, 78], [], [], [4, 7, 40, 80], [], [82, 83], [], [], [4, 7, 40, 85], [], [87, 88], [], [], [4, 7, 40, 90], [], [92, 93], [], [], [4, 7, 40, 95], [], [97, 98], [], [], [4, 7, 40, 100], []]) (rest' := [[56, 61, 66, 71, 76, 81, 86, 91, 96], [59, 64, 69, 74, 79, 84, 89, 94, 99], [57, 58], [], [], [4, 7, 40, 60], [], [62, 63], [], [], [4, 7, 40, 65], [], [67, 68], [], [], [4, 7, 40, 70], [], [72, 73], [], [], [4, 7, 40, 75], [], [77, 78], [], [], [4, 7, 40, 80], [], [82, 83], [], [], [4, 7, 40, 85], [], [87, 88], [], [], [4, 7, 40, 90], [], [92, 93], [], [], [4, 7, 40, 95], [], [97, 98], [], [], [4, 7, 40, 100], []]) hR (by decide) rfl (by decide) (by decide) (by decide) dX2_init_72 (Or.inr ⟨rfl, rfl⟩) rfl rfl (by decide) (by decide) rfl ?_
  refine r_iinc dX2_init_73 rfl (by decide) rfl rfl ⟨by decide, by decide⟩ ?_
  refine r_goto (tgt := 35) dX2_init_76 rfl ?_
  refine r_iload dX2_init_35 rfl ?_
  refine r_bipush dX2_init_37 (by decide +kernel) ⟨by decide, by decide⟩ ?_
  refine r_icmp_ge (tgt := 79) dX2_init_39 rfl (fun h => absurd h (by decide)) (fun _ => ?_)
  refine r_aload_n dX2_init_42 rfl ?_
  refine n_getR (rest := [[56, 61, 66, 71, 76, 81, 86, 91, 96], [59, 64, 69, 74, 79, 84, 89, 94, 99], [57, 58], [], [], [4, 7, 40, 60], [], [62, 63], [], [], [4, 7, 40, 65], [], [67, 68], [], [], [4, 7, 40, 70], [], [72, 73], [], [], [4, 7, 40, 75], [], [77, 78], [], [], [4, 7, 40, 80], [], [82, 83], [], [], [4, 7, 40, 85], [], [87, 88], [], [], [4, 7, 40, 90], [], [92, 93], [], [], [4, 7, 40, 95], [], [97, 98], [], [], [4, 7, 40, 100], []]) hR (by decide) (by decide) rfl rfl (by decide) dX2_init_43 fl_X2_11 rfl ?_
  refine r_iload dX2_init_46 rfl ?_
  refine n_new (ci := 0) (m := 9) (rest := [[56, 61, 66, 71, 76, 81, 86, 91, 96], [59, 64, 69, 74, 79, 84, 89, 94, 99], [57, 58], [], [], [4, 7, 40, 60], [], [62, 63], [], [], [4, 7, 40, 65], [], [67, 68], [], [], [4, 7, 40, 70], [], [72, 73], [], [], [4, 7, 40, 75], [], [77, 78], [], [], [4, 7, 40, 80], [], [82, 83], [], [], [4, 7, 40, 85], [], [87, 88], [], [], [4, 7, 40, 90], [], [92, 93], [], [], [4, 7, 40, 95], [], [97, 98], [], [], [4, 7, 40, 100], []]) hR rfl (by decide) rfl dX2_init_48 rfl wc_X2_9 wn_X0 wz_X0 (fun k _ => dv0 k) (by decide) ?_
  have z41 := z40.push (by decide)
  refine r_dup dX2_init_51 rfl ?_
  refine r_callIN (j := 3) (z := mX0_init) (as := []) (rc' := 2) (rs' := 96) (rc := 2) (rs := 29) dX2_init_52 mo_X0_init rfl wi_X0 rfl rfl rfl (by decide) (Nat.le_of_ble_eq_true rfl) ?_
  refine i_X0_101 (n_len (rest := [[56, 61, 66, 71, 76, 81, 86, 91, 96], [59, 64, 69, 74, 79, 84, 89, 94, 99], [57, 58], [], [], [4, 7, 40, 60], [], [62, 63], [], [], [4, 7, 40, 65], [], [67, 68], [], [], [4, 7, 40, 70], [], [72, 73], [], [], [4, 7, 40, 75], [], [77, 78], [], [], [4, 7, 40, 80], [], [82, 83], [], [], [4, 7, 40, 85], [], [87, 88], [], [], [4, 7, 40, 90], [], [92, 93], [], [], [4, 7, 40, 95], [], [97, 98], [], [], [4, 7, 40, 100], []]) hR rfl) z41 ?_
  intro σ42 z42
  refine n_as (rest := [[56, 61, 66, 71, 76, 81, 86, 91, 96], [59, 64, 69, 74, 79, 84, 89, 94, 99], [57, 58], [], [], [4, 7, 40, 60], [], [62, 63], [], [], [4, 7, 40, 65], [], [67, 68], [], [], [4, 7, 40, 70], [], [72, 73], [], [], [4, 7, 40, 75], [], [77, 78], [], [], [4, 7, 40, 80], [], [82, 83], [], [], [4, 7, 40, 85], [], [87, 88], [], [], [4, 7, 40, 90], [], [92, 93], [], [], [4, 7, 40, 95], [], [97, 98], [], [], [4, 7, 40, 100], []]) (rest' := [[56, 61, 66, 71, 76, 81, 86, 91, 96], [59, 64, 69, 74, 79, 84, 89, 94, 99], [57, 58], [], [], [4, 7, 40, 60], [], [62, 63], [], [], [4, 7, 40, 65], [], [67, 68], [], [], [4, 7, 40, 70], [], [72, 73], [], [], [4, 7, 40, 75], [], [77, 78], [], [], [4, 7, 40, 80], [], [82, 83], [], [], [4, 7, 40, 85], [], [87, 88], [], [], [4, 7, 40, 90], [], [92, 93], [], [], [4, 7, 40, 95], [], [97, 98], [], [], [4, 7, 40, 100], [], [102, 103], [], []]) rfl ?_
  refine n_aast (a := 54) (x := 101) (j := 0) (ci := 0) (m := 10) (i' := 9) (rest := [[56, 61, 66, 71, 76, 81, 86, 91, 96], [59, 64, 69, 74, 79, 84, 89, 94, 99], [57, 58], [], [], [4, 7, 40, 60], [], [62, 63], [], [], [4, 7, 40, 65], [], [67, 68], [], [], [4, 7, 40, 70], [], [72, 73], [], [], [4, 7, 40, 75], [], [77, 78], [], [], [4, 7, 40, 80], [], [82, 83], [], [], [4, 7, 40, 85], [], [87, 88], [], [], [4, 7, 40, 90], [], [92, 93], [], [], [4, 7, 40, 95], [], [97, 98], [], [], [4, 7, 40, 100], [], [102, 103], [], []]) (rest' := [[56, 61, 66, 71, 76, 81, 86, 91, 96, 101], [59, 64, 69, 74, 79, 84, 89, 94, 99], [57, 58], [], [], [4, 7, 40, 60], [], [62, 63], [], [], [4, 7, 40, 65], [], [67, 68], [], [], [4, 7, 40, 70], [], [72, 73], [], [], [4, 7, 40, 75], [], [77, 78], [], [], [4, 7, 40, 80], [], [82, 83], [], [], [4, 7, 40, 85], [], [87, 88], [], [], [4, 7, 40, 90], [], [92, 93], [], [], [4, 7, 40, 95], [], [97, 98], [], [], [4, 7, 40, 100], [], [102, 103], [], []]) hR (by decide) rfl (by decide) (by decide) (by decide) dX2_init_55 (Or.inl ⟨rfl, rfl⟩) rfl rfl (by decide) (by decide) rfl ?_
  refine r_aload_n dX2_init_56 rfl ?_
  refine n_getR (rest := [[56, 61, 66, 71, 76, 81, 86, 91, 96, 101], [59, 64, 69, 74, 79, 84, 89, 94, 99], [57, 58], [], [], [4, 7, 40, 60], [], [62, 63], [], [], [4, 7, 40, 65], [], [67, 68], [], [], [4, 7, 40, 70], [], [72, 73], [], [], [4, 7, 40, 75], [], [77, 78], [], [], [4, 7, 40, 80], [], [82, 83], [], [], [4, 7, 40, 85], [], [87, 88], [], [], [4, 7, 40, 90], [], [92, 93], [], [], [4, 7, 40, 95], [], [97, 98], [], [], [4, 7, 40, 100], [], [102, 103], [], []]) hR (by decide) (by decide) rfl rfl (by decide) dX2_init_57 fl_X2_17 rfl ?_
  refine r_iload dX2_init_60 rfl ?_
  refine n_new (ci := 5) (m := 5) (rest := [[56, 61, 66, 71, 76, 81, 86, 91, 96, 101], [59, 64, 69, 74, 79, 84, 89, 94, 99], [57, 58], [], [], [4, 7, 40, 60], [], [62, 63], [], [], [4, 7, 40, 65], [], [67, 68], [], [], [4, 7, 40, 70], [], [72, 73], [], [], [4, 7, 40, 75], [], [77, 78], [], [], [4, 7, 40, 80], [], [82, 83], [], [], [4, 7, 40, 85], [], [87, 88], [], [], [4, 7, 40, 90], [], [92, 93], [], [], [4, 7, 40, 95], [], [97, 98], [], [], [4, 7, 40, 100], [], [102, 103], [], []]) hR rfl (by decide) rfl dX2_init_62 rfl wc_X2_15 wn_X5 wz_X5 (fun k _ => dv5 k) (by decide) ?_
  have z43 := z42.push (by decide)
  refine r_dup dX2_init_65 rfl ?_
  refine r_aload_n dX2_init_66 rfl ?_
  refine r_aload_n dX2_init_67 rfl ?_
  refine r_aload_n dX2_init_68 rfl ?_
  refine r_callI (z := mX5_init) (as := [vR 4, vR 7, vR 40]) (rc' := 1) (rs' := 24) (rc := 0) (rs := 0) dX2_init_69 mo_X5_init ws_X2_29 wi_X5 rfl rfl rfl (by decide) (Nat.le_of_ble_eq_true rfl) ?_
  refine i_X5_104 (n_len (rest := [[56, 61, 66, 71, 76, 81, 86, 91, 96, 101], [59, 64, 69, 74, 79, 84, 89, 94, 99], [57, 58], [], [], [4, 7, 40, 60], [], [62, 63], [], [], [4, 7, 40, 65], [], [67, 68], [], [], [4, 7, 40, 70], [], [72, 73], [], [], [4, 7, 40, 75], [], [77, 78], [], [], [4, 7, 40, 80], [], [82, 83], [], [], [4, 7, 40, 85], [], [87, 88], [], [], [4, 7, 40, 90], [], [92, 93], [], [], [4, 7, 40, 95], [], [97, 98], [], [], [4, 7, 40, 100], [], [102, 103], [], []]) hR rfl) z43 ?_
  intro σ44 z44
  refine n_as (rest := [[56, 61, 66, 71, 76, 81, 86, 91, 96, 101], [59, 64, 69, 74, 79, 84, 89, 94, 99], [57, 58], [], [], [4, 7, 40, 60], [], [62, 63], [], [], [4, 7, 40, 65], [], [67, 68], [], [], [4, 7, 40, 70], [], [72, 73], [], [], [4, 7, 40, 75], [], [77, 78], [], [], [4, 7, 40, 80], [], [82, 83], [], [], [4, 7, 40, 85], [], [87, 88], [], [], [4, 7, 40, 90], [], [92, 93], [], [], [4, 7, 40, 95], [], [97, 98], [], [], [4, 7, 40, 100], [], [102, 103], [], []]) (rest' := [[56, 61, 66, 71, 76, 81, 86, 91, 96, 101], [59, 64, 69, 74, 79, 84, 89, 94, 99], [57, 58], [], [], [4, 7, 40, 60], [], [62, 63], [], [], [4, 7, 40, 65], [], [67, 68], [], [], [4, 7, 40, 70], [], [72, 73], [], [], [4, 7, 40, 75], [], [77, 78], [], [], [4, 7, 40, 80], [], [82, 83], [], [], [4, 7, 40, 85], [], [87, 88], [], [], [4, 7, 40, 90], [], [92, 93], [], [], [4, 7, 40, 95], [], [97, 98], [], [], [4, 7, 40, 100], [], [102, 103], [], [], [4, 7, 40, 105], []]) rfl ?_
  refine n_aast (a := 55) (x := 104) (j := 1) (ci := 5) (m := 10) (i' := 9) (rest := [[56, 61, 66, 71, 76, 81, 86, 91, 96, 101], [59, 64, 69, 74, 79, 84, 89, 94, 99], [57, 58], [], [], [4, 7, 40, 60], [], [62, 63], [], [], [4, 7, 40, 65], [], [67, 68], [], [], [4, 7, 40, 70], [], [72, 73], [], [], [4, 7, 40, 75], [], [77, 78], [], [], [4, 7, 40, 80], [], [82, 83], [], [], [4, 7, 40, 85], [], [87, 88], [], [], [4, 7, 40, 90], [], [92, 93], [], [], [4, 7, 40, 95], [], [97, 98], [], [], [4, 7, 40, 100], [], [102, 103], [], [], [4, 7, 40, 105], []]) (rest' := [[56, 61, 66, 71, 76, 81, 86, 91, 96, 101], [59, 64, 69, 74, 79, 84, 89, 94, 99, 104], [57, 58], [], [], [4, 7, 40, 60], [], [62, 63], [], [], [4, 7, 40, 65], [], [67, 68], [], [], [4, 7, 40, 70], [], [72, 73], [], [], [4, 7, 40, 75], [], [77, 78], [], [], [4, 7, 40, 80], [], [82, 83], [], [], [4, 7, 40, 85], [], [87, 88], [], [], [4, 7, 40, 90], [], [92, 93], [], [], [4, 7, 40, 95], [], [97, 98], [], [], [4, 7, 40, 100], [], [102, 103], [], [], [4, 7, 40, 105], []]) hR (by decide) rfl (by decide) (by decide) (by decide) dX2_init_72 (Or.inr ⟨rfl, rfl⟩) rfl rfl (by decide) (by decide) rfl ?_
  refine r_iinc dX2_init_73 rfl (by decide) rfl rfl ⟨by decide, by decide⟩ ?_
  refine r_goto (tgt := 35) dX2_init_76 rfl ?_
  refine r_iload dX2_init_35 rfl ?_
  refine r_bipush dX2_init_37 (by decide +kernel) ⟨by decide, by decide⟩ ?_
  refine r_icmp_ge (tgt := 79) dX2_init_39 rfl (fun _ => ?_) (fun h => absurd (by decide) h)
  exact r_vret dX2_init_79 rfl (hQ _ z44)
theorem i_X0_106 {Rp : List (List Nat)} {kB : Nat → Nat × Nat} {σ0 σ : StT} {Q : Int → ShT → StT → Prop} (hR : Rp.length = 106) (z0 : ZI σ0 σ 107) (hQ : ∀ σ' : StT, ZI σ0 σ' 109 → Q 0 (shN 109 (Rp ++ [[107, 108], [], []]) kB) σ') : WPm mX0_init [vR 106] (shN 107 (Rp ++ [[]]) kB) σ 2 96 Q := by
  refine r_entry (by decide) (Nat.le_of_ble_eq_true rfl) rfl rfl ?_
  refine r_aload_n dX0_init_0 rfl ?_
  refine r_objI dX0_init_1 wo_X0 (Nat.le_of_ble_eq_true rfl) (Nat.le_of_ble_eq_true rfl) ?_
  refine r_aload_n dX0_init_4 rfl ?_
  refine r_bipush dX0_init_5 (by decide +kernel) ⟨by decide, by decide⟩ ?_
  refine n_newI (m := 48) (kk := 1) (rest := []) (rest' := [[]]) hR rfl (by decide) rfl rfl dX0_init_7 (Or.inl ⟨rfl, rfl⟩) w_newI rfl (by decide) ?_
  have z1 := z0.push (by decide)
  refine n_putR (row' := [107]) (rest := [[]]) hR (by decide) (by decide) rfl rfl dX0_init_9 fl_X0_9 (fun _ h => by cases h; exact ⟨rfl, rfl⟩) rfl rfl (by decide) ?_
  refine r_aload_n dX0_init_12 rfl ?_
  refine r_bipush dX0_init_13 (by decide +kernel) ⟨by decide, by decide⟩ ?_
  refine n_newI (m := 48) (kk := 1) (rest := [[]]) (rest' := [[], []]) hR rfl (by decide) rfl rfl dX0_init_15 (Or.inl ⟨rfl, rfl⟩) w_newI rfl (by decide) ?_
  have z2 := z1.push (by decide)
  refine n_putR (row' := [107, 108]) (rest := [[], []]) hR (by decide) (by decide) rfl rfl dX0_init_17 fl_X0_15 (fun _ h => by cases h; exact ⟨rfl, rfl⟩) rfl rfl (by decide) ?_
  refine r_aload_n dX0_init_20 rfl ?_
  refine r_iconst dX0_init_21 ⟨by decide, by decide⟩ ?_
  refine n_putI (rest := [[], []]) (by decide) (by decide) rfl dX0_init_22 fl_X0_18 (fun _ h => by cases h; rfl) (Or.inl rfl) ?_
  have z3 := z2.put0 (o := 106) (k := 2) (by decide)
  refine r_aload_n dX0_init_25 rfl ?_
  refine r_iconst dX0_init_26 ⟨by decide, by decide⟩ ?_
  refine n_putI (rest := [[], []]) (by decide) (by decide) rfl dX0_init_27 fl_X0_22 (fun _ h => by cases h; rfl) (Or.inl rfl) ?_
  have z4 := z3.put0 (o := 106) (k := 3) (by decide)
  refine r_aload_n dX0_init_30 rfl ?_
  refine r_iconst dX0_init_31 ⟨by decide, by decide⟩ ?_
  refine n_putI (rest := [[], []]) (by decide) (by decide) rfl dX0_init_32 fl_X0_25 (fun _ h => by cases h; rfl) (Or.inl rfl) ?_
  have z5 := z4.put0 (o := 106) (k := 4) (by decide)
  refine r_aload_n dX0_init_35 rfl ?_
  refine r_iconst dX0_init_36 ⟨by decide, by decide⟩ ?_
  refine n_putI (rest := [[], []]) (by decide) (by decide) rfl dX0_init_37 fl_X0_28 (fun _ h => by cases h; rfl) (Or.inl rfl) ?_
  have z6 := z5.put0 (o := 106) (k := 5) (by decide)
  refine r_aload_n dX0_init_40 rfl ?_
  refine r_iconst dX0_init_41 ⟨by decide, by decide⟩ ?_
  refine n_putI (rest := [[], []]) (by decide) (by decide) rfl dX0_init_42 fl_X0_31 (fun _ h => by cases h; rfl) (Or.inl rfl) ?_
  have z7 := z6.put0 (o := 106) (k := 6) (by decide)
  refine r_aload_n dX0_init_45 rfl ?_
  refine r_iconst dX0_init_46 ⟨by decide, by decide⟩ ?_
  refine n_putI (rest := [[], []]) (by decide) (by decide) rfl dX0_init_47 fl_X0_34 (fun _ h => by cases h; rfl) (Or.inl rfl) ?_
  have z8 := z7.putx (o := 106) (k := 7) (v := 1) (by decide) (by decide)
  refine r_aload_n dX0_init_50 rfl ?_
  refine r_iconst dX0_init_51 ⟨by decide, by decide⟩ ?_
  refine n_putI (rest := [[], []]) (by decide) (by decide) rfl dX0_init_52 fl_X0_37 (fun _ h => by cases h; rfl) (Or.inl rfl) ?_
  have z9 := z8.putx (o := 106) (k := 8) (v := 1) (by decide) (by decide)
  exact r_vret dX0_init_55 rfl (hQ _ z9)
theorem i_X1_110 {Rp : List (List Nat)} {kB : Nat → Nat × Nat} {σ0 σ : StT} {Q : Int → ShT → StT → Prop} (hR : Rp.length = 110) (z0 : ZI σ0 σ 111) (hQ : ∀ σ' : StT, ZI σ0 σ' 114 → Q 0 (shN 114 (Rp ++ [[111, 112, 0, 113], [], [], []]) kB) σ') : WPm mX1_init [vR 110] (shN 111 (Rp ++ [[]]) kB) σ 3 144 Q := by
  refine r_entry (by decide) (Nat.le_of_ble_eq_true rfl) rfl rfl ?_
  refine r_aload_n dX1_init_0 rfl ?_
  refine r_objI dX1_init_1 wo_X1 (Nat.le_of_ble_eq_true rfl) (Nat.le_of_ble_eq_true rfl) ?_
  refine r_aload_n dX1_init_4 rfl ?_
  refine r_bipush dX1_init_5 (by decide +kernel) ⟨by decide, by decide⟩ ?_
  refine n_newI (m := 48) (kk := 1) (rest := []) (rest' := [[]]) hR rfl (by decide) rfl rfl dX1_init_7 (Or.inl ⟨rfl, rfl⟩) w_newI rfl (by decide) ?_
  have z1 := z0.push (by decide)
  refine n_putR (row' := [111]) (rest := [[]]) hR (by decide) (by decide) rfl rfl dX1_init_9 fl_X1_9 (fun _ h => by cases h; exact ⟨rfl, rfl⟩) rfl rfl (by decide) ?_
  refine r_aload_n dX1_init_12 rfl ?_
  refine r_bipush dX1_init_13 (by decide +kernel) ⟨by decide, by decide⟩ ?_
  refine n_newI (m := 48) (kk := 1) (rest := [[]]) (rest' := [[], []]) hR rfl (by decide) rfl rfl dX1_init_15 (Or.inl ⟨rfl, rfl⟩) w_newI rfl (by decide) ?_
  have z2 := z1.push (by decide)
  refine n_putR (row' := [111, 112]) (rest := [[], []]) hR (by decide) (by decide) rfl rfl dX1_init_17 fl_X1_15 (fun _ h => by cases h; exact ⟨rfl, rfl⟩) rfl rfl (by decide) ?_
  refine r_aload_n dX1_init_20 rfl ?_
  refine r_iconst dX1_init_21 ⟨by decide, by decide⟩ ?_
  refine n_putI (rest := [[], []]) (by decide) (by decide) rfl dX1_init_22 fl_X1_18 (fun _ h => by cases h; rfl) (Or.inl rfl) ?_
  have z3 := z2.put0 (o := 110) (k := 2) (by decide)
  refine r_aload_n dX1_init_25 rfl ?_
  refine r_bipush dX1_init_26 (by decide +kernel) ⟨by decide, by decide⟩ ?_
  refine n_newI (m := 48) (kk := 1) (rest := [[], []]) (rest' := [[], [], []]) hR rfl (by decide) rfl rfl dX1_init_28 (Or.inl ⟨rfl, rfl⟩) w_newI rfl (by decide) ?_
  have z4 := z3.push (by decide)
  refine n_putR (row' := [111, 112, 0, 113]) (rest := [[], [], []]) hR (by decide) (by decide) rfl rfl dX1_init_30 fl_X1_22 (fun _ h => by cases h; exact ⟨rfl, rfl⟩) rfl rfl (by decide) ?_
  refine r_aload_n dX1_init_33 rfl ?_
  refine r_iconst dX1_init_34 ⟨by decide, by decide⟩ ?_
  refine n_putI (rest := [[], [], []]) (by decide) (by decide) rfl dX1_init_35 fl_X1_25 (fun _ h => by cases h; rfl) (Or.inl rfl) ?_
  have z5 := z4.put0 (o := 110) (k := 4) (by decide)
  exact r_vret dX1_init_38 rfl (hQ _ z5)
theorem i_X1_114 {Rp : List (List Nat)} {kB : Nat → Nat × Nat} {σ0 σ : StT} {Q : Int → ShT → StT → Prop} (hR : Rp.length = 114) (z0 : ZI σ0 σ 115) (hQ : ∀ σ' : StT, ZI σ0 σ' 118 → Q 0 (shN 118 (Rp ++ [[115, 116, 0, 117], [], [], []]) kB) σ') : WPm mX1_init [vR 114] (shN 115 (Rp ++ [[]]) kB) σ 3 144 Q := by
  refine r_entry (by decide) (Nat.le_of_ble_eq_true rfl) rfl rfl ?_
  refine r_aload_n dX1_init_0 rfl ?_
  refine r_objI dX1_init_1 wo_X1 (Nat.le_of_ble_eq_true rfl) (Nat.le_of_ble_eq_true rfl) ?_
  refine r_aload_n dX1_init_4 rfl ?_
  refine r_bipush dX1_init_5 (by decide +kernel) ⟨by decide, by decide⟩ ?_
  refine n_newI (m := 48) (kk := 1) (rest := []) (rest' := [[]]) hR rfl (by decide) rfl rfl dX1_init_7 (Or.inl ⟨rfl, rfl⟩) w_newI rfl (by decide) ?_
  have z1 := z0.push (by decide)
  refine n_putR (row' := [115]) (rest := [[]]) hR (by decide) (by decide) rfl rfl dX1_init_9 fl_X1_9 (fun _ h => by cases h; exact ⟨rfl, rfl⟩) rfl rfl (by decide) ?_
  refine r_aload_n dX1_init_12 rfl ?_
  refine r_bipush dX1_init_13 (by decide +kernel) ⟨by decide, by decide⟩ ?_
  refine n_newI (m := 48) (kk := 1) (rest := [[]]) (rest' := [[], []]) hR rfl (by decide) rfl rfl dX1_init_15 (Or.inl ⟨rfl, rfl⟩) w_newI rfl (by decide) ?_
  have z2 := z1.push (by decide)
  refine n_putR (row' := [115, 116]) (rest := [[], []]) hR (by decide) (by decide) rfl rfl dX1_init_17 fl_X1_15 (fun _ h => by cases h; exact ⟨rfl, rfl⟩) rfl rfl (by decide) ?_
  refine r_aload_n dX1_init_20 rfl ?_
  refine r_iconst dX1_init_21 ⟨by decide, by decide⟩ ?_
  refine n_putI (rest := [[], []]) (by decide) (by decide) rfl dX1_init_22 fl_X1_18 (fun _ h => by cases h; rfl) (Or.inl rfl) ?_
  have z3 := z2.put0 (o := 114) (k := 2) (by decide)
  refine r_aload_n dX1_init_25 rfl ?_
  refine r_bipush dX1_init_26 (by decide +kernel) ⟨by decide, by decide⟩ ?_
  refine n_newI (m := 48) (kk := 1) (rest := [[], []]) (rest' := [[], [], []]) hR rfl (by decide) rfl rfl dX1_init_28 (Or.inl ⟨rfl, rfl⟩) w_newI rfl (by decide) ?_
  have z4 := z3.push (by decide)
  refine n_putR (row' := [115, 116, 0, 117]) (rest := [[], [], []]) hR (by decide) (by decide) rfl rfl dX1_init_30 fl_X1_22 (fun _ h => by cases h; exact ⟨rfl, rfl⟩) rfl rfl (by decide) ?_
  refine r_aload_n dX1_init_33 rfl ?_
  refine r_iconst dX1_init_34 ⟨by decide, by decide⟩ ?_
  refine n_putI (rest := [[], [], []]) (by decide) (by decide) rfl dX1_init_35 fl_X1_25 (fun _ h => by cases h; rfl) (Or.inl rfl) ?_
  have z5 := z4.put0 (o := 114) (k := 4) (by decide)
  exact r_vret dX1_init_38 rfl (hQ _ z5)
theorem i_X3_109 {Rp : List (List Nat)} {kB : Nat → Nat × Nat} {σ0 σ : StT} {Q : Int → ShT → StT → Prop} (hR : Rp.length = 109) (z0 : ZI σ0 σ 110) (hQ : ∀ σ' : StT, ZI σ0 σ' 122 → Q 0 (shN 122 (Rp ++ [[106, 110, 114, 118, 119, 120, 121], [111, 112, 0, 113], [], [], [], [115, 116, 0, 117], [], [], [], [], [], [], []]) kB) σ') : WPm mX3_init [vR 109, vR 106] (shN 110 (Rp ++ [[]]) kB) σ 12 490 Q := by
  refine r_entry (by decide) (Nat.le_of_ble_eq_true rfl) rfl rfl ?_
  refine r_aload_n dX3_init_0 rfl ?_
  refine r_objI dX3_init_1 wo_X3 (Nat.le_of_ble_eq_true rfl) (Nat.le_of_ble_eq_true rfl) ?_
  refine r_aload_n dX3_init_4 rfl ?_
  refine n_new (ci := 1) (m := 5) (rest := []) hR rfl (by decide) rfl dX3_init_5 rfl wc_X3_9 wn_X1 wz_X1 (fun k _ => dv1 k) (by decide) ?_
  have z1 := z0.push (by decide)
  refine r_dup dX3_init_8 rfl ?_
  refine r_callIN (j := 2) (z := mX1_init) (as := []) (rc' := 3) (rs' := 144) (rc := 8) (rs := 341) dX3_init_9 mo_X1_init rfl wi_X1 rfl rfl rfl (by decide) (Nat.le_of_ble_eq_true rfl) ?_
  refine i_X1_110 (n_len (rest := []) hR rfl) z1 ?_
  intro σ2 z2
  refine n_as (rest := []) (rest' := [[111, 112, 0, 113], [], [], []]) rfl ?_
  refine n_putR (row' := [0, 110]) (rest := [[111, 112, 0, 113], [], [], []]) hR (by decide) (by decide) rfl rfl dX3_init_12 fl_X3_12 (fun _ h => by cases h; exact ⟨rfl, rfl⟩) rfl rfl (by decide) ?_
  refine r_aload_n dX3_init_15 rfl ?_
  refine n_new (ci := 1) (m := 5) (rest := [[111, 112, 0, 113], [], [], []]) hR rfl (by decide) rfl dX3_init_16 rfl wc_X3_9 wn_X1 wz_X1 (fun k _ => dv1 k) (by decide) ?_
  have z3 := z2.push (by decide)
  refine r_dup dX3_init_19 rfl ?_
  refine r_callIN (j := 2) (z := mX1_init) (as := []) (rc' := 3) (rs' := 144) (rc := 4) (rs := 192) dX3_init_20 mo_X1_init rfl wi_X1 rfl rfl rfl (by decide) (Nat.le_of_ble_eq_true rfl) ?_
  refine i_X1_114 (n_len (rest := [[111, 112, 0, 113], [], [], []]) hR rfl) z3 ?_
  intro σ4 z4
  refine n_as (rest := [[111, 112, 0, 113], [], [], []]) (rest' := [[111, 112, 0, 113], [], [], [], [115, 116, 0, 117], [], [], []]) rfl ?_
  refine n_putR (row' := [0, 110, 114]) (rest := [[111, 112, 0, 113], [], [], [], [115, 116, 0, 117], [], [], []]) hR (by decide) (by decide) rfl rfl dX3_init_23 fl_X3_18 (fun _ h => by cases h; exact ⟨rfl, rfl⟩) rfl rfl (by decide) ?_
  refine r_aload_n dX3_init_26 rfl ?_
  refine r_bipush dX3_init_27 (by decide +kernel) ⟨by decide, by decide⟩ ?_
  refine n_newI (m := 48) (kk := 1) (rest := [[111, 112, 0, 113], [], [], [], [115, 116, 0, 117], [], [], []]) (rest' := [[111, 112, 0, 113], [], [], [], [115, 116, 0, 117], [], [], [], []]) hR rfl (by decide) rfl rfl dX3_init_29 (Or.inl ⟨rfl, rfl⟩) w_newI rfl (by decide) ?_
  have z5 := z4.push (by decide)
  refine n_putR (row' := [0, 110, 114, 118]) (rest := [[111, 112, 0, 113], [], [], [], [115, 116, 0, 117], [], [], [], []]) hR (by decide) (by decide) rfl rfl dX3_init_31 fl_X3_21 (fun _ h => by cases h; exact ⟨rfl, rfl⟩) rfl rfl (by decide) ?_
  refine r_aload_n dX3_init_34 rfl ?_
  refine r_bipush dX3_init_35 (by decide +kernel) ⟨by decide, by decide⟩ ?_
  refine n_newI (m := 48) (kk := 1) (rest := [[111, 112, 0, 113], [], [], [], [115, 116, 0, 117], [], [], [], []]) (rest' := [[111, 112, 0, 113], [], [], [], [115, 116, 0, 117], [], [], [], [], []]) hR rfl (by decide) rfl rfl dX3_init_37 (Or.inl ⟨rfl, rfl⟩) w_newI rfl (by decide) ?_
  have z6 := z5.push (by decide)
  refine n_putR (row' := [0, 110, 114, 118, 119]) (rest := [[111, 112, 0, 113], [], [], [], [115, 116, 0, 117], [], [], [], [], []]) hR (by decide) (by decide) rfl rfl dX3_init_39 fl_X3_25 (fun _ h => by cases h; exact ⟨rfl, rfl⟩) rfl rfl (by decide) ?_
  refine r_aload_n dX3_init_42 rfl ?_
  refine r_bipush dX3_init_43 (by decide +kernel) ⟨by decide, by decide⟩ ?_
  refine n_newI (m := 48) (kk := 1) (rest := [[111, 112, 0, 113], [], [], [], [115, 116, 0, 117], [], [], [], [], []]) (rest' := [[111, 112, 0, 113], [], [], [], [115, 116, 0, 117], [], [], [], [], [], []]) hR rfl (by decide) rfl rfl dX3_init_45 (Or.inl ⟨rfl, rfl⟩) w_newI rfl (by decide) ?_
  have z7 := z6.push (by decide)
  refine n_putR (row' := [0, 110, 114, 118, 119, 120]) (rest := [[111, 112, 0, 113], [], [], [], [115, 116, 0, 117], [], [], [], [], [], []]) hR (by decide) (by decide) rfl rfl dX3_init_47 fl_X3_28 (fun _ h => by cases h; exact ⟨rfl, rfl⟩) rfl rfl (by decide) ?_
  refine r_aload_n dX3_init_50 rfl ?_
  refine r_bipush dX3_init_51 (by decide +kernel) ⟨by decide, by decide⟩ ?_
  refine n_newI (m := 48) (kk := 1) (rest := [[111, 112, 0, 113], [], [], [], [115, 116, 0, 117], [], [], [], [], [], []]) (rest' := [[111, 112, 0, 113], [], [], [], [115, 116, 0, 117], [], [], [], [], [], [], []]) hR rfl (by decide) rfl rfl dX3_init_53 (Or.inl ⟨rfl, rfl⟩) w_newI rfl (by decide) ?_
  have z8 := z7.push (by decide)
  refine n_putR (row' := [0, 110, 114, 118, 119, 120, 121]) (rest := [[111, 112, 0, 113], [], [], [], [115, 116, 0, 117], [], [], [], [], [], [], []]) hR (by decide) (by decide) rfl rfl dX3_init_55 fl_X3_31 (fun _ h => by cases h; exact ⟨rfl, rfl⟩) rfl rfl (by decide) ?_
  refine r_aload_n dX3_init_58 rfl ?_
  refine r_aload_n dX3_init_59 rfl ?_
  refine n_putR (row' := [106, 110, 114, 118, 119, 120, 121]) (rest := [[111, 112, 0, 113], [], [], [], [115, 116, 0, 117], [], [], [], [], [], [], []]) hR (by decide) (by decide) rfl rfl dX3_init_60 fl_X3_34 (fun _ h => by cases h; exact ⟨rfl, rfl⟩) rfl rfl (by decide) ?_
  exact r_vret dX3_init_63 rfl (hQ _ z8)
theorem i_X5_122 {Rp : List (List Nat)} {kB : Nat → Nat × Nat} {σ0 σ : StT} {Q : Int → ShT → StT → Prop} (hR : Rp.length = 122) (z0 : ZI σ0 σ 123) (hQ : ∀ σ' : StT, ZI σ0 σ' 124 → Q 0 (shN 124 (Rp ++ [[4, 7, 40, 123], []]) kB) σ') : WPm mX5_init [vR 122, vR 4, vR 7, vR 40] (shN 123 (Rp ++ [[]]) kB) σ 1 24 Q := by
  refine r_entry (by decide) (Nat.le_of_ble_eq_true rfl) rfl rfl ?_
  refine r_aload_n dX5_init_0 rfl ?_
  refine r_objI dX5_init_1 wo_X5 (Nat.le_of_ble_eq_true rfl) (Nat.le_of_ble_eq_true rfl) ?_
  refine r_aload_n dX5_init_4 rfl ?_
  refine r_bipush dX5_init_5 (by decide +kernel) ⟨by decide, by decide⟩ ?_
  refine n_newI (m := 24) (kk := 1) (rest := []) (rest' := [[]]) hR rfl (by decide) rfl rfl dX5_init_7 (Or.inl ⟨rfl, rfl⟩) w_newI rfl (by decide) ?_
  have z1 := z0.push (by decide)
  refine n_putR (row' := [0, 0, 0, 123]) (rest := [[]]) hR (by decide) (by decide) rfl rfl dX5_init_9 fl_X5_9 (fun _ h => by cases h; exact ⟨rfl, rfl⟩) rfl rfl (by decide) ?_
  refine r_aload_n dX5_init_12 rfl ?_
  refine r_iconst dX5_init_13 ⟨by decide, by decide⟩ ?_
  refine n_putI (rest := [[]]) (by decide) (by decide) rfl dX5_init_14 fl_X5_15 (fun _ h => by cases h; rfl) (Or.inl rfl) ?_
  have z2 := z1.put0 (o := 122) (k := 4) (by decide)
  refine r_aload_n dX5_init_17 rfl ?_
  refine r_aload_n dX5_init_18 rfl ?_
  refine n_putR (row' := [4, 0, 0, 123]) (rest := [[]]) hR (by decide) (by decide) rfl rfl dX5_init_19 fl_X5_19 (fun _ h => by cases h; exact ⟨rfl, rfl⟩) rfl rfl (by decide) ?_
  refine r_aload_n dX5_init_22 rfl ?_
  refine r_aload_n dX5_init_23 rfl ?_
  refine n_putR (row' := [4, 7, 0, 123]) (rest := [[]]) hR (by decide) (by decide) rfl rfl dX5_init_24 fl_X5_23 (fun _ h => by cases h; exact ⟨rfl, rfl⟩) rfl rfl (by decide) ?_
  refine r_aload_n dX5_init_27 rfl ?_
  refine r_aload_n dX5_init_28 rfl ?_
  refine n_putR (row' := [4, 7, 40, 123]) (rest := [[]]) hR (by decide) (by decide) rfl rfl dX5_init_29 fl_X5_27 (fun _ h => by cases h; exact ⟨rfl, rfl⟩) rfl rfl (by decide) ?_
  exact r_vret dX5_init_32 rfl (hQ _ z2)
theorem i_X6_124 {Rp : List (List Nat)} {kB : Nat → Nat × Nat} {σ0 σ : StT} {Q : Int → ShT → StT → Prop} (hR : Rp.length = 124) (z0 : ZI σ0 σ 125) (hQ : ∀ σ' : StT, ZI σ0 σ' 125 → Q 0 (shN 125 (Rp ++ [[2, 106]]) kB) σ') : WPm mX6_init [vR 124, vR 2, vR 106] (shN 125 (Rp ++ [[]]) kB) σ 0 0 Q := by
  refine r_entry (by decide) (Nat.le_of_ble_eq_true rfl) rfl rfl ?_
  refine r_aload_n dX6_init_0 rfl ?_
  refine r_objI dX6_init_1 wo_X6 (Nat.le_of_ble_eq_true rfl) (Nat.le_of_ble_eq_true rfl) ?_
  refine r_aload_n dX6_init_4 rfl ?_
  refine r_iconst dX6_init_5 ⟨by decide, by decide⟩ ?_
  refine n_putI (rest := []) (by decide) (by decide) rfl dX6_init_6 fl_X6_9 (fun _ h => by cases h; rfl) (Or.inr ⟨rfl, by decide⟩) ?_
  have z1 := z0.put0 (o := 124) (k := 2) (by decide)
  refine r_aload_n dX6_init_9 rfl ?_
  refine r_iconst dX6_init_10 ⟨by decide, by decide⟩ ?_
  refine n_putI (rest := []) (by decide) (by decide) rfl dX6_init_11 fl_X6_15 (fun _ h => by cases h; rfl) (Or.inr ⟨rfl, by decide⟩) ?_
  have z2 := z1.put0 (o := 124) (k := 3) (by decide)
  refine r_aload_n dX6_init_14 rfl ?_
  refine r_iconst dX6_init_15 ⟨by decide, by decide⟩ ?_
  refine n_putI (rest := []) (by decide) (by decide) rfl dX6_init_16 fl_X6_18 (fun _ h => by cases h; rfl) (Or.inr ⟨rfl, by decide⟩) ?_
  have z3 := z2.put0 (o := 124) (k := 4) (by decide)
  refine r_aload_n dX6_init_19 rfl ?_
  refine r_iconst dX6_init_20 ⟨by decide, by decide⟩ ?_
  refine n_putI (rest := []) (by decide) (by decide) rfl dX6_init_21 fl_X6_21 (fun _ h => by cases h; rfl) (Or.inl rfl) ?_
  have z4 := z3.put0 (o := 124) (k := 5) (by decide)
  refine r_aload_n dX6_init_24 rfl ?_
  refine r_iconst dX6_init_25 ⟨by decide, by decide⟩ ?_
  refine n_putI (rest := []) (by decide) (by decide) rfl dX6_init_26 fl_X6_25 (fun _ h => by cases h; rfl) (Or.inl rfl) ?_
  have z5 := z4.putx (o := 124) (k := 6) (v := -1) (by decide) (by decide)
  refine r_aload_n dX6_init_29 rfl ?_
  refine r_aload_n dX6_init_30 rfl ?_
  refine n_putR (row' := [2]) (rest := []) hR (by decide) (by decide) rfl rfl dX6_init_31 fl_X6_28 (fun _ h => by cases h; exact ⟨rfl, rfl⟩) rfl rfl (by decide) ?_
  refine r_aload_n dX6_init_34 rfl ?_
  refine r_aload_n dX6_init_35 rfl ?_
  refine n_putR (row' := [2, 106]) (rest := []) hR (by decide) (by decide) rfl rfl dX6_init_36 fl_X6_32 (fun _ h => by cases h; exact ⟨rfl, rfl⟩) rfl rfl (by decide) ?_
  exact r_vret dX6_init_39 rfl (hQ _ z5)
theorem i_X10_1 {Rp : List (List Nat)} {kB : Nat → Nat × Nat} {σ0 σ : StT} {Q : Int → ShT → StT → Prop} (hR : Rp.length = 1) (z0 : ZI σ0 σ 2) (hQ : ∀ σ' : StT, ZI σ0 σ' 125 → Q 0 (shN 125 (Rp ++ [[2, 4, 7, 20, 31, 40, 51, 53, 106, 109, 122, 124], [3], [], [5, 6], [], [], [4, 8, 12, 16, 17, 18, 19], [9, 10, 0, 11], [], [], [], [13, 14, 0, 15], [], [], [], [], [], [], [], [7, 21, 22, 23, 24, 25, 0, 26, 0, 27, 28, 0, 29, 30], [], [], [], [], [], [], [], [], [], [], [4, 7, 20, 32, 33, 34, 35, 0, 36, 37, 0, 38, 39], [], [], [], [], [], [], [], [], [4, 7, 31, 41, 42, 43, 44, 45, 46, 0, 47, 48, 0, 49, 50], [], [], [], [], [], [], [], [], [], [], [4, 7, 40, 52], [], [54, 55], [56, 61, 66, 71, 76, 81, 86, 91, 96, 101], [59, 64, 69, 74, 79, 84, 89, 94, 99, 104], [57, 58], [], [], [4, 7, 40, 60], [], [62, 63], [], [], [4, 7, 40, 65], [], [67, 68], [], [], [4, 7, 40, 70], [], [72, 73], [], [], [4, 7, 40, 75], [], [77, 78], [], [], [4, 7, 40, 80], [], [82, 83], [], [], [4, 7, 40, 85], [], [87, 88], [], [], [4, 7, 40, 90], [], [92, 93], [], [], [4, 7, 40, 95], [], [97, 98], [], [], [4, 7, 40, 100], [], [102, 103], [], [], [4, 7, 40, 105], [], [107, 108], [], [], [106, 110, 114, 118, 119, 120, 121], [111, 112, 0, 113], [], [], [], [115, 116, 0, 117], [], [], [], [], [], [], [], [4, 7, 40, 123], [], [2, 106]]) kB) σ') : WPm mX10_init [vR 1] (shN 2 (Rp ++ [[]]) kB) σ 123 9621 Q := by
  refine r_entry (by decide) (Nat.le_of_ble_eq_true rfl) rfl rfl ?_
  refine r_aload_n dX10_init_0 rfl ?_
  refine r_objI dX10_init_1 wo_X10 (Nat.le_of_ble_eq_true rfl) (Nat.le_of_ble_eq_true rfl) ?_
  refine r_aload_n dX10_init_4 rfl ?_
  refine n_new (ci := 7) (m := 7) (rest := []) hR rfl (by decide) rfl dX10_init_5 rfl wc_X10_9 wn_X7 wz_X7 (fun k _ => dv7 k) (by decide) ?_
  have z1 := z0.push (by decide)
  refine r_dup dX10_init_8 rfl ?_
  refine r_callIN (j := 0) (z := mX7_init) (as := []) (rc' := 1) (rs' := 700) (rc := 121) (rs := 8914) dX10_init_9 mo_X7_init rfl wi_X7 rfl rfl rfl (by decide) (Nat.le_of_ble_eq_true rfl) ?_
  refine i_X7_2 (n_len (rest := []) hR rfl) z1 ?_
  intro σ2 z2
  refine n_as (rest := []) (rest' := [[3], []]) rfl ?_
  refine n_putR (row' := [2]) (rest := [[3], []]) hR (by decide) (by decide) rfl rfl dX10_init_12 fl_X10_12 (fun _ h => by cases h; exact ⟨rfl, rfl⟩) rfl rfl (by decide) ?_
  refine r_aload_n dX10_init_15 rfl ?_
  refine n_new (ci := 0) (m := 9) (rest := [[3], []]) hR rfl (by decide) rfl dX10_init_16 rfl wc_X10_16 wn_X0 wz_X0 (fun k _ => dv0 k) (by decide) ?_
  have z3 := z2.push (by decide)
  refine r_dup dX10_init_19 rfl ?_
  refine r_callIN (j := 1) (z := mX0_init) (as := []) (rc' := 2) (rs' := 96) (rc := 118) (rs := 8809) dX10_init_20 mo_X0_init rfl wi_X0 rfl rfl rfl (by decide) (Nat.le_of_ble_eq_true rfl) ?_
  refine i_X0_4 (n_len (rest := [[3], []]) hR rfl) z3 ?_
  intro σ4 z4
  refine n_as (rest := [[3], []]) (rest' := [[3], [], [5, 6], [], []]) rfl ?_
  refine n_putR (row' := [2, 4]) (rest := [[3], [], [5, 6], [], []]) hR (by decide) (by decide) rfl rfl dX10_init_23 fl_X10_19 (fun _ h => by cases h; exact ⟨rfl, rfl⟩) rfl rfl (by decide) ?_
  refine r_aload_n dX10_init_26 rfl ?_
  refine n_new (ci := 3) (m := 7) (rest := [[3], [], [5, 6], [], []]) hR rfl (by decide) rfl dX10_init_27 rfl wc_X10_23 wn_X3 wz_X3 (fun k _ => dv3 k) (by decide) ?_
  have z5 := z4.push (by decide)
  refine r_dup dX10_init_30 rfl ?_
  refine r_aload_n dX10_init_31 rfl ?_
  refine n_getR' (rest := [[3], [], [5, 6], [], []]) hR (by decide) (by decide) rfl rfl (by decide) dX10_init_32 fl_X10_19 rfl ?_
  refine r_callI (z := mX3_init) (as := [vR 4]) (rc' := 12) (rs' := 490) (rc := 105) (rs := 8312) dX10_init_35 mo_X3_init ws_X10_25 wi_X3 rfl rfl rfl (by decide) (Nat.le_of_ble_eq_true rfl) ?_
  refine i_X3_7 (n_len (rest := [[3], [], [5, 6], [], []]) hR rfl) z5 ?_
  intro σ6 z6
  refine n_as (rest := [[3], [], [5, 6], [], []]) (rest' := [[3], [], [5, 6], [], [], [4, 8, 12, 16, 17, 18, 19], [9, 10, 0, 11], [], [], [], [13, 14, 0, 15], [], [], [], [], [], [], []]) rfl ?_
  refine n_putR (row' := [2, 4, 7]) (rest := [[3], [], [5, 6], [], [], [4, 8, 12, 16, 17, 18, 19], [9, 10, 0, 11], [], [], [], [13, 14, 0, 15], [], [], [], [], [], [], []]) hR (by decide) (by decide) rfl rfl dX10_init_38 fl_X10_28 (fun _ h => by cases h; exact ⟨rfl, rfl⟩) rfl rfl (by decide) ?_
  refine r_aload_n dX10_init_41 rfl ?_
  refine n_new (ci := 4) (m := 15) (rest := [[3], [], [5, 6], [], [], [4, 8, 12, 16, 17, 18, 19], [9, 10, 0, 11], [], [], [], [13, 14, 0, 15], [], [], [], [], [], [], []]) hR rfl (by decide) rfl dX10_init_42 rfl wc_X10_32 wn_X4 wz_X4 (fun k _ => dv4 k) (by decide) ?_
  have z7 := z6.push (by decide)
  refine r_dup dX10_init_45 rfl ?_
  refine r_aload_n dX10_init_46 rfl ?_
  refine n_getR' (rest := [[3], [], [5, 6], [], [], [4, 8, 12, 16, 17, 18, 19], [9, 10, 0, 11], [], [], [], [13, 14, 0, 15], [], [], [], [], [], [], []]) hR (by decide) (by decide) rfl rfl (by decide) dX10_init_47 fl_X10_28 rfl ?_
  refine r_callI (z := mX4_init) (as := [vR 7]) (rc' := 10) (rs' := 5683) (rc := 94) (rs := 2614) dX10_init_50 mo_X4_init ws_X10_34 wi_X4 rfl rfl rfl (by decide) (Nat.le_of_ble_eq_true rfl) ?_
  refine i_X4_20 (n_len (rest := [[3], [], [5, 6], [], [], [4, 8, 12, 16, 17, 18, 19], [9, 10, 0, 11], [], [], [], [13, 14, 0, 15], [], [], [], [], [], [], []]) hR rfl) z7 ?_
  intro σ8 z8
  refine n_as (rest := [[3], [], [5, 6], [], [], [4, 8, 12, 16, 17, 18, 19], [9, 10, 0, 11], [], [], [], [13, 14, 0, 15], [], [], [], [], [], [], []]) (rest' := [[3], [], [5, 6], [], [], [4, 8, 12, 16, 17, 18, 19], [9, 10, 0, 11], [], [], [], [13, 14, 0, 15], [], [], [], [], [], [], [], [7, 21, 22, 23, 24, 25, 0, 26, 0, 27, 28, 0, 29, 30], [], [], [], [], [], [], [], [], [], []]) rfl ?_
  refine n_putR (row' := [2, 4, 7, 20]) (rest := [[3], [], [5, 6], [], [], [4, 8, 12, 16, 17, 18, 19], [9, 10, 0, 11], [], [], [], [13, 14, 0, 15], [], [], [], [], [], [], [], [7, 21, 22, 23, 24, 25, 0, 26, 0, 27, 28, 0, 29, 30], [], [], [], [], [], [], [], [], [], []]) hR (by decide) (by decide) rfl rfl dX10_init_53 fl_X10_37 (fun _ h => by cases h; exact ⟨rfl, rfl⟩) rfl rfl (by decide) ?_
  refine r_aload_n dX10_init_56 rfl ?_
  refine n_new (ci := 9) (m := 13) (rest := [[3], [], [5, 6], [], [], [4, 8, 12, 16, 17, 18, 19], [9, 10, 0, 11], [], [], [], [13, 14, 0, 15], [], [], [], [], [], [], [], [7, 21, 22, 23, 24, 25, 0, 26, 0, 27, 28, 0, 29, 30], [], [], [], [], [], [], [], [], [], []]) hR rfl (by decide) rfl dX10_init_57 rfl wc_X10_41 wn_X9 wz_X9 (fun k _ => dv9 k) (by decide) ?_
  have z9 := z8.push (by decide)
  refine r_dup dX10_init_60 rfl ?_
  refine r_aload_n dX10_init_61 rfl ?_
  refine n_getR' (rest := [[3], [], [5, 6], [], [], [4, 8, 12, 16, 17, 18, 19], [9, 10, 0, 11], [], [], [], [13, 14, 0, 15], [], [], [], [], [], [], [], [7, 21, 22, 23, 24, 25, 0, 26, 0, 27, 28, 0, 29, 30], [], [], [], [], [], [], [], [], [], []]) hR (by decide) (by decide) rfl rfl (by decide) dX10_init_62 fl_X10_19 rfl ?_
  refine r_aload_n dX10_init_65 rfl ?_
  refine n_getR' (rest := [[3], [], [5, 6], [], [], [4, 8, 12, 16, 17, 18, 19], [9, 10, 0, 11], [], [], [], [13, 14, 0, 15], [], [], [], [], [], [], [], [7, 21, 22, 23, 24, 25, 0, 26, 0, 27, 28, 0, 29, 30], [], [], [], [], [], [], [], [], [], []]) hR (by decide) (by decide) rfl rfl (by decide) dX10_init_66 fl_X10_28 rfl ?_
  refine r_aload_n dX10_init_69 rfl ?_
  refine n_getR' (rest := [[3], [], [5, 6], [], [], [4, 8, 12, 16, 17, 18, 19], [9, 10, 0, 11], [], [], [], [13, 14, 0, 15], [], [], [], [], [], [], [], [7, 21, 22, 23, 24, 25, 0, 26, 0, 27, 28, 0, 29, 30], [], [], [], [], [], [], [], [], [], []]) hR (by decide) (by decide) rfl rfl (by decide) dX10_init_70 fl_X10_37 rfl ?_
  refine r_callI (z := mX9_init) (as := [vR 4, vR 7, vR 20]) (rc' := 8) (rs' := 315) (rc := 85) (rs := 2286) dX10_init_73 mo_X9_init ws_X10_43 wi_X9 rfl rfl rfl (by decide) (Nat.le_of_ble_eq_true rfl) ?_
  refine i_X9_31 (n_len (rest := [[3], [], [5, 6], [], [], [4, 8, 12, 16, 17, 18, 19], [9, 10, 0, 11], [], [], [], [13, 14, 0, 15], [], [], [], [], [], [], [], [7, 21, 22, 23, 24, 25, 0, 26, 0, 27, 28, 0, 29, 30], [], [], [], [], [], [], [], [], [], []]) hR rfl) z9 ?_
  intro σ10 z10
  refine n_as (rest := [[3], [], [5, 6], [], [], [4, 8, 12, 16, 17, 18, 19], [9, 10, 0, 11], [], [], [], [13, 14, 0, 15], [], [], [], [], [], [], [], [7, 21, 22, 23, 24, 25, 0, 26, 0, 27, 28, 0, 29, 30], [], [], [], [], [], [], [], [], [], []]) (rest' := [[3], [], [5, 6], [], [], [4, 8, 12, 16, 17, 18, 19], [9, 10, 0, 11], [], [], [], [13, 14, 0, 15], [], [], [], [], [], [], [], [7, 21, 22, 23, 24, 25, 0, 26, 0, 27, 28, 0, 29, 30], [], [], [], [], [], [], [], [], [], [], [4, 7, 20, 32, 33, 34, 35, 0, 36, 37, 0, 38, 39], [], [], [], [], [], [], [], []]) rfl ?_
  refine n_putR (row' := [2, 4, 7, 20, 31]) (rest := [[3], [], [5, 6], [], [], [4, 8, 12, 16, 17, 18, 19], [9, 10, 0, 11], [], [], [], [13, 14, 0, 15], [], [], [], [], [], [], [], [7, 21, 22, 23, 24, 25, 0, 26, 0, 27, 28, 0, 29, 30], [], [], [], [], [], [], [], [], [], [], [4, 7, 20, 32, 33, 34, 35, 0, 36, 37, 0, 38, 39], [], [], [], [], [], [], [], []]) hR (by decide) (by decide) rfl rfl dX10_init_76 fl_X10_46 (fun _ h => by cases h; exact ⟨rfl, rfl⟩) rfl rfl (by decide) ?_
  refine r_aload_n dX10_init_79 rfl ?_
  refine n_new (ci := 8) (m := 15) (rest := [[3], [], [5, 6], [], [], [4, 8, 12, 16, 17, 18, 19], [9, 10, 0, 11], [], [], [], [13, 14, 0, 15], [], [], [], [], [], [], [], [7, 21, 22, 23, 24, 25, 0, 26, 0, 27, 28, 0, 29, 30], [], [], [], [], [], [], [], [], [], [], [4, 7, 20, 32, 33, 34, 35, 0, 36, 37, 0, 38, 39], [], [], [], [], [], [], [], []]) hR rfl (by decide) rfl dX10_init_80 rfl wc_X10_50 wn_X8 wz_X8 (fun k _ => dv8 k) (by decide) ?_
  have z11 := z10.push (by decide)
  refine r_dup dX10_init_83 rfl ?_
  refine r_aload_n dX10_init_84 rfl ?_
  refine n_getR' (rest := [[3], [], [5, 6], [], [], [4, 8, 12, 16, 17, 18, 19], [9, 10, 0, 11], [], [], [], [13, 14, 0, 15], [], [], [], [], [], [], [], [7, 21, 22, 23, 24, 25, 0, 26, 0, 27, 28, 0, 29, 30], [], [], [], [], [], [], [], [], [], [], [4, 7, 20, 32, 33, 34, 35, 0, 36, 37, 0, 38, 39], [], [], [], [], [], [], [], []]) hR (by decide) (by decide) rfl rfl (by decide) dX10_init_85 fl_X10_19 rfl ?_
  refine r_aload_n dX10_init_88 rfl ?_
  refine n_getR' (rest := [[3], [], [5, 6], [], [], [4, 8, 12, 16, 17, 18, 19], [9, 10, 0, 11], [], [], [], [13, 14, 0, 15], [], [], [], [], [], [], [], [7, 21, 22, 23, 24, 25, 0, 26, 0, 27, 28, 0, 29, 30], [], [], [], [], [], [], [], [], [], [], [4, 7, 20, 32, 33, 34, 35, 0, 36, 37, 0, 38, 39], [], [], [], [], [], [], [], []]) hR (by decide) (by decide) rfl rfl (by decide) dX10_init_89 fl_X10_28 rfl ?_
  refine r_aload_n dX10_init_92 rfl ?_
  refine n_getR' (rest := [[3], [], [5, 6], [], [], [4, 8, 12, 16, 17, 18, 19], [9, 10, 0, 11], [], [], [], [13, 14, 0, 15], [], [], [], [], [], [], [], [7, 21, 22, 23, 24, 25, 0, 26, 0, 27, 28, 0, 29, 30], [], [], [], [], [], [], [], [], [], [], [4, 7, 20, 32, 33, 34, 35, 0, 36, 37, 0, 38, 39], [], [], [], [], [], [], [], []]) hR (by decide) (by decide) rfl rfl (by decide) dX10_init_93 fl_X10_46 rfl ?_
  refine r_callI (z := mX8_init) (as := [vR 4, vR 7, vR 31]) (rc' := 10) (rs' := 240) (rc := 74) (rs := 2031) dX10_init_96 mo_X8_init ws_X10_52 wi_X8 rfl rfl rfl (by decide) (Nat.le_of_ble_eq_true rfl) ?_
  refine i_X8_40 (n_len (rest := [[3], [], [5, 6], [], [], [4, 8, 12, 16, 17, 18, 19], [9, 10, 0, 11], [], [], [], [13, 14, 0, 15], [], [], [], [], [], [], [], [7, 21, 22, 23, 24, 25, 0, 26, 0, 27, 28, 0, 29, 30], [], [], [], [], [], [], [], [], [], [], [4, 7, 20, 32, 33, 34, 35, 0, 36, 37, 0, 38, 39], [], [], [], [], [], [], [], []]) hR rfl) z11 ?_
  intro σ12 z12
  refine n_as (rest := [[3], [], [5, 6], [], [], [4, 8, 12, 16, 17, 18, 19], [9, 10, 0, 11], [], [], [], [13, 14, 0, 15], [], [], [], [], [], [], [], [7, 21, 22, 23, 24, 25, 0, 26, 0, 27, 28, 0, 29, 30], [], [], [], [], [], [], [], [], [], [], [4, 7, 20, 32, 33, 34, 35, 0, 36, 37, 0, 38, 39], [], [], [], [], [], [], [], []]) (rest' := [[3], [], [5, 6], [], [], [4, 8, 12, 16, 17, 18, 19], [9, 10, 0, 11], [], [], [], [13, 14, 0, 15], [], [], [], [], [], [], [], [7, 21, 22, 23, 24, 25, 0, 26, 0, 27, 28, 0, 29, 30], [], [], [], [], [], [], [], [], [], [], [4, 7, 20, 32, 33, 34, 35, 0, 36, 37, 0, 38, 39], [], [], [], [], [], [], [], [], [4, 7, 31, 41, 42, 43, 44, 45, 46, 0, 47, 48, 0, 49, 50], [], [], [], [], [], [], [], [], [], []]) rfl ?_
  refine n_putR (row' := [2, 4, 7, 20, 31, 40]) (rest := [[3], [], [5, 6], [], [], [4, 8, 12, 16, 17, 18, 19], [9, 10, 0, 11], [], [], [], [13, 14, 0, 15], [], [], [], [], [], [], [], [7, 21, 22, 23, 24, 25, 0, 26, 0, 27, 28, 0, 29, 30], [], [], [], [], [], [], [], [], [], [], [4, 7, 20, 32, 33, 34, 35, 0, 36, 37, 0, 38, 39], [], [], [], [], [], [], [], [], [4, 7, 31, 41, 42, 43, 44, 45, 46, 0, 47, 48, 0, 49, 50], [], [], [], [], [], [], [], [], [], []]) hR (by decide) (by decide) rfl rfl dX10_init_99 fl_X10_55 (fun _ h => by cases h; exact ⟨rfl, rfl⟩) rfl rfl (by decide) ?_
  refine r_aload_n dX10_init_102 rfl ?_
  refine n_new (ci := 5) (m := 5) (rest := [[3], [], [5, 6], [], [], [4, 8, 12, 16, 17, 18, 19], [9, 10, 0, 11], [], [], [], [13, 14, 0, 15], [], [], [], [], [], [], [], [7, 21, 22, 23, 24, 25, 0, 26, 0, 27, 28, 0, 29, 30], [], [], [], [], [], [], [], [], [], [], [4, 7, 20, 32, 33, 34, 35, 0, 36, 37, 0, 38, 39], [], [], [], [], [], [], [], [], [4, 7, 31, 41, 42, 43, 44, 45, 46, 0, 47, 48, 0, 49, 50], [], [], [], [], [], [], [], [], [], []]) hR rfl (by decide) rfl dX10_init_103 rfl wc_X10_59 wn_X5 wz_X5 (fun k _ => dv5 k) (by decide) ?_
  have z13 := z12.push (by decide)
  refine r_dup dX10_init_106 rfl ?_
  refine r_aload_n dX10_init_107 rfl ?_
  refine n_getR' (rest := [[3], [], [5, 6], [], [], [4, 8, 12, 16, 17, 18, 19], [9, 10, 0, 11], [], [], [], [13, 14, 0, 15], [], [], [], [], [], [], [], [7, 21, 22, 23, 24, 25, 0, 26, 0, 27, 28, 0, 29, 30], [], [], [], [], [], [], [], [], [], [], [4, 7, 20, 32, 33, 34, 35, 0, 36, 37, 0, 38, 39], [], [], [], [], [], [], [], [], [4, 7, 31, 41, 42, 43, 44, 45, 46, 0, 47, 48, 0, 49, 50], [], [], [], [], [], [], [], [], [], []]) hR (by decide) (by decide) rfl rfl (by decide) dX10_init_108 fl_X10_19 rfl ?_
  refine r_aload_n dX10_init_111 rfl ?_
  refine n_getR' (rest := [[3], [], [5, 6], [], [], [4, 8, 12, 16, 17, 18, 19], [9, 10, 0, 11], [], [], [], [13, 14, 0, 15], [], [], [], [], [], [], [], [7, 21, 22, 23, 24, 25, 0, 26, 0, 27, 28, 0, 29, 30], [], [], [], [], [], [], [], [], [], [], [4, 7, 20, 32, 33, 34, 35, 0, 36, 37, 0, 38, 39], [], [], [], [], [], [], [], [], [4, 7, 31, 41, 42, 43, 44, 45, 46, 0, 47, 48, 0, 49, 50], [], [], [], [], [], [], [], [], [], []]) hR (by decide) (by decide) rfl rfl (by decide) dX10_init_112 fl_X10_28 rfl ?_
  refine r_aload_n dX10_init_115 rfl ?_
  refine n_getR' (rest := [[3], [], [5, 6], [], [], [4, 8, 12, 16, 17, 18, 19], [9, 10, 0, 11], [], [], [], [13, 14, 0, 15], [], [], [], [], [], [], [], [7, 21, 22, 23, 24, 25, 0, 26, 0, 27, 28, 0, 29, 30], [], [], [], [], [], [], [], [], [], [], [4, 7, 20, 32, 33, 34, 35, 0, 36, 37, 0, 38, 39], [], [], [], [], [], [], [], [], [4, 7, 31, 41, 42, 43, 44, 45, 46, 0, 47, 48, 0, 49, 50], [], [], [], [], [], [], [], [], [], []]) hR (by decide) (by decide) rfl rfl (by decide) dX10_init_116 fl_X10_55 rfl ?_
  refine r_callI (z := mX5_init) (as := [vR 4, vR 7, vR 40]) (rc' := 1) (rs' := 24) (rc := 72) (rs := 2002) dX10_init_119 mo_X5_init ws_X10_61 wi_X5 rfl rfl rfl (by decide) (Nat.le_of_ble_eq_true rfl) ?_
  refine i_X5_51 (n_len (rest := [[3], [], [5, 6], [], [], [4, 8, 12, 16, 17, 18, 19], [9, 10, 0, 11], [], [], [], [13, 14, 0, 15], [], [], [], [], [], [], [], [7, 21, 22, 23, 24, 25, 0, 26, 0, 27, 28, 0, 29, 30], [], [], [], [], [], [], [], [], [], [], [4, 7, 20, 32, 33, 34, 35, 0, 36, 37, 0, 38, 39], [], [], [], [], [], [], [], [], [4, 7, 31, 41, 42, 43, 44, 45, 46, 0, 47, 48, 0, 49, 50], [], [], [], [], [], [], [], [], [], []]) hR rfl) z13 ?_
  intro σ14 z14
  refine n_as (rest := [[3], [], [5, 6], [], [], [4, 8, 12, 16, 17, 18, 19], [9, 10, 0, 11], [], [], [], [13, 14, 0, 15], [], [], [], [], [], [], [], [7, 21, 22, 23, 24, 25, 0, 26, 0, 27, 28, 0, 29, 30], [], [], [], [], [], [], [], [], [], [], [4, 7, 20, 32, 33, 34, 35, 0, 36, 37, 0, 38, 39], [], [], [], [], [], [], [], [], [4, 7, 31, 41, 42, 43, 44, 45, 46, 0, 47, 48, 0, 49, 50], [], [], [], [], [], [], [], [], [], []]) (rest' := [[3], [], [5, 6], [], [], [4, 8, 12, 16, 17, 18, 19], [9, 10, 0, 11], [], [], [], [13, 14, 0, 15], [], [], [], [], [], [], [], [7, 21, 22, 23, 24, 25, 0, 26, 0, 27, 28, 0, 29, 30], [], [], [], [], [], [], [], [], [], [], [4, 7, 20, 32, 33, 34, 35, 0, 36, 37, 0, 38, 39], [], [], [], [], [], [], [], [], [4, 7, 31, 41, 42, 43, 44, 45, 46, 0, 47, 48, 0, 49, 50], [], [], [], [], [], [], [], [], [], [], [4, 7, 40, 52], []]) rfl ?_
  refine n_putR (row' := [2, 4, 7, 20, 31, 40, 51]) (rest := [[3], [], [5, 6], [], [], [4, 8, 12, 16, 17, 18, 19], [9, 10, 0, 11], [], [], [], [13, 14, 0, 15], [], [], [], [], [], [], [], [7, 21, 22, 23, 24, 25, 0, 26, 0, 27, 28, 0, 29, 30], [], [], [], [], [], [], [], [], [], [], [4, 7, 20, 32, 33, 34, 35, 0, 36, 37, 0, 38, 39], [], [], [], [], [], [], [], [], [4, 7, 31, 41, 42, 43, 44, 45, 46, 0, 47, 48, 0, 49, 50], [], [], [], [], [], [], [], [], [], [], [4, 7, 40, 52], []]) hR (by decide) (by decide) rfl rfl dX10_init_122 fl_X10_64 (fun _ h => by cases h; exact ⟨rfl, rfl⟩) rfl rfl (by decide) ?_
  refine r_aload_n dX10_init_125 rfl ?_
  refine n_new (ci := 2) (m := 4) (rest := [[3], [], [5, 6], [], [], [4, 8, 12, 16, 17, 18, 19], [9, 10, 0, 11], [], [], [], [13, 14, 0, 15], [], [], [], [], [], [], [], [7, 21, 22, 23, 24, 25, 0, 26, 0, 27, 28, 0, 29, 30], [], [], [], [], [], [], [], [], [], [], [4, 7, 20, 32, 33, 34, 35, 0, 36, 37, 0, 38, 39], [], [], [], [], [], [], [], [], [4, 7, 31, 41, 42, 43, 44, 45, 46, 0, 47, 48, 0, 49, 50], [], [], [], [], [], [], [], [], [], [], [4, 7, 40, 52], []]) hR rfl (by decide) rfl dX10_init_126 rfl wc_X10_68 wn_X2 wz_X2 (fun k _ => dv2 k) (by decide) ?_
  have z15 := z14.push (by decide)
  refine r_dup dX10_init_129 rfl ?_
  refine r_aload_n dX10_init_130 rfl ?_
  refine n_getR' (rest := [[3], [], [5, 6], [], [], [4, 8, 12, 16, 17, 18, 19], [9, 10, 0, 11], [], [], [], [13, 14, 0, 15], [], [], [], [], [], [], [], [7, 21, 22, 23, 24, 25, 0, 26, 0, 27, 28, 0, 29, 30], [], [], [], [], [], [], [], [], [], [], [4, 7, 20, 32, 33, 34, 35, 0, 36, 37, 0, 38, 39], [], [], [], [], [], [], [], [], [4, 7, 31, 41, 42, 43, 44, 45, 46, 0, 47, 48, 0, 49, 50], [], [], [], [], [], [], [], [], [], [], [4, 7, 40, 52], []]) hR (by decide) (by decide) rfl rfl (by decide) dX10_init_131 fl_X10_19 rfl ?_
  refine r_aload_n dX10_init_134 rfl ?_
  refine n_getR' (rest := [[3], [], [5, 6], [], [], [4, 8, 12, 16, 17, 18, 19], [9, 10, 0, 11], [], [], [], [13, 14, 0, 15], [], [], [], [], [], [], [], [7, 21, 22, 23, 24, 25, 0, 26, 0, 27, 28, 0, 29, 30], [], [], [], [], [], [], [], [], [], [], [4, 7, 20, 32, 33, 34, 35, 0, 36, 37, 0, 38, 39], [], [], [], [], [], [], [], [], [4, 7, 31, 41, 42, 43, 44, 45, 46, 0, 47, 48, 0, 49, 50], [], [], [], [], [], [], [], [], [], [], [4, 7, 40, 52], []]) hR (by decide) (by decide) rfl rfl (by decide) dX10_init_135 fl_X10_28 rfl ?_
  refine r_aload_n dX10_init_138 rfl ?_
  refine n_getR' (rest := [[3], [], [5, 6], [], [], [4, 8, 12, 16, 17, 18, 19], [9, 10, 0, 11], [], [], [], [13, 14, 0, 15], [], [], [], [], [], [], [], [7, 21, 22, 23, 24, 25, 0, 26, 0, 27, 28, 0, 29, 30], [], [], [], [], [], [], [], [], [], [], [4, 7, 20, 32, 33, 34, 35, 0, 36, 37, 0, 38, 39], [], [], [], [], [], [], [], [], [4, 7, 31, 41, 42, 43, 44, 45, 46, 0, 47, 48, 0, 49, 50], [], [], [], [], [], [], [], [], [], [], [4, 7, 40, 52], []]) hR (by decide) (by decide) rfl rfl (by decide) dX10_init_139 fl_X10_55 rfl ?_
  refine r_callI (z := mX2_init) (as := [vR 4, vR 7, vR 40]) (rc' := 52) (rs' := 1360) (rc := 19) (rs := 638) dX10_init_142 mo_X2_init ws_X10_70 wi_X2 rfl rfl rfl (by decide) (Nat.le_of_ble_eq_true rfl) ?_
  refine i_X2_53 (n_len (rest := [[3], [], [5, 6], [], [], [4, 8, 12, 16, 17, 18, 19], [9, 10, 0, 11], [], [], [], [13, 14, 0, 15], [], [], [], [], [], [], [], [7, 21, 22, 23, 24, 25, 0, 26, 0, 27, 28, 0, 29, 30], [], [], [], [], [], [], [], [], [], [], [4, 7, 20, 32, 33, 34, 35, 0, 36, 37, 0, 38, 39], [], [], [], [], [], [], [], [], [4, 7, 31, 41, 42, 43, 44, 45, 46, 0, 47, 48, 0, 49, 50], [], [], [], [], [], [], [], [], [], [], [4, 7, 40, 52], []]) hR rfl) z15 ?_
  intro σ16 z16
  refine n_as (rest := [[3], [], [5, 6], [], [], [4, 8, 12, 16, 17, 18, 19], [9, 10, 0, 11], [], [], [], [13, 14, 0, 15], [], [], [], [], [], [], [], [7, 21, 22, 23, 24, 25, 0, 26, 0, 27, 28, 0, 29, 30], [], [], [], [], [], [], [], [], [], [], [4, 7, 20, 32, 33, 34, 35, 0, 36, 37, 0, 38, 39], [], [], [], [], [], [], [], [], [4, 7, 31, 41, 42, 43, 44, 45, 46, 0, 47, 48, 0, 49, 50], [], [], [], [], [], [], [], [], [], [], [4, 7, 40, 52], []]) (rest' := [[3], [], [5, 6], [], [], [4, 8, 12, 16, 17, 18, 19], [9, 10, 0, 11], [], [], [], [13, 14, 0, 15], [], [], [], [], [], [], [], [7, 21, 22, 23, 24, 25, 0, 26, 0, 27, 28, 0, 29, 30], [], [], [], [], [], [], [], [], [], [], [4, 7, 20, 32, 33, 34, 35, 0, 36, 37, 0, 38, 39], [], [], [], [], [], [], [], [], [4, 7, 31, 41, 42, 43, 44, 45, 46, 0, 47, 48, 0, 49, 50], [], [], [], [], [], [], [], [], [], [], [4, 7, 40, 52], [], [54, 55], [56, 61, 66, 71, 76, 81, 86, 91, 96, 101], [59, 64, 69, 74, 79, 84, 89, 94, 99, 104], [57, 58], [], [], [4, 7, 40, 60], [], [62, 63], [], [], [4, 7, 40, 65], [], [67, 68], [], [], [4, 7, 40, 70], [], [72, 73], [], [], [4, 7, 40, 75], [], [77, 78], [], [], [4, 7, 40, 80], [], [82, 83], [], [], [4, 7, 40, 85], [], [87, 88], [], [], [4, 7, 40, 90], [], [92, 93], [], [], [4, 7, 40, 95], [], [97, 98], [], [], [4, 7, 40, 100], [], [102, 103], [], [], [4, 7, 40, 105], []]) rfl ?_
  refine n_putR (row' := [2, 4, 7, 20, 31, 40, 51, 53]) (rest := [[3], [], [5, 6], [], [], [4, 8, 12, 16, 17, 18, 19], [9, 10, 0, 11], [], [], [], [13, 14, 0, 15], [], [], [], [], [], [], [], [7, 21, 22, 23, 24, 25, 0, 26, 0, 27, 28, 0, 29, 30], [], [], [], [], [], [], [], [], [], [], [4, 7, 20, 32, 33, 34, 35, 0, 36, 37, 0, 38, 39], [], [], [], [], [], [], [], [], [4, 7, 31, 41, 42, 43, 44, 45, 46, 0, 47, 48, 0, 49, 50], [], [], [], [], [], [], [], [], [], [], [4, 7, 40, 52], [], [54, 55], [56, 61, 66, 71, 76, 81, 86, 91, 96, 101], [59, 64, 69, 74, 79, 84, 89, 94, 99, 104], [57, 58], [], [], [4, 7, 40, 60], [], [62, 63], [], [], [4, 7, 40, 65], [], [67, 68], [], [], [4, 7, 40, 70], [], [72, 73], [], [], [4, 7, 40, 75], [], [77, 78], [], [], [4, 7, 40, 80], [], [82, 83], [], [], [4, 7, 40, 85], [], [87, 88], [], [], [4, 7, 40, 90], [], [92, 93], [], [], [4, 7, 40, 95], [], [97, 98], [], [], [4, 7, 40, 100], [], [102, 103], [], [], [4, 7, 40, 105], []]) hR (by decide) (by decide) rfl rfl dX10_init_145 fl_X10_71 (fun _ h => by cases h; exact ⟨rfl, rfl⟩) rfl rfl (by decide) ?_
  refine r_aload_n dX10_init_148 rfl ?_
  refine n_new (ci := 0) (m := 9) (rest := [[3], [], [5, 6], [], [], [4, 8, 12, 16, 17, 18, 19], [9, 10, 0, 11], [], [], [], [13, 14, 0, 15], [], [], [], [], [], [], [], [7, 21, 22, 23, 24, 25, 0, 26, 0, 27, 28, 0, 29, 30], [], [], [], [], [], [], [], [], [], [], [4, 7, 20, 32, 33, 34, 35, 0, 36, 37, 0, 38, 39], [], [], [], [], [], [], [], [], [4, 7, 31, 41, 42, 43, 44, 45, 46, 0, 47, 48, 0, 49, 50], [], [], [], [], [], [], [], [], [], [], [4, 7, 40, 52], [], [54, 55], [56, 61, 66, 71, 76, 81, 86, 91, 96, 101], [59, 64, 69, 74, 79, 84, 89, 94, 99, 104], [57, 58], [], [], [4, 7, 40, 60], [], [62, 63], [], [], [4, 7, 40, 65], [], [67, 68], [], [], [4, 7, 40, 70], [], [72, 73], [], [], [4, 7, 40, 75], [], [77, 78], [], [], [4, 7, 40, 80], [], [82, 83], [], [], [4, 7, 40, 85], [], [87, 88], [], [], [4, 7, 40, 90], [], [92, 93], [], [], [4, 7, 40, 95], [], [97, 98], [], [], [4, 7, 40, 100], [], [102, 103], [], [], [4, 7, 40, 105], []]) hR rfl (by decide) rfl dX10_init_149 rfl wc_X10_16 wn_X0 wz_X0 (fun k _ => dv0 k) (by decide) ?_
  have z17 := z16.push (by decide)
  refine r_dup dX10_init_152 rfl ?_
  refine r_callIN (j := 1) (z := mX0_init) (as := []) (rc' := 2) (rs' := 96) (rc := 16) (rs := 533) dX10_init_153 mo_X0_init rfl wi_X0 rfl rfl rfl (by decide) (Nat.le_of_ble_eq_true rfl) ?_
  refine i_X0_106 (n_len (rest := [[3], [], [5, 6], [], [], [4, 8, 12, 16, 17, 18, 19], [9, 10, 0, 11], [], [], [], [13, 14, 0, 15], [], [], [], [], [], [], [], [7, 21, 22, 23, 24, 25, 0, 26, 0, 27, 28, 0, 29, 30], [], [], [], [], [], [], [], [], [], [], [4, 7, 20, 32, 33, 34, 35, 0, 36, 37, 0, 38, 39], [], [], [], [], [], [], [], [], [4, 7, 31, 41, 42, 43, 44, 45, 46, 0, 47, 48, 0, 49, 50], [], [], [], [], [], [], [], [], [], [], [4, 7, 40, 52], [], [54, 55], [56, 61, 66, 71, 76, 81, 86, 91, 96, 101], [59, 64, 69, 74, 79, 84, 89, 94, 99, 104], [57, 58], [], [], [4, 7, 40, 60], [], [62, 63], [], [], [4, 7, 40, 65], [], [67, 68], [], [], [4, 7, 40, 70], [], [72, 73], [], [], [4, 7, 40, 75], [], [77, 78], [], [], [4, 7, 40, 80], [], [82, 83], [], [], [4, 7, 40, 85], [], [87, 88], [], [], [4, 7, 40, 90], [], [92, 93], [], [], [4, 7, 40, 95], [], [97, 98], [], [], [4, 7, 40, 100], [], [102, 103], [], [], [4, 7, 40, 105], []]) hR rfl) z17 ?_
  intro σ18 z18
  refine n_as (rest := [[3], [], [5, 6], [], [], [4, 8, 12, 16, 17, 18, 19], [9, 10, 0, 11], [], [], [], [13, 14, 0, 15], [], [], [], [], [], [], [], [7, 21, 22, 23, 24, 25, 0, 26, 0, 27, 28, 0, 29, 30], [], [], [], [], [], [], [], [], [], [], [4, 7, 20, 32, 33, 34, 35, 0, 36, 37, 0, 38, 39], [], [], [], [], [], [], [], [], [4, 7, 31, 41, 42, 43, 44, 45, 46, 0, 47, 48, 0, 49, 50], [], [], [], [], [], [], [], [], [], [], [4, 7, 40, 52], [], [54, 55], [56, 61, 66, 71, 76, 81, 86, 91, 96, 101], [59, 64, 69, 74, 79, 84, 89, 94, 99, 104], [57, 58], [], [], [4, 7, 40, 60], [], [62, 63], [], [], [4, 7, 40, 65], [], [67, 68], [], [], [4, 7, 40, 70], [], [72, 73], [], [], [4, 7, 40, 75], [], [77, 78], [], [], [4, 7, 40, 80], [], [82, 83], [], [], [4, 7, 40, 85], [], [87, 88], [], [], [4, 7, 40, 90], [], [92, 93], [], [], [4, 7, 40, 95], [], [97, 98], [], [], [4, 7, 40, 100], [], [102, 103], [], [], [4, 7, 40, 105], []]) (rest' := [[3], [], [5, 6], [], [], [4, 8, 12, 16, 17, 18, 19], [9, 10, 0, 11], [], [], [], [13, 14, 0, 15], [], [], [], [], [], [], [], [7, 21, 22, 23, 24, 25, 0, 26, 0, 27, 28, 0, 29, 30], [], [], [], [], [], [], [], [], [], [], [4, 7, 20, 32, 33, 34, 35, 0, 36, 37, 0, 38, 39], [], [], [], [], [], [], [], [], [4, 7, 31, 41, 42, 43, 44, 45, 46, 0, 47, 48, 0, 49, 50], [], [], [], [], [], [], [], [], [], [], [4, 7, 40, 52], [], [54, 55], [56, 61, 66, 71, 76, 81, 86, 91, 96, 101], [59, 64, 69, 74, 79, 84, 89, 94, 99, 104], [57, 58], [], [], [4, 7, 40, 60], [], [62, 63], [], [], [4, 7, 40, 65], [], [67, 68], [], [], [4, 7, 40, 70], [], [72, 73], [], [], [4, 7, 40, 75], [], [77, 78], [], [], [4, 7, 40, 80], [], [82, 83], [], [], [4, 7, 40, 85], [], [87, 88], [], [], [4, 7, 40, 90], [], [92, 93], [], [], [4, 7, 40, 95], [], [97, 98], [], [], [4, 7, 40, 100], [], [102, 103], [], [], [4, 7, 40, 105], [], [107, 108], [], []]) rfl ?_
  refine n_putR (row' := [2, 4, 7, 20, 31, 40, 51, 53, 106]) (rest := [[3], [], [5, 6], [], [], [4, 8, 12, 16, 17, 18, 19], [9, 10, 0, 11], [], [], [], [13, 14, 0, 15], [], [], [], [], [], [], [], [7, 21, 22, 23, 24, 25, 0, 26, 0, 27, 28, 0, 29, 30], [], [], [], [], [], [], [], [], [], [], [4, 7, 20, 32, 33, 34, 35, 0, 36, 37, 0, 38, 39], [], [], [], [], [], [], [], [], [4, 7, 31, 41, 42, 43, 44, 45, 46, 0, 47, 48, 0, 49, 50], [], [], [], [], [], [], [], [], [], [], [4, 7, 40, 52], [], [54, 55], [56, 61, 66, 71, 76, 81, 86, 91, 96, 101], [59, 64, 69, 74, 79, 84, 89, 94, 99, 104], [57, 58], [], [], [4, 7, 40, 60], [], [62, 63], [], [], [4, 7, 40, 65], [], [67, 68], [], [], [4, 7, 40, 70], [], [72, 73], [], [], [4, 7, 40, 75], [], [77, 78], [], [], [4, 7, 40, 80], [], [82, 83], [], [], [4, 7, 40, 85], [], [87, 88], [], [], [4, 7, 40, 90], [], [92, 93], [], [], [4, 7, 40, 95], [], [97, 98], [], [], [4, 7, 40, 100], [], [102, 103], [], [], [4, 7, 40, 105], [], [107, 108], [], []]) hR (by decide) (by decide) rfl rfl dX10_init_156 fl_X10_75 (fun _ h => by cases h; exact ⟨rfl, rfl⟩) rfl rfl (by decide) ?_
  refine r_aload_n dX10_init_159 rfl ?_
  refine n_new (ci := 3) (m := 7) (rest := [[3], [], [5, 6], [], [], [4, 8, 12, 16, 17, 18, 19], [9, 10, 0, 11], [], [], [], [13, 14, 0, 15], [], [], [], [], [], [], [], [7, 21, 22, 23, 24, 25, 0, 26, 0, 27, 28, 0, 29, 30], [], [], [], [], [], [], [], [], [], [], [4, 7, 20, 32, 33, 34, 35, 0, 36, 37, 0, 38, 39], [], [], [], [], [], [], [], [], [4, 7, 31, 41, 42, 43, 44, 45, 46, 0, 47, 48, 0, 49, 50], [], [], [], [], [], [], [], [], [], [], [4, 7, 40, 52], [], [54, 55], [56, 61, 66, 71, 76, 81, 86, 91, 96, 101], [59, 64, 69, 74, 79, 84, 89, 94, 99, 104], [57, 58], [], [], [4, 7, 40, 60], [], [62, 63], [], [], [4, 7, 40, 65], [], [67, 68], [], [], [4, 7, 40, 70], [], [72, 73], [], [], [4, 7, 40, 75], [], [77, 78], [], [], [4, 7, 40, 80], [], [82, 83], [], [], [4, 7, 40, 85], [], [87, 88], [], [], [4, 7, 40, 90], [], [92, 93], [], [], [4, 7, 40, 95], [], [97, 98], [], [], [4, 7, 40, 100], [], [102, 103], [], [], [4, 7, 40, 105], [], [107, 108], [], []]) hR rfl (by decide) rfl dX10_init_160 rfl wc_X10_23 wn_X3 wz_X3 (fun k _ => dv3 k) (by decide) ?_
  have z19 := z18.push (by decide)
  refine r_dup dX10_init_163 rfl ?_
  refine r_aload_n dX10_init_164 rfl ?_
  refine n_getR' (rest := [[3], [], [5, 6], [], [], [4, 8, 12, 16, 17, 18, 19], [9, 10, 0, 11], [], [], [], [13, 14, 0, 15], [], [], [], [], [], [], [], [7, 21, 22, 23, 24, 25, 0, 26, 0, 27, 28, 0, 29, 30], [], [], [], [], [], [], [], [], [], [], [4, 7, 20, 32, 33, 34, 35, 0, 36, 37, 0, 38, 39], [], [], [], [], [], [], [], [], [4, 7, 31, 41, 42, 43, 44, 45, 46, 0, 47, 48, 0, 49, 50], [], [], [], [], [], [], [], [], [], [], [4, 7, 40, 52], [], [54, 55], [56, 61, 66, 71, 76, 81, 86, 91, 96, 101], [59, 64, 69, 74, 79, 84, 89, 94, 99, 104], [57, 58], [], [], [4, 7, 40, 60], [], [62, 63], [], [], [4, 7, 40, 65], [], [67, 68], [], [], [4, 7, 40, 70], [], [72, 73], [], [], [4, 7, 40, 75], [], [77, 78], [], [], [4, 7, 40, 80], [], [82, 83], [], [], [4, 7, 40, 85], [], [87, 88], [], [], [4, 7, 40, 90], [], [92, 93], [], [], [4, 7, 40, 95], [], [97, 98], [], [], [4, 7, 40, 100], [], [102, 103], [], [], [4, 7, 40, 105], [], [107, 108], [], []]) hR (by decide) (by decide) rfl rfl (by decide) dX10_init_165 fl_X10_75 rfl ?_
  refine r_callI (z := mX3_init) (as := [vR 106]) (rc' := 12) (rs' := 490) (rc := 3) (rs := 36) dX10_init_168 mo_X3_init ws_X10_25 wi_X3 rfl rfl rfl (by decide) (Nat.le_of_ble_eq_true rfl) ?_
  refine i_X3_109 (n_len (rest := [[3], [], [5, 6], [], [], [4, 8, 12, 16, 17, 18, 19], [9, 10, 0, 11], [], [], [], [13, 14, 0, 15], [], [], [], [], [], [], [], [7, 21, 22, 23, 24, 25, 0, 26, 0, 27, 28, 0, 29, 30], [], [], [], [], [], [], [], [], [], [], [4, 7, 20, 32, 33, 34, 35, 0, 36, 37, 0, 38, 39], [], [], [], [], [], [], [], [], [4, 7, 31, 41, 42, 43, 44, 45, 46, 0, 47, 48, 0, 49, 50], [], [], [], [], [], [], [], [], [], [], [4, 7, 40, 52], [], [54, 55], [56, 61, 66, 71, 76, 81, 86, 91, 96, 101], [59, 64, 69, 74, 79, 84, 89, 94, 99, 104], [57, 58], [], [], [4, 7, 40, 60], [], [62, 63], [], [], [4, 7, 40, 65], [], [67, 68], [], [], [4, 7, 40, 70], [], [72, 73], [], [], [4, 7, 40, 75], [], [77, 78], [], [], [4, 7, 40, 80], [], [82, 83], [], [], [4, 7, 40, 85], [], [87, 88], [], [], [4, 7, 40, 90], [], [92, 93], [], [], [4, 7, 40, 95], [], [97, 98], [], [], [4, 7, 40, 100], [], [102, 103], [], [], [4, 7, 40, 105], [], [107, 108], [], []]) hR rfl) z19 ?_
  intro σ20 z20
  refine n_as (rest := [[3], [], [5, 6], [], [], [4, 8, 12, 16, 17, 18, 19], [9, 10, 0, 11], [], [], [], [13, 14, 0, 15], [], [], [], [], [], [], [], [7, 21, 22, 23, 24, 25, 0, 26, 0, 27, 28, 0, 29, 30], [], [], [], [], [], [], [], [], [], [], [4, 7, 20, 32, 33, 34, 35, 0, 36, 37, 0, 38, 39], [], [], [], [], [], [], [], [], [4, 7, 31, 41, 42, 43, 44, 45, 46, 0, 47, 48, 0, 49, 50], [], [], [], [], [], [], [], [], [], [], [4, 7, 40, 52], [], [54, 55], [56, 61, 66, 71, 76, 81, 86, 91, 96, 101], [59, 64, 69, 74, 79, 84, 89, 94, 99, 104], [57, 58], [], [], [4, 7, 40, 60], [], [62, 63], [], [], [4, 7, 40, 65], [], [67, 68], [], [], [4, 7, 40, 70], [], [72, 73], [], [], [4, 7, 40, 75], [], [77, 78], [], [], [4, 7, 40, 80], [], [82, 83], [], [], [4, 7, 40, 85], [], [87, 88], [], [], [4, 7, 40, 90], [], [92, 93], [], [], [4, 7, 40, 95], [], [97, 98], [], [], [4, 7, 40, 100], [], [102, 103], [], [], [4, 7, 40, 105], [], [107, 108], [], []]) (rest' := [[3], [], [5, 6], [], [], [4, 8, 12, 16, 17, 18, 19], [9, 10, 0, 11], [], [], [], [13, 14, 0, 15], [], [], [], [], [], [], [], [7, 21, 22, 23, 24, 25, 0, 26, 0, 27, 28, 0, 29, 30], [], [], [], [], [], [], [], [], [], [], [4, 7, 20, 32, 33, 34, 35, 0, 36, 37, 0, 38, 39], [], [], [], [], [], [], [], [], [4, 7, 31, 41, 42, 43, 44, 45, 46, 0, 47, 48, 0, 49, 50], [], [], [], [], [], [], [], [], [], [], [4, 7, 40, 52], [], [54, 55], [56, 61, 66, 71, 76, 81, 86, 91, 96, 101], [59, 64, 69, 74, 79, 84, 89, 94, 99, 104], [57, 58], [], [], [4, 7, 40, 60], [], [62, 63], [], [], [4, 7, 40, 65], [], [67, 68], [], [], [4, 7, 40, 70], [], [72, 73], [], [], [4, 7, 40, 75], [], [77, 78], [], [], [4, 7, 40, 80], [], [82, 83], [], [], [4, 7, 40, 85], [], [87, 88], [], [], [4, 7, 40, 90], [], [92, 93], [], [], [4, 7, 40, 95], [], [97, 98], [], [], [4, 7, 40, 100], [], [102, 103], [], [], [4, 7, 40, 105], [], [107, 108], [], [], [106, 110, 114, 118, 119, 120, 121], [111, 112, 0, 113], [], [], [], [115, 116, 0, 117], [], [], [], [], [], [], []]) rfl ?_
  refine n_putR (row' := [2, 4, 7, 20, 31, 40, 51, 53, 106, 109]) (rest := [[3], [], [5, 6], [], [], [4, 8, 12, 16, 17, 18, 19], [9, 10, 0, 11], [], [], [], [13, 14, 0, 15], [], [], [], [], [], [], [], [7, 21, 22, 23, 24, 25, 0, 26, 0, 27, 28, 0, 29, 30], [], [], [], [], [], [], [], [], [], [], [4, 7, 20, 32, 33, 34, 35, 0, 36, 37, 0, 38, 39], [], [], [], [], [], [], [], [], [4, 7, 31, 41, 42, 43, 44, 45, 46, 0, 47, 48, 0, 49, 50], [], [], [], [], [], [], [], [], [], [], [4, 7, 40, 52], [], [54, 55], [56, 61, 66, 71, 76, 81, 86, 91, 96, 101], [59, 64, 69, 74, 79, 84, 89, 94, 99, 104], [57, 58], [], [], [4, 7, 40, 60], [], [62, 63], [], [], [4, 7, 40, 65], [], [67, 68], [], [], [4, 7, 40, 70], [], [72, 73], [], [], [4, 7, 40, 75], [], [77, 78], [], [], [4, 7, 40, 80], [], [82, 83], [], [], [4, 7, 40, 85], [], [87, 88], [], [], [4, 7, 40, 90], [], [92, 93], [], [], [4, 7, 40, 95], [], [97, 98], [], [], [4, 7, 40, 100], [], [102, 103], [], [], [4, 7, 40, 105], [], [107, 108], [], [], [106, 110, 114, 118, 119, 120, 121], [111, 112, 0, 113], [], [], [], [115, 116, 0, 117], [], [], [], [], [], [], []]) hR (by decide) (by decide) rfl rfl dX10_init_171 fl_X10_78 (fun _ h => by cases h; exact ⟨rfl, rfl⟩) rfl rfl (by decide) ?_
  refine r_aload_n dX10_init_174 rfl ?_
  refine n_new (ci := 5) (m := 5) (rest := [[3], [], [5, 6], [], [], [4, 8, 12, 16, 17, 18, 19], [9, 10, 0, 11], [], [], [], [13, 14, 0, 15], [], [], [], [], [], [], [], [7, 21, 22, 23, 24, 25, 0, 26, 0, 27, 28, 0, 29, 30], [], [], [], [], [], [], [], [], [], [], [4, 7, 20, 32, 33, 34, 35, 0, 36, 37, 0, 38, 39], [], [], [], [], [], [], [], [], [4, 7, 31, 41, 42, 43, 44, 45, 46, 0, 47, 48, 0, 49, 50], [], [], [], [], [], [], [], [], [], [], [4, 7, 40, 52], [], [54, 55], [56, 61, 66, 71, 76, 81, 86, 91, 96, 101], [59, 64, 69, 74, 79, 84, 89, 94, 99, 104], [57, 58], [], [], [4, 7, 40, 60], [], [62, 63], [], [], [4, 7, 40, 65], [], [67, 68], [], [], [4, 7, 40, 70], [], [72, 73], [], [], [4, 7, 40, 75], [], [77, 78], [], [], [4, 7, 40, 80], [], [82, 83], [], [], [4, 7, 40, 85], [], [87, 88], [], [], [4, 7, 40, 90], [], [92, 93], [], [], [4, 7, 40, 95], [], [97, 98], [], [], [4, 7, 40, 100], [], [102, 103], [], [], [4, 7, 40, 105], [], [107, 108], [], [], [106, 110, 114, 118, 119, 120, 121], [111, 112, 0, 113], [], [], [], [115, 116, 0, 117], [], [], [], [], [], [], []]) hR rfl (by decide) rfl dX10_init_175 rfl wc_X10_59 wn_X5 wz_X5 (fun k _ => dv5 k) (by decide) ?_
  have z21 := z20.push (by decide)
  refine r_dup dX10_init_178 rfl ?_
  refine r_aload_n dX10_init_179 rfl ?_
  refine n_getR' (rest := [[3], [], [5, 6], [], [], [4, 8, 12, 16, 17, 18, 19], [9, 10, 0, 11], [], [], [], [13, 14, 0, 15], [], [], [], [], [], [], [], [7, 21, 22, 23, 24, 25, 0, 26, 0, 27, 28, 0, 29, 30], [], [], [], [], [], [], [], [], [], [], [4, 7, 20, 32, 33, 34, 35, 0, 36, 37, 0, 38, 39], [], [], [], [], [], [], [], [], [4, 7, 31, 41, 42, 43, 44, 45, 46, 0, 47, 48, 0, 49, 50], [], [], [], [], [], [], [], [], [], [], [4, 7, 40, 52], [], [54, 55], [56, 61, 66, 71, 76, 81, 86, 91, 96, 101], [59, 64, 69, 74, 79, 84, 89, 94, 99, 104], [57, 58], [], [], [4, 7, 40, 60], [], [62, 63], [], [], [4, 7, 40, 65], [], [67, 68], [], [], [4, 7, 40, 70], [], [72, 73], [], [], [4, 7, 40, 75], [], [77, 78], [], [], [4, 7, 40, 80], [], [82, 83], [], [], [4, 7, 40, 85], [], [87, 88], [], [], [4, 7, 40, 90], [], [92, 93], [], [], [4, 7, 40, 95], [], [97, 98], [], [], [4, 7, 40, 100], [], [102, 103], [], [], [4, 7, 40, 105], [], [107, 108], [], [], [106, 110, 114, 118, 119, 120, 121], [111, 112, 0, 113], [], [], [], [115, 116, 0, 117], [], [], [], [], [], [], []]) hR (by decide) (by decide) rfl rfl (by decide) dX10_init_180 fl_X10_19 rfl ?_
  refine r_aload_n dX10_init_183 rfl ?_
  refine n_getR' (rest := [[3], [], [5, 6], [], [], [4, 8, 12, 16, 17, 18, 19], [9, 10, 0, 11], [], [], [], [13, 14, 0, 15], [], [], [], [], [], [], [], [7, 21, 22, 23, 24, 25, 0, 26, 0, 27, 28, 0, 29, 30], [], [], [], [], [], [], [], [], [], [], [4, 7, 20, 32, 33, 34, 35, 0, 36, 37, 0, 38, 39], [], [], [], [], [], [], [], [], [4, 7, 31, 41, 42, 43, 44, 45, 46, 0, 47, 48, 0, 49, 50], [], [], [], [], [], [], [], [], [], [], [4, 7, 40, 52], [], [54, 55], [56, 61, 66, 71, 76, 81, 86, 91, 96, 101], [59, 64, 69, 74, 79, 84, 89, 94, 99, 104], [57, 58], [], [], [4, 7, 40, 60], [], [62, 63], [], [], [4, 7, 40, 65], [], [67, 68], [], [], [4, 7, 40, 70], [], [72, 73], [], [], [4, 7, 40, 75], [], [77, 78], [], [], [4, 7, 40, 80], [], [82, 83], [], [], [4, 7, 40, 85], [], [87, 88], [], [], [4, 7, 40, 90], [], [92, 93], [], [], [4, 7, 40, 95], [], [97, 98], [], [], [4, 7, 40, 100], [], [102, 103], [], [], [4, 7, 40, 105], [], [107, 108], [], [], [106, 110, 114, 118, 119, 120, 121], [111, 112, 0, 113], [], [], [], [115, 116, 0, 117], [], [], [], [], [], [], []]) hR (by decide) (by decide) rfl rfl (by decide) dX10_init_184 fl_X10_28 rfl ?_
  refine r_aload_n dX10_init_187 rfl ?_
  refine n_getR' (rest := [[3], [], [5, 6], [], [], [4, 8, 12, 16, 17, 18, 19], [9, 10, 0, 11], [], [], [], [13, 14, 0, 15], [], [], [], [], [], [], [], [7, 21, 22, 23, 24, 25, 0, 26, 0, 27, 28, 0, 29, 30], [], [], [], [], [], [], [], [], [], [], [4, 7, 20, 32, 33, 34, 35, 0, 36, 37, 0, 38, 39], [], [], [], [], [], [], [], [], [4, 7, 31, 41, 42, 43, 44, 45, 46, 0, 47, 48, 0, 49, 50], [], [], [], [], [], [], [], [], [], [], [4, 7, 40, 52], [], [54, 55], [56, 61, 66, 71, 76, 81, 86, 91, 96, 101], [59, 64, 69, 74, 79, 84, 89, 94, 99, 104], [57, 58], [], [], [4, 7, 40, 60], [], [62, 63], [], [], [4, 7, 40, 65], [], [67, 68], [], [], [4, 7, 40, 70], [], [72, 73], [], [], [4, 7, 40, 75], [], [77, 78], [], [], [4, 7, 40, 80], [], [82, 83], [], [], [4, 7, 40, 85], [], [87, 88], [], [], [4, 7, 40, 90], [], [92, 93], [], [], [4, 7, 40, 95], [], [97, 98], [], [], [4, 7, 40, 100], [], [102, 103], [], [], [4, 7, 40, 105], [], [107, 108], [], [], [106, 110, 114, 118, 119, 120, 121], [111, 112, 0, 113], [], [], [], [115, 116, 0, 117], [], [], [], [], [], [], []]) hR (by decide) (by decide) rfl rfl (by decide) dX10_init_188 fl_X10_55 rfl ?_
  refine r_callI (z := mX5_init) (as := [vR 4, vR 7, vR 40]) (rc' := 1) (rs' := 24) (rc := 1) (rs := 7) dX10_init_191 mo_X5_init ws_X10_61 wi_X5 rfl rfl rfl (by decide) (Nat.le_of_ble_eq_true rfl) ?_
  refine i_X5_122 (n_len (rest := [[3], [], [5, 6], [], [], [4, 8, 12, 16, 17, 18, 19], [9, 10, 0, 11], [], [], [], [13, 14, 0, 15], [], [], [], [], [], [], [], [7, 21, 22, 23, 24, 25, 0, 26, 0, 27, 28, 0, 29, 30], [], [], [], [], [], [], [], [], [], [], [4, 7, 20, 32, 33, 34, 35, 0, 36, 37, 0, 38, 39], [], [], [], [], [], [], [], [], [4, 7, 31, 41, 42, 43, 44, 45, 46, 0, 47, 48, 0, 49, 50], [], [], [], [], [], [], [], [], [], [], [4, 7, 40, 52], [], [54, 55], [56, 61, 66, 71, 76, 81, 86, 91, 96, 101], [59, 64, 69, 74, 79, 84, 89, 94, 99, 104], [57, 58], [], [], [4, 7, 40, 60], [], [62, 63], [], [], [4, 7, 40, 65], [], [67, 68], [], [], [4, 7, 40, 70], [], [72, 73], [], [], [4, 7, 40, 75], [], [77, 78], [], [], [4, 7, 40, 80], [], [82, 83], [], [], [4, 7, 40, 85], [], [87, 88], [], [], [4, 7, 40, 90], [], [92, 93], [], [], [4, 7, 40, 95], [], [97, 98], [], [], [4, 7, 40, 100], [], [102, 103], [], [], [4, 7, 40, 105], [], [107, 108], [], [], [106, 110, 114, 118, 119, 120, 121], [111, 112, 0, 113], [], [], [], [115, 116, 0, 117], [], [], [], [], [], [], []]) hR rfl) z21 ?_
  intro σ22 z22
  refine n_as (rest := [[3], [], [5, 6], [], [], [4, 8, 12, 16, 17, 18, 19], [9, 10, 0, 11], [], [], [], [13, 14, 0, 15], [], [], [], [], [], [], [], [7, 21, 22, 23, 24, 25, 0, 26, 0, 27, 28, 0, 29, 30], [], [], [], [], [], [], [], [], [], [], [4, 7, 20, 32, 33, 34, 35, 0, 36, 37, 0, 38, 39], [], [], [], [], [], [], [], [], [4, 7, 31, 41, 42, 43, 44, 45, 46, 0, 47, 48, 0, 49, 50], [], [], [], [], [], [], [], [], [], [], [4, 7, 40, 52], [], [54, 55], [56, 61, 66, 71, 76, 81, 86, 91, 96, 101], [59, 64, 69, 74, 79, 84, 89, 94, 99, 104], [57, 58], [], [], [4, 7, 40, 60], [], [62, 63], [], [], [4, 7, 40, 65], [], [67, 68], [], [], [4, 7, 40, 70], [], [72, 73], [], [], [4, 7, 40, 75], [], [77, 78], [], [], [4, 7, 40, 80], [], [82, 83], [], [], [4, 7, 40, 85], [], [87, 88], [], [], [4, 7, 40, 90], [], [92, 93], [], [], [4, 7, 40, 95], [], [97, 98], [], [], [4, 7, 40, 100], [], [102, 103], [], [], [4, 7, 40, 105], [], [107, 108], [], [], [106, 110, 114, 118, 119, 120, 121], [111, 112, 0, 113], [], [], [], [115, 116, 0, 117], [], [], [], [], [], [], []]) (rest' := [[3], [], [5, 6], [], [], [4, 8, 12, 16, 17, 18, 19], [9, 10, 0, 11], [], [], [], [13, 14, 0, 15], [], [], [], [], [], [], [], [7, 21, 22, 23, 24, 25, 0, 26, 0, 27, 28, 0, 29, 30], [], [], [], [], [], [], [], [], [], [], [4, 7, 20, 32, 33, 34, 35, 0, 36, 37, 0, 38, 39], [], [], [], [], [], [], [], [], [4, 7, 31, 41, 42, 43, 44, 45, 46, 0, 47, 48, 0, 49, 50], [], [], [], [], [], [], [], [], [], [], [4, 7, 40, 52], [], [54, 55], [56, 61, 66, 71, 76, 81, 86, 91, 96, 101], [59, 64, 69, 74, 79, 84, 89, 94, 99, 104], [57, 58], [], [], [4, 7, 40, 60], [], [62, 63], [], [], [4, 7, 40, 65], [], [67, 68], [], [], [4, 7, 40, 70], [], [72, 73], [], [], [4, 7, 40, 75], [], [77, 78], [], [], [4, 7, 40, 80], [], [82, 83], [], [], [4, 7, 40, 85], [], [87, 88], [], [], [4, 7, 40, 90], [], [92, 93], [], [], [4, 7, 40, 95], [], [97, 98], [], [], [4, 7, 40, 100], [], [102, 103], [], [], [4, 7, 40, 105], [], [107, 108], [], [], [106, 110, 114, 118, 119, 120, 121], [111, 112, 0, 113], [], [], [], [115, 116, 0, 117], [], [], [], [], [], [], [], [4, 7, 40, 123], []]) rfl ?_
  refine n_putR (row' := [2, 4, 7, 20, 31, 40, 51, 53, 106, 109, 122]) (rest := [[3], [], [5, 6], [], [], [4, 8, 12, 16, 17, 18, 19], [9, 10, 0, 11], [], [], [], [13, 14, 0, 15], [], [], [], [], [], [], [], [7, 21, 22, 23, 24, 25, 0, 26, 0, 27, 28, 0, 29, 30], [], [], [], [], [], [], [], [], [], [], [4, 7, 20, 32, 33, 34, 35, 0, 36, 37, 0, 38, 39], [], [], [], [], [], [], [], [], [4, 7, 31, 41, 42, 43, 44, 45, 46, 0, 47, 48, 0, 49, 50], [], [], [], [], [], [], [], [], [], [], [4, 7, 40, 52], [], [54, 55], [56, 61, 66, 71, 76, 81, 86, 91, 96, 101], [59, 64, 69, 74, 79, 84, 89, 94, 99, 104], [57, 58], [], [], [4, 7, 40, 60], [], [62, 63], [], [], [4, 7, 40, 65], [], [67, 68], [], [], [4, 7, 40, 70], [], [72, 73], [], [], [4, 7, 40, 75], [], [77, 78], [], [], [4, 7, 40, 80], [], [82, 83], [], [], [4, 7, 40, 85], [], [87, 88], [], [], [4, 7, 40, 90], [], [92, 93], [], [], [4, 7, 40, 95], [], [97, 98], [], [], [4, 7, 40, 100], [], [102, 103], [], [], [4, 7, 40, 105], [], [107, 108], [], [], [106, 110, 114, 118, 119, 120, 121], [111, 112, 0, 113], [], [], [], [115, 116, 0, 117], [], [], [], [], [], [], [], [4, 7, 40, 123], []]) hR (by decide) (by decide) rfl rfl dX10_init_194 fl_X10_81 (fun _ h => by cases h; exact ⟨rfl, rfl⟩) rfl rfl (by decide) ?_
  refine r_aload_n dX10_init_197 rfl ?_
  refine n_new (ci := 6) (m := 7) (rest := [[3], [], [5, 6], [], [], [4, 8, 12, 16, 17, 18, 19], [9, 10, 0, 11], [], [], [], [13, 14, 0, 15], [], [], [], [], [], [], [], [7, 21, 22, 23, 24, 25, 0, 26, 0, 27, 28, 0, 29, 30], [], [], [], [], [], [], [], [], [], [], [4, 7, 20, 32, 33, 34, 35, 0, 36, 37, 0, 38, 39], [], [], [], [], [], [], [], [], [4, 7, 31, 41, 42, 43, 44, 45, 46, 0, 47, 48, 0, 49, 50], [], [], [], [], [], [], [], [], [], [], [4, 7, 40, 52], [], [54, 55], [56, 61, 66, 71, 76, 81, 86, 91, 96, 101], [59, 64, 69, 74, 79, 84, 89, 94, 99, 104], [57, 58], [], [], [4, 7, 40, 60], [], [62, 63], [], [], [4, 7, 40, 65], [], [67, 68], [], [], [4, 7, 40, 70], [], [72, 73], [], [], [4, 7, 40, 75], [], [77, 78], [], [], [4, 7, 40, 80], [], [82, 83], [], [], [4, 7, 40, 85], [], [87, 88], [], [], [4, 7, 40, 90], [], [92, 93], [], [], [4, 7, 40, 95], [], [97, 98], [], [], [4, 7, 40, 100], [], [102, 103], [], [], [4, 7, 40, 105], [], [107, 108], [], [], [106, 110, 114, 118, 119, 120, 121], [111, 112, 0, 113], [], [], [], [115, 116, 0, 117], [], [], [], [], [], [], [], [4, 7, 40, 123], []]) hR rfl (by decide) rfl dX10_init_198 rfl wc_X10_84 wn_X6 wz_X6 (fun k _ => dv6 k) (by decide) ?_
  have z23 := z22.push (by decide)
  refine r_dup dX10_init_201 rfl ?_
  refine r_aload_n dX10_init_202 rfl ?_
  refine n_getR' (rest := [[3], [], [5, 6], [], [], [4, 8, 12, 16, 17, 18, 19], [9, 10, 0, 11], [], [], [], [13, 14, 0, 15], [], [], [], [], [], [], [], [7, 21, 22, 23, 24, 25, 0, 26, 0, 27, 28, 0, 29, 30], [], [], [], [], [], [], [], [], [], [], [4, 7, 20, 32, 33, 34, 35, 0, 36, 37, 0, 38, 39], [], [], [], [], [], [], [], [], [4, 7, 31, 41, 42, 43, 44, 45, 46, 0, 47, 48, 0, 49, 50], [], [], [], [], [], [], [], [], [], [], [4, 7, 40, 52], [], [54, 55], [56, 61, 66, 71, 76, 81, 86, 91, 96, 101], [59, 64, 69, 74, 79, 84, 89, 94, 99, 104], [57, 58], [], [], [4, 7, 40, 60], [], [62, 63], [], [], [4, 7, 40, 65], [], [67, 68], [], [], [4, 7, 40, 70], [], [72, 73], [], [], [4, 7, 40, 75], [], [77, 78], [], [], [4, 7, 40, 80], [], [82, 83], [], [], [4, 7, 40, 85], [], [87, 88], [], [], [4, 7, 40, 90], [], [92, 93], [], [], [4, 7, 40, 95], [], [97, 98], [], [], [4, 7, 40, 100], [], [102, 103], [], [], [4, 7, 40, 105], [], [107, 108], [], [], [106, 110, 114, 118, 119, 120, 121], [111, 112, 0, 113], [], [], [], [115, 116, 0, 117], [], [], [], [], [], [], [], [4, 7, 40, 123], []]) hR (by decide) (by decide) rfl rfl (by decide) dX10_init_203 fl_X10_12 rfl ?_
  refine r_aload_n dX10_init_206 rfl ?_
  refine n_getR' (rest := [[3], [], [5, 6], [], [], [4, 8, 12, 16, 17, 18, 19], [9, 10, 0, 11], [], [], [], [13, 14, 0, 15], [], [], [], [], [], [], [], [7, 21, 22, 23, 24, 25, 0, 26, 0, 27, 28, 0, 29, 30], [], [], [], [], [], [], [], [], [], [], [4, 7, 20, 32, 33, 34, 35, 0, 36, 37, 0, 38, 39], [], [], [], [], [], [], [], [], [4, 7, 31, 41, 42, 43, 44, 45, 46, 0, 47, 48, 0, 49, 50], [], [], [], [], [], [], [], [], [], [], [4, 7, 40, 52], [], [54, 55], [56, 61, 66, 71, 76, 81, 86, 91, 96, 101], [59, 64, 69, 74, 79, 84, 89, 94, 99, 104], [57, 58], [], [], [4, 7, 40, 60], [], [62, 63], [], [], [4, 7, 40, 65], [], [67, 68], [], [], [4, 7, 40, 70], [], [72, 73], [], [], [4, 7, 40, 75], [], [77, 78], [], [], [4, 7, 40, 80], [], [82, 83], [], [], [4, 7, 40, 85], [], [87, 88], [], [], [4, 7, 40, 90], [], [92, 93], [], [], [4, 7, 40, 95], [], [97, 98], [], [], [4, 7, 40, 100], [], [102, 103], [], [], [4, 7, 40, 105], [], [107, 108], [], [], [106, 110, 114, 118, 119, 120, 121], [111, 112, 0, 113], [], [], [], [115, 116, 0, 117], [], [], [], [], [], [], [], [4, 7, 40, 123], []]) hR (by decide) (by decide) rfl rfl (by decide) dX10_init_207 fl_X10_75 rfl ?_
  refine r_callI (z := mX6_init) (as := [vR 2, vR 106]) (rc' := 0) (rs' := 0) (rc := 0) (rs := 0) dX10_init_210 mo_X6_init ws_X10_86 wi_X6 rfl rfl rfl (by decide) (Nat.le_of_ble_eq_true rfl) ?_
  refine i_X6_124 (n_len (rest := [[3], [], [5, 6], [], [], [4, 8, 12, 16, 17, 18, 19], [9, 10, 0, 11], [], [], [], [13, 14, 0, 15], [], [], [], [], [], [], [], [7, 21, 22, 23, 24, 25, 0, 26, 0, 27, 28, 0, 29, 30], [], [], [], [], [], [], [], [], [], [], [4, 7, 20, 32, 33, 34, 35, 0, 36, 37, 0, 38, 39], [], [], [], [], [], [], [], [], [4, 7, 31, 41, 42, 43, 44, 45, 46, 0, 47, 48, 0, 49, 50], [], [], [], [], [], [], [], [], [], [], [4, 7, 40, 52], [], [54, 55], [56, 61, 66, 71, 76, 81, 86, 91, 96, 101], [59, 64, 69, 74, 79, 84, 89, 94, 99, 104], [57, 58], [], [], [4, 7, 40, 60], [], [62, 63], [], [], [4, 7, 40, 65], [], [67, 68], [], [], [4, 7, 40, 70], [], [72, 73], [], [], [4, 7, 40, 75], [], [77, 78], [], [], [4, 7, 40, 80], [], [82, 83], [], [], [4, 7, 40, 85], [], [87, 88], [], [], [4, 7, 40, 90], [], [92, 93], [], [], [4, 7, 40, 95], [], [97, 98], [], [], [4, 7, 40, 100], [], [102, 103], [], [], [4, 7, 40, 105], [], [107, 108], [], [], [106, 110, 114, 118, 119, 120, 121], [111, 112, 0, 113], [], [], [], [115, 116, 0, 117], [], [], [], [], [], [], [], [4, 7, 40, 123], []]) hR rfl) z23 ?_
  intro σ24 z24
  refine n_as (rest := [[3], [], [5, 6], [], [], [4, 8, 12, 16, 17, 18, 19], [9, 10, 0, 11], [], [], [], [13, 14, 0, 15], [], [], [], [], [], [], [], [7, 21, 22, 23, 24, 25, 0, 26, 0, 27, 28, 0, 29, 30], [], [], [], [], [], [], [], [], [], [], [4, 7, 20, 32, 33, 34, 35, 0, 36, 37, 0, 38, 39], [], [], [], [], [], [], [], [], [4, 7, 31, 41, 42, 43, 44, 45, 46, 0, 47, 48, 0, 49, 50], [], [], [], [], [], [], [], [], [], [], [4, 7, 40, 52], [], [54, 55], [56, 61, 66, 71, 76, 81, 86, 91, 96, 101], [59, 64, 69, 74, 79, 84, 89, 94, 99, 104], [57, 58], [], [], [4, 7, 40, 60], [], [62, 63], [], [], [4, 7, 40, 65], [], [67, 68], [], [], [4, 7, 40, 70], [], [72, 73], [], [], [4, 7, 40, 75], [], [77, 78], [], [], [4, 7, 40, 80], [], [82, 83], [], [], [4, 7, 40, 85], [], [87, 88], [], [], [4, 7, 40, 90], [], [92, 93], [], [], [4, 7, 40, 95], [], [97, 98], [], [], [4, 7, 40, 100], [], [102, 103], [], [], [4, 7, 40, 105], [], [107, 108], [], [], [106, 110, 114, 118, 119, 120, 121], [111, 112, 0, 113], [], [], [], [115, 116, 0, 117], [], [], [], [], [], [], [], [4, 7, 40, 123], []]) (rest' := [[3], [], [5, 6], [], [], [4, 8, 12, 16, 17, 18, 19], [9, 10, 0, 11], [], [], [], [13, 14, 0, 15], [], [], [], [], [], [], [], [7, 21, 22, 23, 24, 25, 0, 26, 0, 27, 28, 0, 29, 30], [], [], [], [], [], [], [], [], [], [], [4, 7, 20, 32, 33, 34, 35, 0, 36, 37, 0, 38, 39], [], [], [], [], [], [], [], [], [4, 7, 31, 41, 42, 43, 44, 45, 46, 0, 47, 48, 0, 49, 50], [], [], [], [], [], [], [], [], [], [], [4, 7, 40, 52], [], [54, 55], [56, 61, 66, 71, 76, 81, 86, 91, 96, 101], [59, 64, 69, 74, 79, 84, 89, 94, 99, 104], [57, 58], [], [], [4, 7, 40, 60], [], [62, 63], [], [], [4, 7, 40, 65], [], [67, 68], [], [], [4, 7, 40, 70], [], [72, 73], [], [], [4, 7, 40, 75], [], [77, 78], [], [], [4, 7, 40, 80], [], [82, 83], [], [], [4, 7, 40, 85], [], [87, 88], [], [], [4, 7, 40, 90], [], [92, 93], [], [], [4, 7, 40, 95], [], [97, 98], [], [], [4, 7, 40, 100], [], [102, 103], [], [], [4, 7, 40, 105], [], [107, 108], [], [], [106, 110, 114, 118, 119, 120, 121], [111, 112, 0, 113], [], [], [], [115, 116, 0, 117], [], [], [], [], [], [], [], [4, 7, 40, 123], [], [2, 106]]) rfl ?_
  refine n_putR (row' := [2, 4, 7, 20, 31, 40, 51, 53, 106, 109, 122, 124]) (rest := [[3], [], [5, 6], [], [], [4, 8, 12, 16, 17, 18, 19], [9, 10, 0, 11], [], [], [], [13, 14, 0, 15], [], [], [], [], [], [], [], [7, 21, 22, 23, 24, 25, 0, 26, 0, 27, 28, 0, 29, 30], [], [], [], [], [], [], [], [], [], [], [4, 7, 20, 32, 33, 34, 35, 0, 36, 37, 0, 38, 39], [], [], [], [], [], [], [], [], [4, 7, 31, 41, 42, 43, 44, 45, 46, 0, 47, 48, 0, 49, 50], [], [], [], [], [], [], [], [], [], [], [4, 7, 40, 52], [], [54, 55], [56, 61, 66, 71, 76, 81, 86, 91, 96, 101], [59, 64, 69, 74, 79, 84, 89, 94, 99, 104], [57, 58], [], [], [4, 7, 40, 60], [], [62, 63], [], [], [4, 7, 40, 65], [], [67, 68], [], [], [4, 7, 40, 70], [], [72, 73], [], [], [4, 7, 40, 75], [], [77, 78], [], [], [4, 7, 40, 80], [], [82, 83], [], [], [4, 7, 40, 85], [], [87, 88], [], [], [4, 7, 40, 90], [], [92, 93], [], [], [4, 7, 40, 95], [], [97, 98], [], [], [4, 7, 40, 100], [], [102, 103], [], [], [4, 7, 40, 105], [], [107, 108], [], [], [106, 110, 114, 118, 119, 120, 121], [111, 112, 0, 113], [], [], [], [115, 116, 0, 117], [], [], [], [], [], [], [], [4, 7, 40, 123], [], [2, 106]]) hR (by decide) (by decide) rfl rfl dX10_init_213 fl_X10_89 (fun _ h => by cases h; exact ⟨rfl, rfl⟩) rfl rfl (by decide) ?_
  refine r_aload_n dX10_init_216 rfl ?_
  refine r_iconst dX10_init_217 ⟨by decide, by decide⟩ ?_
  refine n_putI (rest := [[3], [], [5, 6], [], [], [4, 8, 12, 16, 17, 18, 19], [9, 10, 0, 11], [], [], [], [13, 14, 0, 15], [], [], [], [], [], [], [], [7, 21, 22, 23, 24, 25, 0, 26, 0, 27, 28, 0, 29, 30], [], [], [], [], [], [], [], [], [], [], [4, 7, 20, 32, 33, 34, 35, 0, 36, 37, 0, 38, 39], [], [], [], [], [], [], [], [], [4, 7, 31, 41, 42, 43, 44, 45, 46, 0, 47, 48, 0, 49, 50], [], [], [], [], [], [], [], [], [], [], [4, 7, 40, 52], [], [54, 55], [56, 61, 66, 71, 76, 81, 86, 91, 96, 101], [59, 64, 69, 74, 79, 84, 89, 94, 99, 104], [57, 58], [], [], [4, 7, 40, 60], [], [62, 63], [], [], [4, 7, 40, 65], [], [67, 68], [], [], [4, 7, 40, 70], [], [72, 73], [], [], [4, 7, 40, 75], [], [77, 78], [], [], [4, 7, 40, 80], [], [82, 83], [], [], [4, 7, 40, 85], [], [87, 88], [], [], [4, 7, 40, 90], [], [92, 93], [], [], [4, 7, 40, 95], [], [97, 98], [], [], [4, 7, 40, 100], [], [102, 103], [], [], [4, 7, 40, 105], [], [107, 108], [], [], [106, 110, 114, 118, 119, 120, 121], [111, 112, 0, 113], [], [], [], [115, 116, 0, 117], [], [], [], [], [], [], [], [4, 7, 40, 123], [], [2, 106]]) (by decide) (by decide) rfl dX10_init_218 fl_X10_93 (fun _ h => by cases h; rfl) (Or.inr ⟨rfl, by decide⟩) ?_
  have z25 := z24.put0 (o := 1) (k := 12) (by decide)
  refine r_aload_n dX10_init_221 rfl ?_
  refine r_iconst dX10_init_222 ⟨by decide, by decide⟩ ?_
  refine n_putI (rest := [[3], [], [5, 6], [], [], [4, 8, 12, 16, 17, 18, 19], [9, 10, 0, 11], [], [], [], [13, 14, 0, 15], [], [], [], [], [], [], [], [7, 21, 22, 23, 24, 25, 0, 26, 0, 27, 28, 0, 29, 30], [], [], [], [], [], [], [], [], [], [], [4, 7, 20, 32, 33, 34, 35, 0, 36, 37, 0, 38, 39], [], [], [], [], [], [], [], [], [4, 7, 31, 41, 42, 43, 44, 45, 46, 0, 47, 48, 0, 49, 50], [], [], [], [], [], [], [], [], [], [], [4, 7, 40, 52], [], [54, 55], [56, 61, 66, 71, 76, 81, 86, 91, 96, 101], [59, 64, 69, 74, 79, 84, 89, 94, 99, 104], [57, 58], [], [], [4, 7, 40, 60], [], [62, 63], [], [], [4, 7, 40, 65], [], [67, 68], [], [], [4, 7, 40, 70], [], [72, 73], [], [], [4, 7, 40, 75], [], [77, 78], [], [], [4, 7, 40, 80], [], [82, 83], [], [], [4, 7, 40, 85], [], [87, 88], [], [], [4, 7, 40, 90], [], [92, 93], [], [], [4, 7, 40, 95], [], [97, 98], [], [], [4, 7, 40, 100], [], [102, 103], [], [], [4, 7, 40, 105], [], [107, 108], [], [], [106, 110, 114, 118, 119, 120, 121], [111, 112, 0, 113], [], [], [], [115, 116, 0, 117], [], [], [], [], [], [], [], [4, 7, 40, 123], [], [2, 106]]) (by decide) (by decide) rfl dX10_init_223 fl_X10_97 (fun _ h => by cases h; rfl) (Or.inl rfl) ?_
  have z26 := z25.put0 (o := 1) (k := 13) (by decide)
  exact r_vret dX10_init_226 rfl (hQ _ z26)
theorem i_X11_125 {Rp : List (List Nat)} {kB : Nat → Nat × Nat} {σ0 σ : StT} {Q : Int → ShT → StT → Prop} (hR : Rp.length = 125) (z0 : ZI σ0 σ 126) (hQ : ∀ σ' : StT, ZI σ0 σ' 154 → Q 0 (shN 154 (Rp ++ [[0, 0, 0, 0, 126, 0, 127, 128, 129, 130, 0, 0, 0, 0, 0, 0, 0, 0, 0, 0, 0, 0, 131, 132, 133, 134, 0, 0, 135, 136, 137, 0, 138, 139, 0, 140, 141, 142, 143, 144, 0, 145, 146, 147, 148, 149, 150, 151, 152, 153], [], [], [], [], [], [], [], [], [], [], [], [], [], [], [], [], [], [], [], [], [], [], [], [], [], [], [], []]) kB) σ') : WPm mX11_init [vR 125] (shN 126 (Rp ++ [[]]) kB) σ 28 19879 Q := by
  refine r_entry (by decide) (Nat.le_of_ble_eq_true rfl) rfl rfl ?_
  refine r_aload_n dX11_init_0 rfl ?_
  refine r_objI dX11_init_1 wo_X11 (Nat.le_of_ble_eq_true rfl) (Nat.le_of_ble_eq_true rfl) ?_
  refine r_aload_n dX11_init_4 rfl ?_
  refine r_iconst dX11_init_5 ⟨by decide, by decide⟩ ?_
  refine n_putI (rest := []) (by decide) (by decide) rfl dX11_init_6 fl_X11_9 (fun _ h => by cases h; rfl) (Or.inl rfl) ?_
  have z1 := z0.putx (o := 125) (k := 3) (v := -1) (by decide) (by decide)
  refine r_aload_n dX11_init_9 rfl ?_
  refine r_sipush dX11_init_10 (by decide +kernel) ⟨by decide, by decide⟩ ?_
  refine n_newI (m := 700) (kk := 1) (rest := []) (rest' := [[]]) hR rfl (by decide) rfl rfl dX11_init_13 (Or.inl ⟨rfl, rfl⟩) w_newI rfl (by decide) ?_
  have z2 := z1.push (by decide)
  refine n_putR (row' := [0, 0, 0, 0, 126]) (rest := [[]]) hR (by decide) (by decide) rfl rfl dX11_init_15 fl_X11_13 (fun _ h => by cases h; exact ⟨rfl, rfl⟩) rfl rfl (by decide) ?_
  refine r_aload_n dX11_init_18 rfl ?_
  refine r_sipush dX11_init_19 (by decide +kernel) ⟨by decide, by decide⟩ ?_
  refine n_newI (m := 152) (kk := 1) (rest := [[]]) (rest' := [[], []]) hR rfl (by decide) rfl rfl dX11_init_22 (Or.inl ⟨rfl, rfl⟩) w_newI rfl (by decide) ?_
  have z3 := z2.push (by decide)
  refine n_putR (row' := [0, 0, 0, 0, 126, 0, 127]) (rest := [[], []]) hR (by decide) (by decide) rfl rfl dX11_init_24 fl_X11_17 (fun _ h => by cases h; exact ⟨rfl, rfl⟩) rfl rfl (by decide) ?_
  refine r_aload_n dX11_init_27 rfl ?_
  refine r_sipush dX11_init_28 (by decide +kernel) ⟨by decide, by decide⟩ ?_
  refine n_newI (m := 152) (kk := 1) (rest := [[], []]) (rest' := [[], [], []]) hR rfl (by decide) rfl rfl dX11_init_31 (Or.inl ⟨rfl, rfl⟩) w_newI rfl (by decide) ?_
  have z4 := z3.push (by decide)
  refine n_putR (row' := [0, 0, 0, 0, 126, 0, 127, 128]) (rest := [[], [], []]) hR (by decide) (by decide) rfl rfl dX11_init_33 fl_X11_20 (fun _ h => by cases h; exact ⟨rfl, rfl⟩) rfl rfl (by decide) ?_
  refine r_aload_n dX11_init_36 rfl ?_
  refine r_sipush dX11_init_37 (by decide +kernel) ⟨by decide, by decide⟩ ?_
  refine n_newI (m := 152) (kk := 1) (rest := [[], [], []]) (rest' := [[], [], [], []]) hR rfl (by decide) rfl rfl dX11_init_40 (Or.inl ⟨rfl, rfl⟩) w_newI rfl (by decide) ?_
  have z5 := z4.push (by decide)
  refine n_putR (row' := [0, 0, 0, 0, 126, 0, 127, 128, 129]) (rest := [[], [], [], []]) hR (by decide) (by decide) rfl rfl dX11_init_42 fl_X11_23 (fun _ h => by cases h; exact ⟨rfl, rfl⟩) rfl rfl (by decide) ?_
  refine r_aload_n dX11_init_45 rfl ?_
  refine r_sipush dX11_init_46 (by decide +kernel) ⟨by decide, by decide⟩ ?_
  refine n_newI (m := 1520) (kk := 1) (rest := [[], [], [], []]) (rest' := [[], [], [], [], []]) hR rfl (by decide) rfl rfl dX11_init_49 (Or.inl ⟨rfl, rfl⟩) w_newI rfl (by decide) ?_
  have z6 := z5.push (by decide)
  refine n_putR (row' := [0, 0, 0, 0, 126, 0, 127, 128, 129, 130]) (rest := [[], [], [], [], []]) hR (by decide) (by decide) rfl rfl dX11_init_51 fl_X11_26 (fun _ h => by cases h; exact ⟨rfl, rfl⟩) rfl rfl (by decide) ?_
  refine r_aload_n dX11_init_54 rfl ?_
  refine r_bipush dX11_init_55 (by decide +kernel) ⟨by decide, by decide⟩ ?_
  refine n_newI (m := 48) (kk := 1) (rest := [[], [], [], [], []]) (rest' := [[], [], [], [], [], []]) hR rfl (by decide) rfl rfl dX11_init_57 (Or.inl ⟨rfl, rfl⟩) w_newI rfl (by decide) ?_
  have z7 := z6.push (by decide)
  refine n_putR (row' := [0, 0, 0, 0, 126, 0, 127, 128, 129, 130, 0, 0, 0, 0, 0, 0, 0, 0, 0, 0, 0, 0, 131]) (rest := [[], [], [], [], [], []]) hR (by decide) (by decide) rfl rfl dX11_init_59 fl_X11_29 (fun _ h => by cases h; exact ⟨rfl, rfl⟩) rfl rfl (by decide) ?_
  refine r_aload_n dX11_init_62 rfl ?_
  refine r_bipush dX11_init_63 (by decide +kernel) ⟨by decide, by decide⟩ ?_
  refine n_newI (m := 48) (kk := 1) (rest := [[], [], [], [], [], []]) (rest' := [[], [], [], [], [], [], []]) hR rfl (by decide) rfl rfl dX11_init_65 (Or.inl ⟨rfl, rfl⟩) w_newI rfl (by decide) ?_
  have z8 := z7.push (by decide)
  refine n_putR (row' := [0, 0, 0, 0, 126, 0, 127, 128, 129, 130, 0, 0, 0, 0, 0, 0, 0, 0, 0, 0, 0, 0, 131, 132]) (rest := [[], [], [], [], [], [], []]) hR (by decide) (by decide) rfl rfl dX11_init_67 fl_X11_32 (fun _ h => by cases h; exact ⟨rfl, rfl⟩) rfl rfl (by decide) ?_
  refine r_aload_n dX11_init_70 rfl ?_
  refine r_bipush dX11_init_71 (by decide +kernel) ⟨by decide, by decide⟩ ?_
  refine n_newI (m := 48) (kk := 1) (rest := [[], [], [], [], [], [], []]) (rest' := [[], [], [], [], [], [], [], []]) hR rfl (by decide) rfl rfl dX11_init_73 (Or.inl ⟨rfl, rfl⟩) w_newI rfl (by decide) ?_
  have z9 := z8.push (by decide)
  refine n_putR (row' := [0, 0, 0, 0, 126, 0, 127, 128, 129, 130, 0, 0, 0, 0, 0, 0, 0, 0, 0, 0, 0, 0, 131, 132, 133]) (rest := [[], [], [], [], [], [], [], []]) hR (by decide) (by decide) rfl rfl dX11_init_75 fl_X11_35 (fun _ h => by cases h; exact ⟨rfl, rfl⟩) rfl rfl (by decide) ?_
  refine r_aload_n dX11_init_78 rfl ?_
  refine r_bipush dX11_init_79 (by decide +kernel) ⟨by decide, by decide⟩ ?_
  refine n_newI (m := 48) (kk := 1) (rest := [[], [], [], [], [], [], [], []]) (rest' := [[], [], [], [], [], [], [], [], []]) hR rfl (by decide) rfl rfl dX11_init_81 (Or.inl ⟨rfl, rfl⟩) w_newI rfl (by decide) ?_
  have z10 := z9.push (by decide)
  refine n_putR (row' := [0, 0, 0, 0, 126, 0, 127, 128, 129, 130, 0, 0, 0, 0, 0, 0, 0, 0, 0, 0, 0, 0, 131, 132, 133, 134]) (rest := [[], [], [], [], [], [], [], [], []]) hR (by decide) (by decide) rfl rfl dX11_init_83 fl_X11_38 (fun _ h => by cases h; exact ⟨rfl, rfl⟩) rfl rfl (by decide) ?_
  refine r_aload_n dX11_init_86 rfl ?_
  refine r_bipush dX11_init_87 (by decide +kernel) ⟨by decide, by decide⟩ ?_
  refine n_newI (m := 24) (kk := 1) (rest := [[], [], [], [], [], [], [], [], []]) (rest' := [[], [], [], [], [], [], [], [], [], []]) hR rfl (by decide) rfl rfl dX11_init_89 (Or.inl ⟨rfl, rfl⟩) w_newI rfl (by decide) ?_
  have z11 := z10.push (by decide)
  refine n_putR (row' := [0, 0, 0, 0, 126, 0, 127, 128, 129, 130, 0, 0, 0, 0, 0, 0, 0, 0, 0, 0, 0, 0, 131, 132, 133, 134, 0, 0, 135]) (rest := [[], [], [], [], [], [], [], [], [], []]) hR (by decide) (by decide) rfl rfl dX11_init_91 fl_X11_41 (fun _ h => by cases h; exact ⟨rfl, rfl⟩) rfl rfl (by decide) ?_
  refine r_aload_n dX11_init_94 rfl ?_
  refine r_bipush dX11_init_95 (by decide +kernel) ⟨by decide, by decide⟩ ?_
  refine n_newI (m := 24) (kk := 1) (rest := [[], [], [], [], [], [], [], [], [], []]) (rest' := [[], [], [], [], [], [], [], [], [], [], []]) hR rfl (by decide) rfl rfl dX11_init_97 (Or.inl ⟨rfl, rfl⟩) w_newI rfl (by decide) ?_
  have z12 := z11.push (by decide)
  refine n_putR (row' := [0, 0, 0, 0, 126, 0, 127, 128, 129, 130, 0, 0, 0, 0, 0, 0, 0, 0, 0, 0, 0, 0, 131, 132, 133, 134, 0, 0, 135, 136]) (rest := [[], [], [], [], [], [], [], [], [], [], []]) hR (by decide) (by decide) rfl rfl dX11_init_99 fl_X11_44 (fun _ h => by cases h; exact ⟨rfl, rfl⟩) rfl rfl (by decide) ?_
  refine r_aload_n dX11_init_102 rfl ?_
  refine r_bipush dX11_init_103 (by decide +kernel) ⟨by decide, by decide⟩ ?_
  refine n_newI (m := 24) (kk := 1) (rest := [[], [], [], [], [], [], [], [], [], [], []]) (rest' := [[], [], [], [], [], [], [], [], [], [], [], []]) hR rfl (by decide) rfl rfl dX11_init_105 (Or.inl ⟨rfl, rfl⟩) w_newI rfl (by decide) ?_
  have z13 := z12.push (by decide)
  refine n_putR (row' := [0, 0, 0, 0, 126, 0, 127, 128, 129, 130, 0, 0, 0, 0, 0, 0, 0, 0, 0, 0, 0, 0, 131, 132, 133, 134, 0, 0, 135, 136, 137]) (rest := [[], [], [], [], [], [], [], [], [], [], [], []]) hR (by decide) (by decide) rfl rfl dX11_init_107 fl_X11_47 (fun _ h => by cases h; exact ⟨rfl, rfl⟩) rfl rfl (by decide) ?_
  refine r_aload_n dX11_init_110 rfl ?_
  refine r_bipush dX11_init_111 (by decide +kernel) ⟨by decide, by decide⟩ ?_
  refine n_newI (m := 48) (kk := 1) (rest := [[], [], [], [], [], [], [], [], [], [], [], []]) (rest' := [[], [], [], [], [], [], [], [], [], [], [], [], []]) hR rfl (by decide) rfl rfl dX11_init_113 (Or.inl ⟨rfl, rfl⟩) w_newI rfl (by decide) ?_
  have z14 := z13.push (by decide)
  refine n_putR (row' := [0, 0, 0, 0, 126, 0, 127, 128, 129, 130, 0, 0, 0, 0, 0, 0, 0, 0, 0, 0, 0, 0, 131, 132, 133, 134, 0, 0, 135, 136, 137, 0, 138]) (rest := [[], [], [], [], [], [], [], [], [], [], [], [], []]) hR (by decide) (by decide) rfl rfl dX11_init_115 fl_X11_50 (fun _ h => by cases h; exact ⟨rfl, rfl⟩) rfl rfl (by decide) ?_
  refine r_aload_n dX11_init_118 rfl ?_
  refine r_bipush dX11_init_119 (by decide +kernel) ⟨by decide, by decide⟩ ?_
  refine n_newI (m := 48) (kk := 1) (rest := [[], [], [], [], [], [], [], [], [], [], [], [], []]) (rest' := [[], [], [], [], [], [], [], [], [], [], [], [], [], []]) hR rfl (by decide) rfl rfl dX11_init_121 (Or.inl ⟨rfl, rfl⟩) w_newI rfl (by decide) ?_
  have z15 := z14.push (by decide)
  refine n_putR (row' := [0, 0, 0, 0, 126, 0, 127, 128, 129, 130, 0, 0, 0, 0, 0, 0, 0, 0, 0, 0, 0, 0, 131, 132, 133, 134, 0, 0, 135, 136, 137, 0, 138, 139]) (rest := [[], [], [], [], [], [], [], [], [], [], [], [], [], []]) hR (by decide) (by decide) rfl rfl dX11_init_123 fl_X11_53 (fun _ h => by cases h; exact ⟨rfl, rfl⟩) rfl rfl (by decide) ?_
  refine r_aload_n dX11_init_126 rfl ?_
  refine r_sipush dX11_init_127 (by decide +kernel) ⟨by decide, by decide⟩ ?_
  refine n_newI (m := 16384) (kk := 1) (rest := [[], [], [], [], [], [], [], [], [], [], [], [], [], []]) (rest' := [[], [], [], [], [], [], [], [], [], [], [], [], [], [], []]) hR rfl (by decide) rfl rfl dX11_init_130 (Or.inl ⟨rfl, rfl⟩) w_newI rfl (by decide) ?_
  have z16 := z15.push (by decide)
  refine n_putR (row' := [0, 0, 0, 0, 126, 0, 127, 128, 129, 130, 0, 0, 0, 0, 0, 0, 0, 0, 0, 0, 0, 0, 131, 132, 133, 134, 0, 0, 135, 136, 137, 0, 138, 139, 0, 140]) (rest := [[], [], [], [], [], [], [], [], [], [], [], [], [], [], []]) hR (by decide) (by decide) rfl rfl dX11_init_132 fl_X11_56 (fun _ h => by cases h; exact ⟨rfl, rfl⟩) rfl rfl (by decide) ?_
  refine r_aload_n dX11_init_135 rfl ?_
  refine r_bipush dX11_init_136 (by decide +kernel) ⟨by decide, by decide⟩ ?_
  refine n_newI (m := 24) (kk := 2) (rest := [[], [], [], [], [], [], [], [], [], [], [], [], [], [], []]) (rest' := [[], [], [], [], [], [], [], [], [], [], [], [], [], [], [], []]) hR rfl (by decide) rfl rfl dX11_init_138 (Or.inr (Or.inl ⟨rfl, rfl⟩)) w_newZ rfl (by decide) ?_
  have z17 := z16.push (by decide)
  refine n_putR (row' := [0, 0, 0, 0, 126, 0, 127, 128, 129, 130, 0, 0, 0, 0, 0, 0, 0, 0, 0, 0, 0, 0, 131, 132, 133, 134, 0, 0, 135, 136, 137, 0, 138, 139, 0, 140, 141]) (rest := [[], [], [], [], [], [], [], [], [], [], [], [], [], [], [], []]) hR (by decide) (by decide) rfl rfl dX11_init_140 fl_X11_59 (fun _ h => by cases h; exact ⟨rfl, rfl⟩) rfl rfl (by decide) ?_
  refine r_aload_n dX11_init_143 rfl ?_
  refine r_bipush dX11_init_144 (by decide +kernel) ⟨by decide, by decide⟩ ?_
  refine n_newI (m := 24) (kk := 2) (rest := [[], [], [], [], [], [], [], [], [], [], [], [], [], [], [], []]) (rest' := [[], [], [], [], [], [], [], [], [], [], [], [], [], [], [], [], []]) hR rfl (by decide) rfl rfl dX11_init_146 (Or.inr (Or.inl ⟨rfl, rfl⟩)) w_newZ rfl (by decide) ?_
  have z18 := z17.push (by decide)
  refine n_putR (row' := [0, 0, 0, 0, 126, 0, 127, 128, 129, 130, 0, 0, 0, 0, 0, 0, 0, 0, 0, 0, 0, 0, 131, 132, 133, 134, 0, 0, 135, 136, 137, 0, 138, 139, 0, 140, 141, 142]) (rest := [[], [], [], [], [], [], [], [], [], [], [], [], [], [], [], [], []]) hR (by decide) (by decide) rfl rfl dX11_init_148 fl_X11_63 (fun _ h => by cases h; exact ⟨rfl, rfl⟩) rfl rfl (by decide) ?_
  refine r_aload_n dX11_init_151 rfl ?_
  refine r_bipush dX11_init_152 (by decide +kernel) ⟨by decide, by decide⟩ ?_
  refine n_newI (m := 48) (kk := 1) (rest := [[], [], [], [], [], [], [], [], [], [], [], [], [], [], [], [], []]) (rest' := [[], [], [], [], [], [], [], [], [], [], [], [], [], [], [], [], [], []]) hR rfl (by decide) rfl rfl dX11_init_154 (Or.inl ⟨rfl, rfl⟩) w_newI rfl (by decide) ?_
  have z19 := z18.push (by decide)
  refine n_putR (row' := [0, 0, 0, 0, 126, 0, 127, 128, 129, 130, 0, 0, 0, 0, 0, 0, 0, 0, 0, 0, 0, 0, 131, 132, 133, 134, 0, 0, 135, 136, 137, 0, 138, 139, 0, 140, 141, 142, 143]) (rest := [[], [], [], [], [], [], [], [], [], [], [], [], [], [], [], [], [], []]) hR (by decide) (by decide) rfl rfl dX11_init_156 fl_X11_66 (fun _ h => by cases h; exact ⟨rfl, rfl⟩) rfl rfl (by decide) ?_
  refine r_aload_n dX11_init_159 rfl ?_
  refine r_bipush dX11_init_160 (by decide +kernel) ⟨by decide, by decide⟩ ?_
  refine n_newI (m := 49) (kk := 1) (rest := [[], [], [], [], [], [], [], [], [], [], [], [], [], [], [], [], [], []]) (rest' := [[], [], [], [], [], [], [], [], [], [], [], [], [], [], [], [], [], [], []]) hR rfl (by decide) rfl rfl dX11_init_162 (Or.inl ⟨rfl, rfl⟩) w_newI rfl (by decide) ?_
  have z20 := z19.push (by decide)
  refine n_putR (row' := [0, 0, 0, 0, 126, 0, 127, 128, 129, 130, 0, 0, 0, 0, 0, 0, 0, 0, 0, 0, 0, 0, 131, 132, 133, 134, 0, 0, 135, 136, 137, 0, 138, 139, 0, 140, 141, 142, 143, 144]) (rest := [[], [], [], [], [], [], [], [], [], [], [], [], [], [], [], [], [], [], []]) hR (by decide) (by decide) rfl rfl dX11_init_164 fl_X11_69 (fun _ h => by cases h; exact ⟨rfl, rfl⟩) rfl rfl (by decide) ?_
  refine r_aload_n dX11_init_167 rfl ?_
  refine r_bipush dX11_init_168 (by decide +kernel) ⟨by decide, by decide⟩ ?_
  refine n_newI (m := 48) (kk := 1) (rest := [[], [], [], [], [], [], [], [], [], [], [], [], [], [], [], [], [], [], []]) (rest' := [[], [], [], [], [], [], [], [], [], [], [], [], [], [], [], [], [], [], [], []]) hR rfl (by decide) rfl rfl dX11_init_170 (Or.inl ⟨rfl, rfl⟩) w_newI rfl (by decide) ?_
  have z21 := z20.push (by decide)
  refine n_putR (row' := [0, 0, 0, 0, 126, 0, 127, 128, 129, 130, 0, 0, 0, 0, 0, 0, 0, 0, 0, 0, 0, 0, 131, 132, 133, 134, 0, 0, 135, 136, 137, 0, 138, 139, 0, 140, 141, 142, 143, 144, 0, 145]) (rest := [[], [], [], [], [], [], [], [], [], [], [], [], [], [], [], [], [], [], [], []]) hR (by decide) (by decide) rfl rfl dX11_init_172 fl_X11_72 (fun _ h => by cases h; exact ⟨rfl, rfl⟩) rfl rfl (by decide) ?_
  refine r_aload_n dX11_init_175 rfl ?_
  refine r_bipush dX11_init_176 (by decide +kernel) ⟨by decide, by decide⟩ ?_
  refine n_newI (m := 49) (kk := 1) (rest := [[], [], [], [], [], [], [], [], [], [], [], [], [], [], [], [], [], [], [], []]) (rest' := [[], [], [], [], [], [], [], [], [], [], [], [], [], [], [], [], [], [], [], [], []]) hR rfl (by decide) rfl rfl dX11_init_178 (Or.inl ⟨rfl, rfl⟩) w_newI rfl (by decide) ?_
  have z22 := z21.push (by decide)
  refine n_putR (row' := [0, 0, 0, 0, 126, 0, 127, 128, 129, 130, 0, 0, 0, 0, 0, 0, 0, 0, 0, 0, 0, 0, 131, 132, 133, 134, 0, 0, 135, 136, 137, 0, 138, 139, 0, 140, 141, 142, 143, 144, 0, 145, 146]) (rest := [[], [], [], [], [], [], [], [], [], [], [], [], [], [], [], [], [], [], [], [], []]) hR (by decide) (by decide) rfl rfl dX11_init_180 fl_X11_75 (fun _ h => by cases h; exact ⟨rfl, rfl⟩) rfl rfl (by decide) ?_
  refine r_aload_n dX11_init_183 rfl ?_
  refine r_bipush dX11_init_184 (by decide +kernel) ⟨by decide, by decide⟩ ?_
  refine n_newI (m := 49) (kk := 1) (rest := [[], [], [], [], [], [], [], [], [], [], [], [], [], [], [], [], [], [], [], [], []]) (rest' := [[], [], [], [], [], [], [], [], [], [], [], [], [], [], [], [], [], [], [], [], [], []]) hR rfl (by decide) rfl rfl dX11_init_186 (Or.inl ⟨rfl, rfl⟩) w_newI rfl (by decide) ?_
  have z23 := z22.push (by decide)
  refine n_putR (row' := [0, 0, 0, 0, 126, 0, 127, 128, 129, 130, 0, 0, 0, 0, 0, 0, 0, 0, 0, 0, 0, 0, 131, 132, 133, 134, 0, 0, 135, 136, 137, 0, 138, 139, 0, 140, 141, 142, 143, 144, 0, 145, 146, 147]) (rest := [[], [], [], [], [], [], [], [], [], [], [], [], [], [], [], [], [], [], [], [], [], []]) hR (by decide) (by decide) rfl rfl dX11_init_188 fl_X11_78 (fun _ h => by cases h; exact ⟨rfl, rfl⟩) rfl rfl (by decide) ?_
  refine r_aload_n dX11_init_191 rfl ?_
  refine r_bipush dX11_init_192 (by decide +kernel) ⟨by decide, by decide⟩ ?_
  refine n_newI (m := 48) (kk := 1) (rest := [[], [], [], [], [], [], [], [], [], [], [], [], [], [], [], [], [], [], [], [], [], []]) (rest' := [[], [], [], [], [], [], [], [], [], [], [], [], [], [], [], [], [], [], [], [], [], [], []]) hR rfl (by decide) rfl rfl dX11_init_194 (Or.inl ⟨rfl, rfl⟩) w_newI rfl (by decide) ?_
  have z24 := z23.push (by decide)
  refine n_putR (row' := [0, 0, 0, 0, 126, 0, 127, 128, 129, 130, 0, 0, 0, 0, 0, 0, 0, 0, 0, 0, 0, 0, 131, 132, 133, 134, 0, 0, 135, 136, 137, 0, 138, 139, 0, 140, 141, 142, 143, 144, 0, 145, 146, 147, 148]) (rest := [[], [], [], [], [], [], [], [], [], [], [], [], [], [], [], [], [], [], [], [], [], [], []]) hR (by decide) (by decide) rfl rfl dX11_init_196 fl_X11_81 (fun _ h => by cases h; exact ⟨rfl, rfl⟩) rfl rfl (by decide) ?_
  refine r_aload_n dX11_init_199 rfl ?_
  refine r_bipush dX11_init_200 (by decide +kernel) ⟨by decide, by decide⟩ ?_
  refine n_newI (m := 24) (kk := 1) (rest := [[], [], [], [], [], [], [], [], [], [], [], [], [], [], [], [], [], [], [], [], [], [], []]) (rest' := [[], [], [], [], [], [], [], [], [], [], [], [], [], [], [], [], [], [], [], [], [], [], [], []]) hR rfl (by decide) rfl rfl dX11_init_202 (Or.inl ⟨rfl, rfl⟩) w_newI rfl (by decide) ?_
  have z25 := z24.push (by decide)
  refine n_putR (row' := [0, 0, 0, 0, 126, 0, 127, 128, 129, 130, 0, 0, 0, 0, 0, 0, 0, 0, 0, 0, 0, 0, 131, 132, 133, 134, 0, 0, 135, 136, 137, 0, 138, 139, 0, 140, 141, 142, 143, 144, 0, 145, 146, 147, 148, 149]) (rest := [[], [], [], [], [], [], [], [], [], [], [], [], [], [], [], [], [], [], [], [], [], [], [], []]) hR (by decide) (by decide) rfl rfl dX11_init_204 fl_X11_84 (fun _ h => by cases h; exact ⟨rfl, rfl⟩) rfl rfl (by decide) ?_
  refine r_aload_n dX11_init_207 rfl ?_
  refine r_bipush dX11_init_208 (by decide +kernel) ⟨by decide, by decide⟩ ?_
  refine n_newI (m := 24) (kk := 1) (rest := [[], [], [], [], [], [], [], [], [], [], [], [], [], [], [], [], [], [], [], [], [], [], [], []]) (rest' := [[], [], [], [], [], [], [], [], [], [], [], [], [], [], [], [], [], [], [], [], [], [], [], [], []]) hR rfl (by decide) rfl rfl dX11_init_210 (Or.inl ⟨rfl, rfl⟩) w_newI rfl (by decide) ?_
  have z26 := z25.push (by decide)
  refine n_putR (row' := [0, 0, 0, 0, 126, 0, 127, 128, 129, 130, 0, 0, 0, 0, 0, 0, 0, 0, 0, 0, 0, 0, 131, 132, 133, 134, 0, 0, 135, 136, 137, 0, 138, 139, 0, 140, 141, 142, 143, 144, 0, 145, 146, 147, 148, 149, 150]) (rest := [[], [], [], [], [], [], [], [], [], [], [], [], [], [], [], [], [], [], [], [], [], [], [], [], []]) hR (by decide) (by decide) rfl rfl dX11_init_212 fl_X11_87 (fun _ h => by cases h; exact ⟨rfl, rfl⟩) rfl rfl (by decide) ?_
  refine r_aload_n dX11_init_215 rfl ?_
  refine r_bipush dX11_init_216 (by decide +kernel) ⟨by decide, by decide⟩ ?_
  refine n_newI (m := 24) (kk := 1) (rest := [[], [], [], [], [], [], [], [], [], [], [], [], [], [], [], [], [], [], [], [], [], [], [], [], []]) (rest' := [[], [], [], [], [], [], [], [], [], [], [], [], [], [], [], [], [], [], [], [], [], [], [], [], [], []]) hR rfl (by decide) rfl rfl dX11_init_218 (Or.inl ⟨rfl, rfl⟩) w_newI rfl (by decide) ?_
  have z27 := z26.push (by decide)
  refine n_putR (row' := [0, 0, 0, 0, 126, 0, 127, 128, 129, 130, 0, 0, 0, 0, 0, 0, 0, 0, 0, 0, 0, 0, 131, 132, 133, 134, 0, 0, 135, 136, 137, 0, 138, 139, 0, 140, 141, 142, 143, 144, 0, 145, 146, 147, 148, 149, 150, 151]) (rest := [[], [], [], [], [], [], [], [], [], [], [], [], [], [], [], [], [], [], [], [], [], [], [], [], [], []]) hR (by decide) (by decide) rfl rfl dX11_init_220 fl_X11_90 (fun _ h => by cases h; exact ⟨rfl, rfl⟩) rfl rfl (by decide) ?_
  refine r_aload_n dX11_init_223 rfl ?_
  refine r_bipush dX11_init_224 (by decide +kernel) ⟨by decide, by decide⟩ ?_
  refine n_newI (m := 24) (kk := 1) (rest := [[], [], [], [], [], [], [], [], [], [], [], [], [], [], [], [], [], [], [], [], [], [], [], [], [], []]) (rest' := [[], [], [], [], [], [], [], [], [], [], [], [], [], [], [], [], [], [], [], [], [], [], [], [], [], [], []]) hR rfl (by decide) rfl rfl dX11_init_226 (Or.inl ⟨rfl, rfl⟩) w_newI rfl (by decide) ?_
  have z28 := z27.push (by decide)
  refine n_putR (row' := [0, 0, 0, 0, 126, 0, 127, 128, 129, 130, 0, 0, 0, 0, 0, 0, 0, 0, 0, 0, 0, 0, 131, 132, 133, 134, 0, 0, 135, 136, 137, 0, 138, 139, 0, 140, 141, 142, 143, 144, 0, 145, 146, 147, 148, 149, 150, 151, 152]) (rest := [[], [], [], [], [], [], [], [], [], [], [], [], [], [], [], [], [], [], [], [], [], [], [], [], [], [], []]) hR (by decide) (by decide) rfl rfl dX11_init_228 fl_X11_93 (fun _ h => by cases h; exact ⟨rfl, rfl⟩) rfl rfl (by decide) ?_
  refine r_aload_n dX11_init_231 rfl ?_
  refine r_bipush dX11_init_232 (by decide +kernel) ⟨by decide, by decide⟩ ?_
  refine n_newI (m := 24) (kk := 1) (rest := [[], [], [], [], [], [], [], [], [], [], [], [], [], [], [], [], [], [], [], [], [], [], [], [], [], [], []]) (rest' := [[], [], [], [], [], [], [], [], [], [], [], [], [], [], [], [], [], [], [], [], [], [], [], [], [], [], [], []]) hR rfl (by decide) rfl rfl dX11_init_234 (Or.inl ⟨rfl, rfl⟩) w_newI rfl (by decide) ?_
  have z29 := z28.push (by decide)
  refine n_putR (row' := [0, 0, 0, 0, 126, 0, 127, 128, 129, 130, 0, 0, 0, 0, 0, 0, 0, 0, 0, 0, 0, 0, 131, 132, 133, 134, 0, 0, 135, 136, 137, 0, 138, 139, 0, 140, 141, 142, 143, 144, 0, 145, 146, 147, 148, 149, 150, 151, 152, 153]) (rest := [[], [], [], [], [], [], [], [], [], [], [], [], [], [], [], [], [], [], [], [], [], [], [], [], [], [], [], []]) hR (by decide) (by decide) rfl rfl dX11_init_236 fl_X11_96 (fun _ h => by cases h; exact ⟨rfl, rfl⟩) rfl rfl (by decide) ?_
  exact r_vret dX11_init_239 rfl (hQ _ z29)
