/-! the JDK's methods over the string constants -/
set_option maxRecDepth 100000 in
theorem wj_38 : Cond.fieldLink RJ0 38 "java/lang/String" "COMPACT_STRINGS" "Z" ∈ GB := gb_in (by decide +kernel) (by decide +kernel)
set_option maxRecDepth 100000 in
theorem wj_15 : Cond.fieldLink RJ0 15 "java/lang/String" "coder" "B" ∈ GB := gb_in (by decide +kernel) (by decide +kernel)
set_option maxRecDepth 100000 in
theorem wj_9 : Cond.fieldLink RJ0 9 "java/lang/String" "value" "[B" ∈ GB := gb_in (by decide +kernel) (by decide +kernel)
set_option maxRecDepth 100000 in
theorem wj_1053 : Cond.fieldLink RJ0 1053 "jdk/internal/util/Preconditions" "SIOOBE_FORMATTER" "Ljava/util/function/BiFunction;" ∈ GB := gb_in (by decide +kernel) (by decide +kernel)
def strM (z : ME) : Prop := Cond.instanceMethod (me_n z) ∈ GB ∧ Cond.selects "java/lang/String" (me_n z) (me_n z) ∈ GB ∧ (me_n z).cls = "java/lang/String"
set_option maxRecDepth 100000 in
theorem wj_len : strM mJ0_length_8abf5 := ⟨gb_in (by decide +kernel) (by decide +kernel), gb_in (by decide +kernel) (by decide +kernel), rfl⟩
set_option maxRecDepth 100000 in
theorem wj_cha : strM mJ0_charAt_5068e := ⟨gb_in (by decide +kernel) (by decide +kernel), gb_in (by decide +kernel) (by decide +kernel), rfl⟩
set_option maxRecDepth 100000 in
theorem wj_cod : strM mJ0_coder_7d493 := ⟨gb_in (by decide +kernel) (by decide +kernel), gb_in (by decide +kernel) (by decide +kernel), rfl⟩
set_option maxRecDepth 100000 in
theorem wj_isl : strM mJ0_isLatin1_aae02 := ⟨gb_in (by decide +kernel) (by decide +kernel), gb_in (by decide +kernel) (by decide +kernel), rfl⟩
section STRM
variable {S : ShT} {σ : StT} {w : Nat} {Q : Int → StT → Prop}
theorem sp_coder (hw : w < 12) (hq : Q 0 σ) : WPs mJ0_coder_7d493 [vR (BIG + 1 + w)] S σ Q := by
  refine s_entry (by decide) (Nat.le_of_ble_eq_true rfl) rfl rfl ?_
  refine r_gets1 dJ0_coder_7d493_0 wj_38 ?_
  refine r_if_eq (tgt := 13) dJ0_coder_7d493_3 rfl (fun h => absurd h (by decide)) (fun _ => ?_)
  refine r_aload_n dJ0_coder_7d493_6 rfl ?_
  refine r_sget dJ0_coder_7d493_7 hw wj_15 (Or.inr ⟨rfl, rfl, rfl⟩) ?_
  refine r_goto (tgt := 14) dJ0_coder_7d493_10 rfl ?_
  exact s_nret dJ0_coder_7d493_14 rfl rfl hq
theorem sp_isLatin1 (hw : w < 12) (hq : Q 1 σ) : WPs mJ0_isLatin1_aae02 [vR (BIG + 1 + w)] S σ Q := by
  refine s_entry (by decide) (Nat.le_of_ble_eq_true rfl) rfl rfl ?_
  refine r_gets1 dJ0_isLatin1_aae02_0 wj_38 ?_
  refine r_if_eq (tgt := 17) dJ0_isLatin1_aae02_3 rfl (fun h => absurd h (by decide)) (fun _ => ?_)
  refine r_aload_n dJ0_isLatin1_aae02_6 rfl ?_
  refine r_sget dJ0_isLatin1_aae02_7 hw wj_15 (Or.inr ⟨rfl, rfl, rfl⟩) ?_
  refine r_if_ne (tgt := 17) dJ0_isLatin1_aae02_10 rfl (fun h => absurd rfl h) (fun _ => ?_)
  refine r_iconst dJ0_isLatin1_aae02_13 ⟨by decide, by decide⟩ ?_
  refine r_goto (tgt := 18) dJ0_isLatin1_aae02_14 rfl ?_
  exact s_zret dJ0_isLatin1_aae02_18 rfl (Or.inr rfl) hq
theorem str_shr : ∀ w, w < 12 → iShr ((strCh w).length : Int) 0 = ((strCh w).length : Int) := by decide +kernel
theorem sp_slength (hw : w < 12) (hq : Q ((strCh w).length : Int) σ) : WPs mJ0_length_8abf5 [vR (BIG + 1 + w)] S σ Q := by
  refine s_entry (by decide) (Nat.le_of_ble_eq_true rfl) rfl rfl ?_
  refine r_aload_n dJ0_length_8abf5_0 rfl ?_
  refine r_sget dJ0_length_8abf5_1 hw wj_9 (Or.inl ⟨rfl, rfl, rfl⟩) ?_
  refine r_slen dJ0_length_8abf5_4 hw ?_
  refine r_aload_n dJ0_length_8abf5_5 rfl ?_
  refine s_callStr (z := mJ0_coder_7d493) [] dJ0_length_8abf5_6 mo_J0_coder_7d493 lk_J0_335 wj_cod rfl (by decide) hw (Nat.le_of_ble_eq_true rfl) ?_
  refine sp_coder hw ?_
  refine r_ishr dJ0_length_8abf5_9 ?_
  rw [str_shr w hw]
  exact s_iret dJ0_length_8abf5_10 rfl hq
theorem sp_check3 {i n : Int} (h0 : 0 ≤ i) (h1 : i < n) (hq : Q i σ) : WPx mJ3_checkIndex_8e157 [vI i, vI n] S σ (fun r S' σ' => S' = S ∧ Q r σ') := by
  refine x_entry (by decide) (Nat.le_of_ble_eq_true rfl) rfl rfl ?_
  refine r_iload_n dJ3_checkIndex_8e157_0 rfl ?_
  refine r_if_lt (tgt := 9) dJ3_checkIndex_8e157_1 rfl (fun h => absurd h (by omega)) (fun _ => ?_)
  refine r_iload_n dJ3_checkIndex_8e157_4 rfl ?_
  refine r_iload_n dJ3_checkIndex_8e157_5 rfl ?_
  refine r_icmp_lt (tgt := 16) dJ3_checkIndex_8e157_6 rfl (fun _ => ?_) (fun h => absurd h1 h)
  refine r_iload_n dJ3_checkIndex_8e157_16 rfl ?_
  exact s_iret dJ3_checkIndex_8e157_17 rfl hq
theorem sp_check0 {i n : Int} (h0 : 0 ≤ i) (h1 : i < n) (hq : Q 0 σ) : WPs mJ0_checkIndex_df160 [vI i, vI n] S σ Q := by
  refine s_entry (by decide) (Nat.le_of_ble_eq_true rfl) rfl rfl ?_
  refine r_iload_n dJ0_checkIndex_df160_0 rfl ?_
  refine r_iload_n dJ0_checkIndex_df160_1 rfl ?_
  refine r_gets2 (z := mJ3_checkIndex_8e157) (as := [vI i, vI n]) (st := []) (n := 3) dJ0_checkIndex_df160_2 wj_1053 dJ0_checkIndex_df160_5 ms_J3_checkIndex_8e157.1 lk_J0_1059 ms_J3_checkIndex_8e157.2 rfl (fits2_ok (by decide)) (Nat.le_of_ble_eq_true rfl) (Qz := fun r S' σ' => S' = S ∧ σ' = σ) (fun r S' σ' h => ?_) (sp_check3 (Q := fun _ σ' => σ' = σ) h0 h1 rfl)
  rw [h.1, h.2]
  refine r_pop dJ0_checkIndex_df160_8 rfl ?_
  exact s_vret dJ0_checkIndex_df160_9 rfl hq
theorem and_255 : ∀ n : Nat, n < 128 → iAnd (n : Int) 255 = (n : Int) := by decide +kernel
theorem nar_char : ∀ n : Nat, n < 128 → narrow .char (.int (Int32.ofInt (n : Int))) = .int (Int32.ofInt (n : Int)) := by decide +kernel
theorem sp_lcharAt {i : Int} (hw : w < 12) (h0 : 0 ≤ i) (h1 : i < (strCh w).length) (hq : Q ((strCh w).getD i.toNat 0) σ) : WPs mJ1_charAt_3b067 [vR (BIG + 101 + w), vI i] S σ Q := by
  have hb := strCh_in w i.toNat
  obtain ⟨n, hn⟩ := Int.eq_ofNat_of_zero_le hb.1
  refine s_entry (by decide) (Nat.le_of_ble_eq_true rfl) rfl rfl ?_
  refine r_iload_n dJ1_charAt_3b067_0 rfl ?_
  refine r_aload_n dJ1_charAt_3b067_1 rfl ?_
  refine r_slen dJ1_charAt_3b067_2 hw ?_
  refine s_callS (z := mJ0_checkIndex_df160) [vI i, vI ((strCh w).length : Int)] dJ1_charAt_3b067_3 ms_J0_checkIndex_df160 lk_J1_9 rfl (by decide) (Nat.le_of_ble_eq_true rfl) ?_
  refine sp_check0 h0 h1 ?_
  refine r_aload_n dJ1_charAt_3b067_6 rfl ?_
  refine r_iload_n dJ1_charAt_3b067_7 rfl ?_
  refine r_sbald dJ1_charAt_3b067_8 hw h0 h1 ?_
  refine r_sipush dJ1_charAt_3b067_9 (by decide +kernel) ⟨by decide, by decide⟩ ?_
  refine r_iand dJ1_charAt_3b067_12 ?_
  rw [hn] at hq hb ⊢
  rw [and_255 n (by omega)]
  refine r_i2c dJ1_charAt_3b067_13 (by omega) (by omega) ?_
  exact s_nret dJ1_charAt_3b067_14 rfl (nar_char n (by omega)) hq
theorem sp_charAt {i : Int} (hw : w < 12) (h0 : 0 ≤ i) (h1 : i < (strCh w).length) (hq : Q ((strCh w).getD i.toNat 0) σ) : WPs mJ0_charAt_5068e [vR (BIG + 1 + w), vI i] S σ Q := by
  have hb := strCh_in w i.toNat
  obtain ⟨n, hn⟩ := Int.eq_ofNat_of_zero_le hb.1
  refine s_entry (by decide) (Nat.le_of_ble_eq_true rfl) rfl rfl ?_
  refine r_aload_n dJ0_charAt_5068e_0 rfl ?_
  refine s_callStr (z := mJ0_isLatin1_aae02) [] dJ0_charAt_5068e_1 mo_J0_isLatin1_aae02 lk_J0_492 wj_isl rfl (by decide) hw (Nat.le_of_ble_eq_true rfl) ?_
  refine sp_isLatin1 hw ?_
  refine r_if_eq (tgt := 16) dJ0_charAt_5068e_4 rfl (fun h => absurd h (by decide)) (fun _ => ?_)
  refine r_aload_n dJ0_charAt_5068e_7 rfl ?_
  refine r_sget dJ0_charAt_5068e_8 hw wj_9 (Or.inl ⟨rfl, rfl, rfl⟩) ?_
  refine r_iload_n dJ0_charAt_5068e_11 rfl ?_
  refine s_callS (z := mJ1_charAt_3b067) [vR (BIG + 101 + w), vI i] dJ0_charAt_5068e_12 ms_J1_charAt_3b067 lk_J0_495 rfl (by decide) (Nat.le_of_ble_eq_true rfl) ?_
  refine sp_lcharAt hw h0 h1 ?_
  rw [hn] at hq hb ⊢
  exact s_nret dJ0_charAt_5068e_15 rfl (nar_char n (by omega)) hq
end STRM
