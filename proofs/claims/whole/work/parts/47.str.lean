/-! strings: constants, and the JDK's methods over them -/
section STR
variable {y : ME} {pc : Nat} {ls : List (Nat × AV)} {st : List AV} {S : ShT} {σ : StT} {rc rs : Nat} {Q : Int → ShT → StT → Prop} {Qs : Int → StT → Prop}
theorem adr_old {K : CX} (i : Nat) : adr K (BIG + i) = K.2.2.1 (BIG + i) := by unfold adr; rw [if_neg (by omega)]
theorem old_at {K : CX} {U : State} {H : Heap} (h : HR K U S σ H) {q : Nat} (hq : ¬ K.2.1 ≤ q) : H[q]? = K.2.2.2[q]? := h.2.2.2.2.2.1 q (by omega)
theorem r_ldcS (i : Nat) {ix : Nat} {tx : String} (hd : decode (me_c y) pc = .ok (.ldc ix, 2)) (ht : strTab[i]? = some ((me_n y).cls, ix, tx)) (kk : AW y (pc + 2) ls (vR (BIG + 1 + i) :: st) S σ rc rs Q) : AW y pc ls st S σ rc rs Q := by
  intro p l e s m args below meth c H locs cells slots mc ms K L C B hH hl hs hL
  have h := hH.1.2.2.1 i _ ht
  refine va_ldcS C.1 C.2.1 C.2.2.2.2.2.1 h hd ?_
  have k := kk p l e s m args below meth c H locs cells slots mc ms K L C B hH hl (ok_c (v := vR _) trivial hs) hL
  have e1 : cv K (vR (BIG + 1 + i)) = .ref (K.2.2.1 (BIG + 1 + i)) := by show Value.ref _ = _; rw [Nat.add_assoc, adr_old]
  rw [List.map_cons, e1] at k
  exact k
theorem r_sget {i ix : Nat} {v : AV} {n d : String} (hd : decode (me_c y) pc = .ok (.getfield ix, 3)) (hi : i < 12) (hw : Cond.fieldLink (me_n y).cls ix "java/lang/String" n d ∈ GB) (hn : (n = "value" ∧ d = "[B" ∧ v = vR (BIG + 101 + i)) ∨ (n = "coder" ∧ d = "B" ∧ v = vI 0)) (kk : AW y (pc + 3) ls (v :: st) S σ rc rs Q) : AW y pc ls (vR (BIG + 1 + i) :: st) S σ rc rs Q := by
  intro p l e s m args below meth c H locs cells slots mc ms K L C B hH hl hs hL
  obtain ⟨h1, h2, h3, h4⟩ := hH.1.2.1 i hi
  have e1 : cv K (vR (BIG + 1 + i)) = .ref (K.2.2.1 (BIG + 1 + i)) := by show Value.ref _ = _; rw [Nat.add_assoc, adr_old]
  have key : va_OF "java/lang/String" n d (cv K v) (K.2.2.1 (BIG + 1 + i)) (fun q => K.2.1 ≤ q) s K.2.2.2 := by
    rcases hn with ⟨rfl, rfl, rfl⟩ | ⟨rfl, rfl, rfl⟩
    · have e2 : cv K (vR (BIG + 101 + i)) = .ref (K.2.2.1 (BIG + 101 + i)) := by show Value.ref _ = _; rw [Nat.add_assoc, adr_old]
      rw [e2]; exact h3
    · exact h2
  obtain ⟨cf, k, fi, f, cell, g1, g2, g3, g4, g5, g6⟩ := key
  rw [List.map_cons, e1]
  have hok : okV v := by rcases hn with ⟨-, -, rfl⟩ | ⟨-, -, rfl⟩; exact trivial; exact inR_0
  exact W.getf C.1 C.2.1 C.2.2.2.2.2.1 (C.2.2.2.2.2.2.2 _ hw) g1 g2 ((old_at hH g6).trans g3) g4 g5 rfl rfl hd (kk p l e s m args below meth c H locs cells slots mc ms K L C B hH hl (ok_c hok (ok_t hs)) hL)
theorem r_slen {i : Nat} (hd : decode (me_c y) pc = .ok (.arraylength, 1)) (hi : i < 12) (kk : AW y (pc + 1) ls (vI ((strCh i).length : Int) :: st) S σ rc rs Q) : AW y pc ls (vR (BIG + 101 + i) :: st) S σ rc rs Q := by
  intro p l e s m args below meth c H locs cells slots mc ms K L C B hH hl hs hL
  obtain ⟨h1, h2, h3, cell, g1, g2, g3, g4, g5, g6, g7⟩ := hH.1.2.1 i hi
  have e1 : cv K (vR (BIG + 101 + i)) = .ref (K.2.2.1 (BIG + 101 + i)) := by show Value.ref _ = _; rw [Nat.add_assoc, adr_old]
  rw [List.map_cons, e1]
  have hlen : (strCh i).length ≤ 6 := by unfold strCh; split <;> decide
  exact W.alen C.1 C.2.1 ((old_at hH g7).trans g1) g2 (n := Int32.ofInt ((strCh i).length : Int)) (by rw [g5]; exact Int32.ofInt_eq_ofNat.symm) rfl rfl hd (kk p l e s m args below meth c H locs cells slots mc ms K L C B hH hl (ok_c (v := vI _) ⟨by omega, by omega⟩ (ok_t hs)) hL)
theorem strCh_in (i j : Nat) : 0 ≤ (strCh i).getD j 0 ∧ (strCh i).getD j 0 < 128 := by
  unfold strCh
  split <;> (match j with
    | 0 => decide
    | 1 => decide
    | 2 => decide
    | 3 => decide
    | 4 => decide
    | 5 => decide
    | j + 6 => exact ⟨Int.le_refl 0, (by decide : (0 : Int) < 128)⟩)
theorem r_sbald {i : Nat} {j : Int} (hd : decode (me_c y) pc = .ok (.baload, 1)) (hi : i < 12) (h0 : 0 ≤ j) (h1 : j < (strCh i).length) (kk : AW y (pc + 1) ls (vI ((strCh i).getD j.toNat 0) :: st) S σ rc rs Q) : AW y pc ls (vI j :: vR (BIG + 101 + i) :: st) S σ rc rs Q := by
  intro p l e s m args below meth c H locs cells slots mc ms K L C B hH hl hs hL
  have hj : inR j := ok_h hs
  obtain ⟨h1', h2, h3, cell, g1, g2, g3, g4, g5, g6, g7⟩ := hH.1.2.1 i hi
  have e1 : cv K (vR (BIG + 101 + i)) = .ref (K.2.2.1 (BIG + 101 + i)) := by show Value.ref _ = _; rw [Nat.add_assoc, adr_old]
  rw [List.map_cons, List.map_cons, e1]
  have hb := strCh_in i j.toNat
  refine W.bald C.1 C.2.1 ((old_at hH g7).trans g1) g2 g3 (v := .int (Int32.ofInt ((strCh i).getD j.toNat 0))) ?_ (by rw [i_cl hj]; exact g6 _ (by omega)) rfl rfl hd (kk p l e s m args below meth c H locs cells slots mc ms K L C B hH hl (ok_c (v := vI _) ⟨by omega, by omega⟩ (ok_t (ok_t hs))) hL)
  rw [i_cl hj, i_0, i_lt hj inR_0]
  omega
theorem r_gets1 {ix : Nat} (hd : decode (me_c y) pc = .ok (.getstatic ix, 3)) (hw : Cond.fieldLink (me_n y).cls ix "java/lang/String" "COMPACT_STRINGS" "Z" ∈ GB) (kk : AW y (pc + 3) ls (vI 1 :: st) S σ rc rs Q) : AW y pc ls st S σ rc rs Q := by
  intro p l e s m args below meth c H locs cells slots mc ms K L C B hH hl hs hL
  obtain ⟨cf, kf, fi, f, a, cell, g1, g2, g3, g4, g5, g6, g7, g8⟩ := hH.1.2.2.2.2.2.2.2.1
  exact W.gets C.1 C.2.1 C.2.2.2.2.2.1 (C.2.2.2.2.2.2.2 _ hw) g1 g2 g3 g4 ((old_at hH g8).trans g5) (fun h => by rw [h] at g6; cases g6) g7 rfl hd (kk p l e s m args below meth c H locs cells slots mc ms K L C B hH hl (ok_c (v := vI 1) ⟨by decide, by decide⟩ hs) hL)
theorem r_gets2 {ix : Nat} (hd : decode (me_c y) pc = .ok (.getstatic ix, 3)) (hw : Cond.fieldLink (me_n y).cls ix "jdk/internal/util/Preconditions" "SIOOBE_FORMATTER" "Ljava/util/function/BiFunction;" ∈ GB) (kk : AW y (pc + 3) ls (vR (BIG + 201) :: st) S σ rc rs Q) : AW y pc ls st S σ rc rs Q := by
  intro p l e s m args below meth c H locs cells slots mc ms K L C B hH hl hs hL
  obtain ⟨cf, kf, fi, f, a, cell, g1, g2, g3, g4, g5, g6, g7, g8⟩ := hH.1.2.2.2.2.2.2.2.2
  have k := kk p l e s m args below meth c H locs cells slots mc ms K L C B hH hl (ok_c (v := vR _) trivial hs) hL
  have e1 : cv K (vR (BIG + 201)) = .ref (K.2.2.1 (BIG + 201)) := by show Value.ref _ = _; rw [adr_old]
  rw [List.map_cons, e1] at k
  exact W.gets C.1 C.2.1 C.2.2.2.2.2.1 (C.2.2.2.2.2.2.2 _ hw) g1 g2 g3 g4 ((old_at hH g8).trans g5) (fun h => by rw [h] at g6; cases g6) g7 rfl hd k
theorem r_i2c {z : Int} (hd : decode (me_c y) pc = .ok (.i2c, 1)) (h0 : 0 ≤ z) (h1 : z < 128) (kk : AW y (pc + 1) ls (vI z :: st) S σ rc rs Q) : AW y pc ls (vI z :: st) S σ rc rs Q := by
  intro p l e s m args below meth c H locs cells slots mc ms K L C B hH hl hs hL
  have he : ((Int32.ofInt z).toUInt32 % 65536).toInt32 = Int32.ofInt z := by
    obtain ⟨n, rfl⟩ := Int.eq_ofNat_of_zero_le h0
    have key : ∀ n : Nat, n < 128 → ((Int32.ofInt (n : Int)).toUInt32 % 65536).toInt32 = Int32.ofInt (n : Int) := by decide +kernel
    exact key n (by omega)
  exact lv_i2c C.1 C.2.1 hd he (kk p l e s m args below meth c H locs cells slots mc ms K L C B hH hl hs hL)
theorem s_nret {z : Int} {ty : FieldType} (hd : decode (me_c y) pc = .ok (.ireturn, 1)) (hr : me_r y = some ty) (hn : narrow ty (.int (Int32.ofInt z)) = .int (Int32.ofInt z)) (hq : Qs z σ) : AWs y pc ls [vI z] S σ Qs := by
  intro p l e s m args below meth c H locs cells slots mc ms K L C B hH hl hs hL
  have hz : inR z := ok_h hs
  refine W.widen (k := mc) (n := ms) (by omega) (by omega) ?_
  exact W.zret C.1 C.2.1 (C.2.2.2.1.trans hr) hn (fun t ht hW => ⟨z, S, σ, ⟨rfl, hq⟩, by rw [hr]; rfl, hz, by rw [ht]; exact hH.warm hW⟩) B.1 hd C.2.2.2.2.1
/-- a call upon a string -/
theorem s_callStr {z : ME} {w n ix : Nat} (as : List AV) (hd : decode (me_c y) pc = .ok (.invokevirtual ix, 3)) (hm : MO z n) (hl : LK (me_n y).cls ix (me_n z)) (hi : Cond.instanceMethod (me_n z) ∈ GB ∧ Cond.selects "java/lang/String" (me_n z) (me_n z) ∈ GB ∧ (me_n z).cls = "java/lang/String") (hn : as.length = n) (hR : fits2 z y = true) (hw : w < 12) (hst : (st.map vcat).sum ≤ 8)
    (k : WPs z (vR (BIG + 1 + w) :: as) S σ (fun r σ' => AWs y (pc + 3) ls (prt (me_r z) r st) S σ' Qs)) : AWs y pc ls (as.reverse ++ vR (BIG + 1 + w) :: st) S σ Qs := by
  intro p l e s m args below meth c H locs cells slots mc ms K L C B hH hl' hs hL
  have hts := C.2.2.2.2.2.2.2
  obtain ⟨⟨cell, q1, q2, q3, q4⟩, -⟩ := hH.1.2.1 w hw
  have hs1 : ∀ v ∈ as, okV v := fun v hv => hs v (List.mem_append_left _ (List.mem_reverse.mpr hv))
  have hs2 : ∀ v ∈ st, okV v := fun v hv => hs v (List.mem_append_right _ (List.mem_cons_of_mem _ hv))
  have e1 : adr K (BIG + 1 + w) = K.2.2.1 (BIG + 1 + w) := by rw [Nat.add_assoc, adr_old]
  have hstk : (as.reverse ++ vR (BIG + 1 + w) :: st).map (cv K) = (as.map (cv K)).reverse ++ .ref (adr K (BIG + 1 + w)) :: st.map (cv K) := by simp [cv]
  rw [hstk]
  have hz : ∀ (r : Int) (S' : ShT) (σ' : StT), (S' = S ∧ AWs y (pc + 3) ls (prt (me_r z) r st) S σ' Qs) → AW y (pc + 3) ls (prt (me_r z) r st) S' σ' 0 0 (fun r S'' σ' => S'' = S ∧ Qs r σ') := fun r S' σ' h => by rw [h.1]; exact h.2
  refine r_back (z := z) (rc := 0) (rs := 0) (rc' := 0) (rs' := 0) (as := as) (stk := []) C B hH hl' hs2 hL hz (va_runV (bytes := me_c z) (maxL := me_l z) (ret := me_r z) (As := as.map (cv K)) (C := "java/lang/String") (n := n) (ws := wsOf z) ⟨C.1, C.2.1, C.2.2.1, C.2.2.2.2.2.1, hts⟩ (k l K B.2.1) ?_ ?_ rfl (by rw [List.length_map]; exact hn) hL.1 rfl (lv_room (by rw [vcat_sum]; exact hst)) hd ⟨by show cells + 0 ≤ mc; omega, by show slots + 0 ≤ ms; omega⟩)
  · exact ⟨callB_of n hts (gb_good (mo_ws hm)) rfl rfl rfl (hts _ hm.2.1) (hts _ hl) ⟨hm.2.2.1, hm.2.2.2.1, hm.2.2.2.2⟩ (fits2_ok hR), hts _ hi.1, hts _ hi.2.1⟩
  · exact ⟨pc_blind, ⟨cell, by rw [e1]; exact (old_at hH q4).trans q1, q2, q3⟩, fun U hU hW => ⟨rfl, by rw [hU]; exact hH.warm hW, ok_c (v := vR _) trivial hs1⟩⟩
end STR
