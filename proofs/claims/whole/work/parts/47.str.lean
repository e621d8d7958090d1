/-! strings: constants, and the JDK's methods over them -/
section STR
variable {y : ME} {pc : Nat} {ls : List (Nat × AV)} {st : List AV} {S : ShT} {σ : StT} {rc rs : Nat} {Q : Int → ShT → StT → Prop} {Qs : Int → StT → Prop}
theorem adr_old {K : CX} (i : Nat) : adr K (BIG + i) = K.2.2.1 (BIG + i) := by unfold adr; rw [if_neg (by omega)]
theorem old_at {K : CX} {U : State} {H : Heap} (h : HR K U S σ H) {q : Nat} (hq : ¬ K.2.1 ≤ q) : H[q]? = K.2.2.2[q]? := h.2.2.2.2.2.1 q (by omega)
theorem r_ldcS (i : Nat) {ix : Nat} {tx : String} (hd : decode (me_c y) pc = .ok (.ldc ix, 2)) (ht : strTab[i]? = some ((me_n y).cls, ix, tx)) (kk : AW y (pc + 2) ls (vR (BIG + 1 + i) :: st) S σ rc rs Q) : AW y pc ls st S σ rc rs Q := by
  intro p l e s m args below meth c H locs cells slots mc ms K L C B hH hl hs hL
  have h := hH.1.2.2.1 i _ ht
  refine va_ldcS C.1 C.2.1 C.2.2.2.2.2.1 h hd ?_
  have k := kk p l e s m args below meth c H locs cells slots mc ms K L C B hH hl (ok_c (v := vR _) trivial hs) hL
  have e1 : cv K (vR (BIG + 1 + i)) = .ref (K.2.2.1 (BIG + 1 + i)) := by show Value.ref _ = _; rw [Nat.add_assoc, adr_old]
  rw [List.map_cons, e1] at k
  exact k
theorem r_sget {i ix : Nat} {v : AV} {n d : String} (hd : decode (me_c y) pc = .ok (.getfield ix, 3)) (hi : i < 12) (hw : Cond.fieldLink (me_n y).cls ix "java/lang/String" n d ∈ GB) (hn : (n = "value" ∧ d = "[B" ∧ v = vR (BIG + 101 + i)) ∨ (n = "coder" ∧ d = "B" ∧ v = vI 0)) (kk : AW y (pc + 3) ls (v :: st) S σ rc rs Q) : AW y pc ls (vR (BIG + 1 + i) :: st) S σ rc rs Q := by
  intro p l e s m args below meth c H locs cells slots mc ms K L C B hH hl hs hL
  obtain ⟨h1, h2, h3, h4⟩ := hH.1.2.1 i hi
  have e1 : cv K (vR (BIG + 1 + i)) = .ref (K.2.2.1 (BIG + 1 + i)) := by show Value.ref _ = _; rw [Nat.add_assoc, adr_old]
  have key : va_OF "java/lang/String" n d (cv K v) (K.2.2.1 (BIG + 1 + i)) (fun q => K.2.1 ≤ q) s K.2.2.2 := by
    rcases hn with ⟨rfl, rfl, rfl⟩ | ⟨rfl, rfl, rfl⟩
    · have e2 : cv K (vR (BIG + 101 + i)) = .ref (K.2.2.1 (BIG + 101 + i)) := by show Value.ref _ = _; rw [Nat.add_assoc, adr_old]
      rw [e2]; exact h3
    · exact h2
  obtain ⟨cf, k, fi, f, cell, g1, g2, g3, g4, g5, g6⟩ := key
  rw [List.map_cons, e1]
  have hok : okV v := by rcases hn with ⟨-, -, rfl⟩ | ⟨-, -, rfl⟩; exact trivial; exact inR_0
  exact W.getf C.1 C.2.1 C.2.2.2.2.2.1 (C.2.2.2.2.2.2.2 _ hw) g1 g2 ((old_at hH g6).trans g3) g4 g5 rfl rfl hd (kk p l e s m args below meth c H locs cells slots mc ms K L C B hH hl (ok_c hok (ok_t hs)) hL)
theorem r_slen {i : Nat} (hd : decode (me_c y) pc = .ok (.arraylength, 1)) (hi : i < 12) (kk : AW y (pc + 1) ls (vI ((strCh i).length : Int) :: st) S σ rc rs Q) : AW y pc ls (vR (BIG + 101 + i) :: st) S σ rc rs Q := by
  intro p l e s m args below meth c H locs cells slots mc ms K L C B hH hl hs hL
  obtain ⟨h1, h2, h3, cell, g1, g2, g3, g4, g5, g6, g7⟩ := hH.1.2.1 i hi
  have e1 : cv K (vR (BIG + 101 + i)) = .ref (K.2.2.1 (BIG + 101 + i)) := by show Value.ref _ = _; rw [Nat.add_assoc, adr_old]
  rw [List.map_cons, e1]
  have hlen : (strCh i).length ≤ 6 := by unfold strCh; split <;> decide
  exact W.alen C.1 C.2.1 ((old_at hH g7).trans g1) g2 (n := Int32.ofInt ((strCh i).length : Int)) (by rw [g5]; exact Int32.ofInt_eq_ofNat.symm) rfl rfl hd (kk p l e s m args below meth c H locs cells slots mc ms K L C B hH hl (ok_c (v := vI _) ⟨by omega, by omega⟩ (ok_t hs)) hL)
theorem strCh_in (i j : Nat) : 0 ≤ (strCh i).getD j 0 ∧ (strCh i).getD j 0 < 128 := by
  unfold strCh
  split <;> (match j with
    | 0 => decide
    | 1 => decide
    | 2 => decide
    | 3 => decide
    | 4 => decide
    | 5 => decide
    | j + 6 => exact ⟨Int.le_refl 0, (by decide : (0 : Int) < 128)⟩)
theorem r_sbald {i : Nat} {j : Int} (hd : decode (me_c y) pc = .ok (.baload, 1)) (hi : i < 12) (h0 : 0 ≤ j) (h1 : j < (strCh i).length) (kk : AW y (pc + 1) ls (vI ((strCh i).getD j.toNat 0) :: st) S σ rc rs Q) : AW y pc ls (vI j :: vR (BIG + 101 + i) :: st) S σ rc rs Q := by
  intro p l e s m args below meth c H locs cells slots mc ms K L C B hH hl hs hL
  have hj : inR j := ok_h hs
  obtain ⟨h1', h2, h3, cell, g1, g2, g3, g4, g5, g6, g7⟩ := hH.1.2.1 i hi
  have e1 : cv K (vR (BIG + 101 + i)) = .ref (K.2.2.1 (BIG + 101 + i)) := by show Value.ref _ = _; rw [Nat.add_assoc, adr_old]
  rw [List.map_cons, List.map_cons, e1]
  have hb := strCh_in i j.toNat
  refine W.bald C.1 C.2.1 ((old_at hH g7).trans g1) g2 g3 (v := .int (Int32.ofInt ((strCh i).getD j.toNat 0))) ?_ (by rw [i_cl hj]; exact g6 _ (by omega)) rfl rfl hd (kk p l e s m args below meth c H locs cells slots mc ms K L C B hH hl (ok_c (v := vI _) ⟨by omega, by omega⟩ (ok_t (ok_t hs))) hL)
  rw [i_cl hj, i_0, i_lt hj inR_0]
  omega
theorem r_gets1 {ix : Nat} (hd : decode (me_c y) pc = .ok (.getstatic ix, 3)) (hw : Cond.fieldLink (me_n y).cls ix "java/lang/String" "COMPACT_STRINGS" "Z" ∈ GB) (kk : AW y (pc + 3) ls (vI 1 :: st) S σ rc rs Q) : AW y pc ls st S σ rc rs Q := by
  intro p l e s m args below meth c H locs cells slots mc ms K L C B hH hl hs hL
  obtain ⟨cf, kf, fi, f, a, cell, g1, g2, g3, g4, g5, g6, g7, g8⟩ := hH.1.2.2.2.2.2.2.2.1
  exact W.gets C.1 C.2.1 C.2.2.2.2.2.1 (C.2.2.2.2.2.2.2 _ hw) g1 g2 g3 g4 ((old_at hH g8).trans g5) (fun h => by rw [h] at g6; cases g6) g7 rfl hd (kk p l e s m args below meth c H locs cells slots mc ms K L C B hH hl (ok_c (v := vI 1) ⟨by decide, by decide⟩ hs) hL)
/-- a method with a reference of which nothing is known behind its other arguments -/
def PCx (K : CX) (as : List AV) (fv : Value) (S : ShT) (σ : StT) : Array Value → State → Prop := fun v U => v = (as.map (cv K) ++ [fv]).toArray ∧ HR K U S σ U.heap ∧ ∀ w ∈ as, okV w
theorem pcx_blind {K : CX} {as : List AV} {fv : Value} {S : ShT} {σ : StT} : FrameBlind (PCx K as fv S σ) := fun a U g mk h => ⟨h.1, ⟨TF.same (s := U) rfl h.2.1.1, h.2.1.2.moved (Vm.Alike.refl U.vm)⟩, h.2.2⟩
def WPx (y : ME) (as : List AV) (S : ShT) (σ : StT) (Q : Int → ShT → StT → Prop) : Prop :=
  ∀ (l : Launch) (K : CX) (fv : Value), fv.category = 1 → l.stackTraces = false → Met l (me_n y) (wsOf y) ({ frames := me_f y, cells := 0, slots := 0, locals := me_w y }) (PCx K as fv S σ) (QC K (me_r y) Q) 0 0 (fun q => K.2.1 ≤ q)
theorem x_entry {as : List AV} {ls0 : List (Nat × AV)} (hp : plainName (me_n y).cls = true) (hn : as.length + 1 ≤ me_l y) (ha : (as.all fun v => match v with | .inr (.inr _) => false | _ => true) = true) (hls : (List.range as.length).zip as = ls0) (k : AW y 0 ls0 [] S σ 0 0 Q) : WPx y as S σ Q := by
  intro l K fv hfv hst0
  refine Met.ofW (cc := me_c y) (maxL := me_l y) (ret := me_r y) hp rfl ?_
  intro p e s m args below meth c s₁ B hml hv
  obtain ⟨rfl, hH, hok⟩ := hv
  have hts := atoms_spec (ws := wsOf y) B.pre
  have hown : s.vm.findClass (me_n y).cls = some m.cls := findClass_of_methodNamed B.named
  have C : Cn y p s m (as.map (cv K) ++ [fv]).toArray meth c := ⟨B.exec, B.bytes, hml, B.returns, B.notSynchronized, hown, (name_of_methodNamed B.named B.method).1, fun w hw => hts w (List.mem_cons_of_mem _ hw)⟩
  have hcat : ∀ v ∈ as.map (cv K) ++ [fv], v.category = 1 := by
    intro v hv
    rcases List.mem_append.mp hv with hv | hv
    · obtain ⟨w, hw, rfl⟩ := List.mem_map.mp hv
      exact cv_cat1 w (List.all_eq_true.mp ha w hw)
    · rw [List.mem_singleton.mp hv]; exact hfv
  have hla : (as.map (cv K) ++ [fv]).length = as.length + 1 := by simp
  rw [entry_eq m (as.map (cv K) ++ [fv]) hcat (me_l y), hla]
  subst hls
  refine k p l e s m _ below meth c s.heap [] 0 0 0 0 K _ C ⟨fun _ h => (by cases h), hst0, by omega, by omega⟩ hH (fun q hq => ?_) (fun _ h => by cases h) ?_
  · exact hok q.2 (List.of_mem_zip (a := q.1) (b := q.2) hq).2
  · have hls : ∀ q ∈ ((List.range as.length).zip as).map (fun q => (q.1, cv K q.2)), ((as.map (cv K) ++ [fv]).map Slot.val ++ List.replicate (me_l y - (as.length + 1)) Slot.unset).toArray[q.1]? = some (.val q.2) := by
      intro q hq
      obtain ⟨r, hr, rfl⟩ := List.mem_map.mp hq
      obtain ⟨i, hi⟩ := List.getElem?_of_mem hr
      rw [List.getElem?_zip_eq_some] at hi
      obtain ⟨i1, i2⟩ := hi
      have hlt : i < as.length := (List.getElem?_eq_some_iff.mp i2).1
      rw [List.getElem?_range hlt] at i1
      cases i1
      simp only [List.getElem?_toArray]
      rw [List.map_append, List.append_assoc, List.getElem?_append_left (by simp; exact hlt)]
      simp [i2]
    refine ⟨by simp; omega, ⟨fun i v h hc => ?_, fun i h => ?_⟩, hls⟩
    · exfalso
      simp only [List.getElem?_toArray] at h
      rcases List.mem_append.mp (List.mem_of_getElem? h) with h1 | h1
      · obtain ⟨w, hw, e⟩ := List.mem_map.mp h1
        cases e
        have := hcat _ hw
        omega
      · have := List.eq_of_mem_replicate h1
        cases this
    · exfalso
      simp only [List.getElem?_toArray] at h
      rcases List.mem_append.mp (List.mem_of_getElem? h) with h1 | h1
      · obtain ⟨w, hw, e⟩ := List.mem_map.mp h1
        cases e
      · have := List.eq_of_mem_replicate h1
        cases this
/-- the formatter is taken from its class and handed over -/
theorem r_gets2 {z : ME} {as : List AV} {n ix ix2 : Nat} (hd : decode (me_c y) pc = .ok (.getstatic ix, 3)) (hw : Cond.fieldLink (me_n y).cls ix "jdk/internal/util/Preconditions" "SIOOBE_FORMATTER" "Ljava/util/function/BiFunction;" ∈ GB)
    (hd2 : decode (me_c y) (pc + 3) = .ok (.invokestatic ix2, 3)) (hm : MO z n) (hl : Cond.methodLink (me_n y).cls ix2 (me_n z) ∈ GB) (hi : Cond.static (me_n z) ∈ GB) (hn : as.length + 1 = n) (hR : me_f z + 1 ≤ me_f y ∧ 8 + (me_l z + 11) + me_w z ≤ me_w y) (hst : (st.map vcat).sum ≤ 8)
    {Qz : Int → ShT → StT → Prop} (hz : ∀ r S' σ', Qz r S' σ' → AW y (pc + 3 + 3) ls (prt (me_r z) r st) S' σ' rc rs Q) (k : WPx z as S σ Qz) : AW y pc ls (as.reverse ++ st) S σ rc rs Q := by
  intro p l e s m args below meth c H locs cells slots mc ms K L C B hH hl' hs hL
  have hts := C.2.2.2.2.2.2.2
  have hs1 : ∀ v ∈ as, okV v := fun v hv => hs v (List.mem_append_left _ (List.mem_reverse.mpr hv))
  have hs2 : ∀ v ∈ st, okV v := fun v hv => hs v (List.mem_append_right _ hv)
  have go : ∀ fv : Value, fv.category = 1 → va_Z "jdk/internal/util/Preconditions" "SIOOBE_FORMATTER" "Ljava/util/function/BiFunction;" fv (fun q => K.2.1 ≤ q) s K.2.2.2 → W p l e ({ frames := me_f y, cells := mc, slots := ms, locals := me_w y }) s m args below meth c H locs cells slots (MQ below (QC K (me_r y) Q) args s mc ms (fun q => K.2.1 ≤ q)) (F0 m pc L ((as.reverse ++ st).map (cv K))) := by
    intro fv hfv hZ
    obtain ⟨cf, kf, fi, f, a, cell, g1, g2, g3, g4, g5, g6, g7, g8⟩ := hZ
    have hstk : fv :: (as.reverse ++ st).map (cv K) = (as.map (cv K) ++ [fv]).reverse ++ st.map (cv K) := by simp
    refine W.gets C.1 C.2.1 C.2.2.2.2.2.1 (C.2.2.2.2.2.2.2 _ hw) g1 g2 g3 g4 ((old_at hH g8).trans g5) (fun h => by rw [h] at g6; cases g6) g7 rfl hd ?_
    rw [hstk]
    have B' : (∀ q ∈ locs, K.2.1 ≤ q.base) ∧ l.stackTraces = false ∧ cells + (0 + rc) ≤ mc ∧ slots + (0 + rs) ≤ ms := ⟨B.1, B.2.1, by have := B.2.2.1; omega, by have := B.2.2.2; omega⟩
    refine r_back (z := z) (as := as) (rc' := 0) (rs' := 0) (stk := []) C B' hH hl' hs2 hL hz (va_runS (bytes := me_c z) (maxL := me_l z) (ret := me_r z) (As := as.map (cv K) ++ [fv]) (n := n) (ws := wsOf z) ⟨C.1, C.2.1, C.2.2.1, C.2.2.2.2.2.1, hts⟩ (k l K fv hfv B.2.1) ?_ ?_ rfl (by rw [List.length_append, List.length_map]; exact hn) hL.1 rfl (lv_room (by rw [vcat_sum]; exact hst)) hd2 ⟨by show cells + 0 ≤ mc; omega, by show slots + 0 ≤ ms; omega⟩)
    · exact ⟨callB_of n hts (gb_good (mo_ws hm)) rfl rfl rfl (hts _ hm.2.1) (hts _ hl) ⟨hm.2.2.1, hm.2.2.2.1, hm.2.2.2.2⟩ hR, hts _ hi⟩
    · exact ⟨pcx_blind, fun U hU hW => ⟨rfl, by rw [hU]; exact hH.warm hW, hs1⟩⟩
  rcases hH.1.2.2.2.2.2.2.2.2 with h | ⟨t, h⟩
  · exact go .null rfl h
  · exact go (.ref t) rfl h
theorem r_i2c {z : Int} (hd : decode (me_c y) pc = .ok (.i2c, 1)) (h0 : 0 ≤ z) (h1 : z < 128) (kk : AW y (pc + 1) ls (vI z :: st) S σ rc rs Q) : AW y pc ls (vI z :: st) S σ rc rs Q := by
  intro p l e s m args below meth c H locs cells slots mc ms K L C B hH hl hs hL
  have he : ((Int32.ofInt z).toUInt32 % 65536).toInt32 = Int32.ofInt z := by
    obtain ⟨n, rfl⟩ := Int.eq_ofNat_of_zero_le h0
    have key : ∀ n : Nat, n < 128 → ((Int32.ofInt (n : Int)).toUInt32 % 65536).toInt32 = Int32.ofInt (n : Int) := by decide +kernel
    exact key n (by omega)
  exact lv_i2c C.1 C.2.1 hd he (kk p l e s m args below meth c H locs cells slots mc ms K L C B hH hl hs hL)
theorem s_nret {z : Int} {ty : FieldType} (hd : decode (me_c y) pc = .ok (.ireturn, 1)) (hr : me_r y = some ty) (hn : narrow ty (.int (Int32.ofInt z)) = .int (Int32.ofInt z)) (hq : Qs z σ) : AWs y pc ls [vI z] S σ Qs := by
  intro p l e s m args below meth c H locs cells slots mc ms K L C B hH hl hs hL
  have hz : inR z := ok_h hs
  refine W.widen (k := mc) (n := ms) (by omega) (by omega) ?_
  exact W.zret C.1 C.2.1 (C.2.2.2.1.trans hr) hn (fun t ht hW => ⟨z, S, σ, ⟨rfl, hq⟩, by rw [hr]; rfl, hz, by rw [ht]; exact hH.warm hW⟩) B.1 hd C.2.2.2.2.1
/-- a call upon a string -/
theorem s_callStr {z : ME} {w n ix : Nat} (as : List AV) (hd : decode (me_c y) pc = .ok (.invokevirtual ix, 3)) (hm : MO z n) (hl : LK (me_n y).cls ix (me_n z)) (hi : Cond.instanceMethod (me_n z) ∈ GB ∧ Cond.selects "java/lang/String" (me_n z) (me_n z) ∈ GB ∧ (me_n z).cls = "java/lang/String") (hn : as.length = n) (hR : fits2 z y = true) (hw : w < 12) (hst : (st.map vcat).sum ≤ 8)
    (k : WPs z (vR (BIG + 1 + w) :: as) S σ (fun r σ' => AWs y (pc + 3) ls (prt (me_r z) r st) S σ' Qs)) : AWs y pc ls (as.reverse ++ vR (BIG + 1 + w) :: st) S σ Qs := by
  intro p l e s m args below meth c H locs cells slots mc ms K L C B hH hl' hs hL
  have hts := C.2.2.2.2.2.2.2
  obtain ⟨⟨cell, q1, q2, q3, q4⟩, -⟩ := hH.1.2.1 w hw
  have hs1 : ∀ v ∈ as, okV v := fun v hv => hs v (List.mem_append_left _ (List.mem_reverse.mpr hv))
  have hs2 : ∀ v ∈ st, okV v := fun v hv => hs v (List.mem_append_right _ (List.mem_cons_of_mem _ hv))
  have e1 : adr K (BIG + 1 + w) = K.2.2.1 (BIG + 1 + w) := by rw [Nat.add_assoc, adr_old]
  have hstk : (as.reverse ++ vR (BIG + 1 + w) :: st).map (cv K) = (as.map (cv K)).reverse ++ .ref (adr K (BIG + 1 + w)) :: st.map (cv K) := by simp [cv]
  rw [hstk]
  have hz : ∀ (r : Int) (S' : ShT) (σ' : StT), (S' = S ∧ AWs y (pc + 3) ls (prt (me_r z) r st) S σ' Qs) → AW y (pc + 3) ls (prt (me_r z) r st) S' σ' 0 0 (fun r S'' σ' => S'' = S ∧ Qs r σ') := fun r S' σ' h => by rw [h.1]; exact h.2
  refine r_back (z := z) (rc := 0) (rs := 0) (rc' := 0) (rs' := 0) (as := as) (stk := []) C B hH hl' hs2 hL hz (va_runV (bytes := me_c z) (maxL := me_l z) (ret := me_r z) (As := as.map (cv K)) (C := "java/lang/String") (n := n) (ws := wsOf z) ⟨C.1, C.2.1, C.2.2.1, C.2.2.2.2.2.1, hts⟩ (k l K B.2.1) ?_ ?_ rfl (by rw [List.length_map]; exact hn) hL.1 rfl (lv_room (by rw [vcat_sum]; exact hst)) hd ⟨by show cells + 0 ≤ mc; omega, by show slots + 0 ≤ ms; omega⟩)
  · exact ⟨callB_of n hts (gb_good (mo_ws hm)) rfl rfl rfl (hts _ hm.2.1) (hts _ hl) ⟨hm.2.2.1, hm.2.2.2.1, hm.2.2.2.2⟩ (fits2_ok hR), hts _ hi.1, hts _ hi.2.1⟩
  · exact ⟨pc_blind, ⟨cell, by rw [e1]; exact (old_at hH q4).trans q1, q2, q3⟩, fun U hU hW => ⟨rfl, by rw [hU]; exact hH.warm hW, ok_c (v := vR _) trivial hs1⟩⟩
end STR
