/-! constructors -/
set_option maxRecDepth 100000 in
theorem w_obj : Cond.instanceMethod Lib.objectInit ∈ GB ∧ Cond.code Lib.objectInit ⟨#[0xb1]⟩ 1 none ∈ GB := ⟨gb_in (by decide +kernel) (by decide +kernel), gb_in (by decide +kernel) (by decide +kernel)⟩
section CTOR
variable {y : ME} {pc : Nat} {ls : List (Nat × AV)} {st : List AV} {S : ShT} {σ : StT} {rc rs : Nat} {Q : Int → ShT → StT → Prop}
theorem r_objI {a ix : Nat} (hd : decode (me_c y) pc = .ok (.invokespecial ix, 3)) (hl : Cond.methodLink (me_n y).cls ix Lib.objectInit ∈ GB) (hf : 1 ≤ me_f y) (hw : (st.map vcat).sum + 12 ≤ me_w y) (k : AW y (pc + 3) ls st S σ rc rs Q) : AW y pc ls (vR a :: st) S σ rc rs Q := by
  intro p l e s m args below meth c H locs cells slots mc ms K L C B hH hl' hs hL
  have hts := C.2.2.2.2.2.2.2
  refine W.objInit C.1 C.2.1 C.2.2.2.2.2.1 (hts _ hl) (hts _ w_obj.1) (hts _ w_obj.2) rfl (hL.1.trans C.2.2.1.symm) (a := adr K a) (rest := st.map (cv K)) rfl hd hf ?_ (k p l e s m args below meth c H locs cells slots mc ms K L C B hH hl' (ok_t hs) hL)
  show 2 * 0 + _ + 12 ≤ me_w y
  rw [vcat_sum]; omega
theorem r_callI {z : ME} {as : List AV} {o n ix rc' rs' : Nat} (hd : decode (me_c y) pc = .ok (.invokespecial ix, 3)) (hm : MO z n) (hl : Cond.methodLink (me_n y).cls ix (me_n z) ∈ GB) (hi : Cond.instanceMethod (me_n z) ∈ GB) (hn1 : (me_n z).name = "<init>") (hrz : me_r z = none) (hn : as.length = n) (hR : fits2 z y = true) (hst : (st.map vcat).sum ≤ 8)
    (k : WPm z (vR o :: as) S σ rc' rs' (fun _ S' σ' => AW y (pc + 3) ls st S' σ' rc rs Q)) : AW y pc ls (as.reverse ++ vR o :: st) S σ (rc' + rc) (rs' + rs) Q := by
  intro p l e s m args below meth c H locs cells slots mc ms K L C B hH hl' hs hL
  have hts := C.2.2.2.2.2.2.2
  have hs1 : ∀ v ∈ as, okV v := fun v hv => hs v (List.mem_append_left _ (List.mem_reverse.mpr hv))
  have hs2 : ∀ v ∈ st, okV v := fun v hv => hs v (List.mem_append_right _ (List.mem_cons_of_mem _ hv))
  have hstk : (as.reverse ++ vR o :: st).map (cv K) = (as.map (cv K)).reverse ++ .ref (adr K o) :: st.map (cv K) := by simp [cv]
  rw [hstk]
  have hz : ∀ (r : Int) (S' : ShT) (σ' : StT), AW y (pc + 3) ls st S' σ' rc rs Q → AW y (pc + 3) ls (prt (me_r z) r st) S' σ' rc rs Q := fun r S' σ' h => by rw [hrz]; exact h
  have hM := k l K B.2.1
  have hM2 : Met l (me_n z) (.code (me_n z) (me_c z) (me_l z) none :: GB) ({ frames := me_f z, cells := rc', slots := rs', locals := me_w z }) (PC K (vR o :: as) S σ) (QC K (me_r z) (fun _ S' σ' => AW y (pc + 3) ls st S' σ' rc rs Q)) rc' rs' (fun q => K.2.1 ≤ q) := by
    unfold wsOf at hM; rw [hrz] at hM ⊢; exact hM
  have hcd : Cond.code (me_n z) (me_c z) (me_l z) none ∈ GB := by rw [← hrz]; exact hm.1
  refine r_back (z := z) (as := as) (stk := []) C B hH hl' hs2 hL hz (va_runI (bytes := me_c z) (maxL := me_l z) (As := as.map (cv K)) (n := n) ⟨C.1, C.2.1, C.2.2.1, C.2.2.2.2.2.1, hts⟩ hM2 ?_ ?_ rfl (by rw [List.length_map]; exact hn) hL.1 rfl (lv_room (by rw [vcat_sum]; exact hst)) hd ⟨by show cells + rc' ≤ mc; omega, by show slots + rs' ≤ ms; omega⟩)
  · exact ⟨callB_of n hts (gb_good (fun w hw => (List.mem_cons.mp hw).elim (fun e => e ▸ hcd) id)) rfl rfl rfl (hts _ hm.2.1) (hts _ hl) ⟨hm.2.2.1, hm.2.2.2.1, hm.2.2.2.2⟩ (fits2_ok hR), hn1, hts _ hi⟩
  · exact ⟨pc_blind, fun U hU hW => ⟨rfl, by rw [hU]; exact hH.warm hW, ok_c (v := vR o) trivial hs1⟩⟩
theorem r_callIN {z : ME} {as : List AV} {o n ix rc' rs' j : Nat} {host : String} (hd : decode (me_c y) pc = .ok (.invokespecial ix, 3)) (hm : MO z n) (hl : nestTab[j]? = some ((me_n y).cls, ix, me_n z, host)) (hi : Cond.instanceMethod (me_n z) ∈ GB) (hn1 : (me_n z).name = "<init>") (hrz : me_r z = none) (hn : as.length = n) (hR : fits2 z y = true) (hst : (st.map vcat).sum ≤ 8)
    (k : WPm z (vR o :: as) S σ rc' rs' (fun _ S' σ' => AW y (pc + 3) ls st S' σ' rc rs Q)) : AW y pc ls (as.reverse ++ vR o :: st) S σ (rc' + rc) (rs' + rs) Q := by
  intro p l e s m args below meth c H locs cells slots mc ms K L C B hH hl' hs hL
  have hts := C.2.2.2.2.2.2.2
  have hs1 : ∀ v ∈ as, okV v := fun v hv => hs v (List.mem_append_left _ (List.mem_reverse.mpr hv))
  have hs2 : ∀ v ∈ st, okV v := fun v hv => hs v (List.mem_append_right _ (List.mem_cons_of_mem _ hv))
  have hstk : (as.reverse ++ vR o :: st).map (cv K) = (as.map (cv K)).reverse ++ .ref (adr K o) :: st.map (cv K) := by simp [cv]
  rw [hstk]
  have hz : ∀ (r : Int) (S' : ShT) (σ' : StT), AW y (pc + 3) ls st S' σ' rc rs Q → AW y (pc + 3) ls (prt (me_r z) r st) S' σ' rc rs Q := fun r S' σ' h => by rw [hrz]; exact h
  have hM := k l K B.2.1
  have hM2 : Met l (me_n z) (.code (me_n z) (me_c z) (me_l z) none :: GB) ({ frames := me_f z, cells := rc', slots := rs', locals := me_w z }) (PC K (vR o :: as) S σ) (QC K (me_r z) (fun _ S' σ' => AW y (pc + 3) ls st S' σ' rc rs Q)) rc' rs' (fun q => K.2.1 ≤ q) := by
    unfold wsOf at hM; rw [hrz] at hM ⊢; exact hM
  have hcd : Cond.code (me_n z) (me_c z) (me_l z) none ∈ GB := by rw [← hrz]; exact hm.1
  refine r_back (z := z) (as := as) (stk := []) C B hH hl' hs2 hL hz (va_runIN (host := host) (bytes := me_c z) (maxL := me_l z) (As := as.map (cv K)) (n := n) ⟨C.1, C.2.1, C.2.2.1, C.2.2.2.2.2.1, hts⟩ hM2 ?_ ?_ rfl (by rw [List.length_map]; exact hn) hL.1 rfl (lv_room (by rw [vcat_sum]; exact hst)) hd ⟨by show cells + rc' ≤ mc; omega, by show slots + rs' ≤ ms; omega⟩)
  · exact ⟨va_cnB n hts (gb_good (fun w hw => (List.mem_cons.mp hw).elim (fun e => e ▸ hcd) id)) rfl rfl rfl (hH.1.2.2.2.1 j _ hl) (hts _ hm.2.1) ⟨hm.2.2.1, hm.2.2.2.1, hm.2.2.2.2⟩ (fits2_ok hR), hn1, hts _ hi⟩
  · exact ⟨pc_blind, fun U hU hW => ⟨rfl, by rw [hU]; exact hH.warm hW, ok_c (v := vR o) trivial hs1⟩⟩
theorem r_i2l {z : Int} (hd : decode (me_c y) pc = .ok (.i2l, 1)) (k : AW y (pc + 1) ls (vL z :: st) S σ rc rs Q) : AW y pc ls (vI z :: st) S σ rc rs Q := by
  intro p l e s m args below meth c H locs cells slots mc ms K L C B hH hl' hs hL
  have hz : inR z := ok_h hs
  refine lv_i2l C.1 C.2.1 hd (v := Int64.ofInt z) ?_ (k p l e s m args below meth c H locs cells slots mc ms K L C B hH hl' (ok_c (v := vL z) hz (ok_t hs)) hL)
  rw [← Int64.ofInt_int32ToInt, i_toInt hz]
theorem r_lcmpE {a b : Int} (hd : decode (me_c y) pc = .ok (.lcmp, 1)) (h : a = b) (k : AW y (pc + 1) ls (vI 0 :: st) S σ rc rs Q) : AW y pc ls (vL b :: vL a :: st) S σ rc rs Q := by
  intro p l e s m args below meth c H locs cells slots mc ms K L C B hH hl' hs hL
  subst h
  refine W.lcmp C.1 C.2.1 hd ?_
  have e1 : lg_cmp (Int64.ofInt a) (Int64.ofInt a) = Int32.ofInt 0 := by simp [lg_cmp]
  rw [e1]
  exact k p l e s m args below meth c H locs cells slots mc ms K L C B hH hl' (ok_c (v := vI 0) inR_0 (ok_t (ok_t hs))) hL
end CTOR
