/-! methods that make no cells: the shape stays -/
def WPs (y : ME) (as : List AV) (S : ShT) (σ : StT) (Q : Int → StT → Prop) : Prop := WPm y as S σ 0 0 (fun r S' σ' => S' = S ∧ Q r σ')
abbrev AWs (y : ME) (pc : Nat) (ls : List (Nat × AV)) (st : List AV) (S : ShT) (σ : StT) (Q : Int → StT → Prop) : Prop := AW y pc ls st S σ 0 0 (fun r S' σ' => S' = S ∧ Q r σ')
section PRIMS
variable {y : ME} {pc : Nat} {ls : List (Nat × AV)} {st : List AV} {S : ShT} {σ : StT} {rc rs : Nat} {Q : Int → ShT → StT → Prop} {Qs : Int → StT → Prop}
theorem s_entry {as : List AV} {ls0 : List (Nat × AV)} (hp : plainName (me_n y).cls = true) (hn : as.length ≤ me_l y) (ha : (as.all fun v => match v with | .inr (.inr _) => false | _ => true) = true) (hls : (List.range as.length).zip as = ls0) (k : AWs y 0 ls0 [] S σ Qs) : WPs y as S σ Qs := r_entry hp hn ha hls k
theorem s_iret {z : Int} (hd : decode (me_c y) pc = .ok (.ireturn, 1)) (hr : me_r y = some .int) (hq : Qs z σ) : AWs y pc ls [vI z] S σ Qs := r_iret hd hr ⟨rfl, hq⟩
theorem s_zret {z : Int} (hd : decode (me_c y) pc = .ok (.ireturn, 1)) (hr : me_r y = some .boolean) (h01 : z = 0 ∨ z = 1) (hq : Qs z σ) : AWs y pc ls [vI z] S σ Qs := r_zret hd hr h01 ⟨rfl, hq⟩
theorem s_vret (hd : decode (me_c y) pc = .ok (.return_, 1)) (hr : me_r y = none) (hq : Qs 0 σ) : AWs y pc ls [] S σ Qs := r_vret hd hr ⟨rfl, hq⟩
def fits2 (z y : ME) : Bool := decide (me_f z + 1 ≤ me_f y) && decide (8 + (me_l z + 11) + me_w z ≤ me_w y)
theorem fits2_ok {z y : ME} (h : fits2 z y = true) : me_f z + 1 ≤ me_f y ∧ 8 + (me_l z + 11) + me_w z ≤ me_w y := by
  unfold fits2 at h
  rw [Bool.and_eq_true] at h
  exact ⟨of_decide_eq_true h.1, of_decide_eq_true h.2⟩
theorem s_callV {z : ME} {o ci n ix : Nat} (as : List AV) (hd : decode (me_c y) pc = .ok (.invokevirtual ix, 3)) (hm : MV z n ci) (hl : LK (me_n y).cls ix (me_n z)) (hn : as.length = n) (hR : fits2 z y = true) (ho : (S.2.1 o).1 = 10 + ci) (hst : (st.map vcat).sum ≤ 8)
    (k : WPs z (vR o :: as) S σ (fun r σ' => AWs y (pc + 3) ls (prt (me_r z) r st) S σ' Qs)) : AWs y pc ls (as.reverse ++ vR o :: st) S σ Qs := by
  obtain ⟨h1, h2, h3, q, h4, h5⟩ := hm
  have hz : ∀ (r : Int) (S' : ShT) (σ' : StT), (S' = S ∧ AWs y (pc + 3) ls (prt (me_r z) r st) S σ' Qs) → AW y (pc + 3) ls (prt (me_r z) r st) S' σ' 0 0 (fun r S'' σ' => S'' = S ∧ Qs r σ') := fun r S' σ' h => by rw [h.1]; exact h.2
  exact r_callV (rc' := 0) (rs' := 0) (rc := 0) (rs := 0) hd h1 hl h2 h3 h4 h5 hn (fits2_ok hR) ho hst hz k
theorem s_callS {z : ME} {n ix : Nat} (as : List AV) (hd : decode (me_c y) pc = .ok (.invokestatic ix, 3)) (hm : MS z n) (hl : LK (me_n y).cls ix (me_n z)) (hn : as.length = n) (hR : fits2 z y = true) (hst : (st.map vcat).sum ≤ 8)
    (k : WPs z as S σ (fun r σ' => AWs y (pc + 3) ls (prt (me_r z) r st) S σ' Qs)) : AWs y pc ls (as.reverse ++ st) S σ Qs := by
  have hz : ∀ (r : Int) (S' : ShT) (σ' : StT), (S' = S ∧ AWs y (pc + 3) ls (prt (me_r z) r st) S σ' Qs) → AW y (pc + 3) ls (prt (me_r z) r st) S' σ' 0 0 (fun r S'' σ' => S'' = S ∧ Qs r σ') := fun r S' σ' h => by rw [h.1]; exact h.2
  exact r_callS (rc' := 0) (rs' := 0) (rc := 0) (rs := 0) hd hm.1 hl hm.2 hn (fits2_ok hR) hst hz k
theorem r_getRv {o ci k ix a : Nat} (hd : decode (me_c y) pc = .ok (.getfield ix, 3)) (hf : FL (me_n y).cls ix ci k) (hty : isRf (clTy ci k) = true) (ho : S.2.1 o = (10 + ci, 0)) (hv : S.2.2 o k = a) (hne : a ≠ 0) (kk : AW y (pc + 3) ls (vR a :: st) S σ rc rs Q) : AW y pc ls (vR o :: st) S σ rc rs Q := by
  subst hv
  exact r_getR hd hf hty (by rw [ho]) hne kk
theorem w_math1 : Cond.static Lib.Math.max.name ∈ GB ∧ Cond.static Lib.Math.min.name ∈ GB ∧ Cond.static Lib.Math.abs.name ∈ GB ∧ Cond.initialized "java/lang/Math" ∈ GB := by
  refine ⟨gb_in (by decide +kernel) (by decide +kernel), gb_in (by decide +kernel) (by decide +kernel), gb_in (by decide +kernel) (by decide +kernel), gb_in (by decide +kernel) (by decide +kernel)⟩
theorem w_math2 : Cond.code Lib.Math.max.name Lib.Math.max.code 2 (some .int) ∈ GB ∧ Cond.code Lib.Math.min.name Lib.Math.min.code 2 (some .int) ∈ GB ∧ Cond.code Lib.Math.abs.name Lib.Math.abs.code 1 (some .int) ∈ GB := by
  refine ⟨gb_in (by decide +kernel) (by decide +kernel), gb_in (by decide +kernel) (by decide +kernel), gb_in (by decide +kernel) (by decide +kernel)⟩
theorem r_mmax {a b : Int} {ix : Nat} (hd : decode (me_c y) pc = .ok (.invokestatic ix, 3)) (hl : LK (me_n y).cls ix Lib.Math.max.name) (hf : 1 ≤ me_f y) (hw : (st.map vcat).sum + 13 ≤ me_w y) (k : AW y (pc + 3) ls (vI (max a b) :: st) S σ rc rs Q) : AW y pc ls (vI b :: vI a :: st) S σ rc rs Q := by
  intro p l e s m args below meth c H locs cells slots mc ms K L C B hH hl' hs hL
  have hts := C.2.2.2.2.2.2.2
  have hb : inR b := ok_h hs
  have ha : inR a := ok_h (ok_t hs)
  refine va_mmax C.1 C.2.1 (C.2.2.1.trans hL.1.symm) C.2.2.2.2.2.1 (hts _ hl) (hts _ w_math1.1) (hts _ w_math1.2.2.2) (hts _ w_math2.1) hf (by rw [vcat_sum]; exact hw) (by show cells ≤ mc; omega) (by show slots ≤ ms; omega) hd ?_
  have e1 : (if Int32.ofInt a < Int32.ofInt b then Int32.ofInt b else Int32.ofInt a) = Int32.ofInt (max a b) := by
    by_cases h : a < b
    · rw [if_pos ((i_lt ha hb).mpr h)]; congr 1; omega
    · rw [if_neg (fun q => h ((i_lt ha hb).mp q))]; congr 1; omega
  rw [e1]
  exact k p l e s m args below meth c H locs cells slots mc ms K L C B hH hl' (ok_c (v := vI _) (by show inR _; unfold inR at *; omega) (ok_t (ok_t hs))) hL
theorem r_mmin {a b : Int} {ix : Nat} (hd : decode (me_c y) pc = .ok (.invokestatic ix, 3)) (hl : LK (me_n y).cls ix Lib.Math.min.name) (hf : 1 ≤ me_f y) (hw : (st.map vcat).sum + 13 ≤ me_w y) (k : AW y (pc + 3) ls (vI (min a b) :: st) S σ rc rs Q) : AW y pc ls (vI b :: vI a :: st) S σ rc rs Q := by
  intro p l e s m args below meth c H locs cells slots mc ms K L C B hH hl' hs hL
  have hts := C.2.2.2.2.2.2.2
  have hb : inR b := ok_h hs
  have ha : inR a := ok_h (ok_t hs)
  refine va_mmin C.1 C.2.1 (C.2.2.1.trans hL.1.symm) C.2.2.2.2.2.1 (hts _ hl) (hts _ w_math1.2.1) (hts _ w_math1.2.2.2) (hts _ w_math2.2.1) hf (by rw [vcat_sum]; exact hw) (by show cells ≤ mc; omega) (by show slots ≤ ms; omega) hd ?_
  have e1 : (if Int32.ofInt b < Int32.ofInt a then Int32.ofInt b else Int32.ofInt a) = Int32.ofInt (min a b) := by
    by_cases h : b < a
    · rw [if_pos ((i_lt hb ha).mpr h)]; congr 1; omega
    · rw [if_neg (fun q => h ((i_lt hb ha).mp q))]; congr 1; omega
  rw [e1]
  exact k p l e s m args below meth c H locs cells slots mc ms K L C B hH hl' (ok_c (v := vI _) (by show inR _; unfold inR at *; omega) (ok_t (ok_t hs))) hL
/-- how far from 0 -/
def iab (a : Int) : Int := if 0 ≤ a then a else -a
theorem r_mabs {a : Int} {ix : Nat} (hd : decode (me_c y) pc = .ok (.invokestatic ix, 3)) (hl : LK (me_n y).cls ix Lib.Math.abs.name) (hf : 1 ≤ me_f y) (hw : (st.map vcat).sum + 13 ≤ me_w y) (hr : inR (-a)) (k : AW y (pc + 3) ls (vI (iab a) :: st) S σ rc rs Q) : AW y pc ls (vI a :: st) S σ rc rs Q := by
  intro p l e s m args below meth c H locs cells slots mc ms K L C B hH hl' hs hL
  have hts := C.2.2.2.2.2.2.2
  have ha : inR a := ok_h hs
  refine va_mabs C.1 C.2.1 (C.2.2.1.trans hL.1.symm) C.2.2.2.2.2.1 (hts _ hl) (hts _ w_math1.2.2.1) (hts _ w_math1.2.2.2) (hts _ w_math2.2.2) hf (by rw [vcat_sum]; exact hw) (by show cells ≤ mc; omega) (by show slots ≤ ms; omega) hd ?_
  have e1 : (if (0 : Int32) ≤ Int32.ofInt a then Int32.ofInt a else 0 - Int32.ofInt a) = Int32.ofInt (iab a) := by
    unfold iab
    rw [i_0]
    by_cases h : 0 ≤ a
    · rw [if_pos ((i_le inR_0 ha).mpr h), if_pos h]
    · rw [if_neg (fun q => h ((i_le inR_0 ha).mp q)), if_neg h, ← Int32.ofInt_sub]
      congr 1; omega
  rw [e1]
  exact k p l e s m args below meth c H locs cells slots mc ms K L C B hH hl' (ok_c (v := vI _) (by show inR _; unfold iab inR at *; split <;> omega) (ok_t hs)) hL
end PRIMS
