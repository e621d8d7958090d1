/-! rows over fields, arrays, new cells -/
section HEAP
variable {y : ME} {pc : Nat} {ls : List (Nat × AV)} {st : List AV} {S : ShT} {σ : StT} {rc rs : Nat} {Q : Int → ShT → StT → Prop}
theorem loc_app {locs : List Loc} {a k z : Nat} (h : ∀ q ∈ locs, z ≤ q.base) (ha : z ≤ a) : ∀ q ∈ locs ++ [⟨a, k⟩], z ≤ q.base := by
  intro q hq
  rcases List.mem_append.mp hq with h1 | h1
  · exact h q h1
  · rw [List.mem_singleton.mp h1]; exact ha
theorem r_getI {o ci k ix : Nat} (hd : decode (me_c y) pc = .ok (.getfield ix, 3)) (hf : FL (me_n y).cls ix ci k) (hty : isRf (clTy ci k) = false) (ho : (S.2.1 o).1 = 10 + ci) (kk : AW y (pc + 3) ls (vI (σ o k) :: st) S σ rc rs Q) : AW y pc ls (vR o :: st) S σ rc rs Q := by
  intro p l e s m args below meth c H locs cells slots mc ms K L C B hH hl hs hL
  obtain ⟨q, hq, hk, hw⟩ := hf
  obtain ⟨cell, q1, q2, q3, q4⟩ := (hH.2.2.2.2.2.2.2.2 o).2.2.2.2.2.2 ci q hq ho
  obtain ⟨hS, hfc, kC, hkC, hkind⟩ := hH.1.1.1 ci _ hq
  obtain ⟨cf, kf, fi, f, hi, hsl⟩ := hS k hk
  refine W.getf C.1 C.2.1 C.2.2.2.2.2.1 (C.2.2.2.2.2.2.2 _ hw) hi (u_facts hfc hkC (u_lays C.2.2.2.2.2.2.2 (cl_ok hq).2.2 hk) hi).1 q1 (by rw [q3]; exact fun h => by cases h) (v := .int (Int32.ofInt (σ o k))) ?_ rfl rfl hd (kk p l e s m args below meth c H locs cells slots mc ms K L C B hH hl (ok_c (hH.st o k) (ok_t hs)) hL)
  rw [hsl, q4 k hk]
  simp [fv, hty]
theorem r_getR {o ci k ix : Nat} (hd : decode (me_c y) pc = .ok (.getfield ix, 3)) (hf : FL (me_n y).cls ix ci k) (hty : isRf (clTy ci k) = true) (ho : (S.2.1 o).1 = 10 + ci) (hne : S.2.2 o k ≠ 0) (kk : AW y (pc + 3) ls (vR (S.2.2 o k) :: st) S σ rc rs Q) : AW y pc ls (vR o :: st) S σ rc rs Q := by
  intro p l e s m args below meth c H locs cells slots mc ms K L C B hH hl hs hL
  obtain ⟨q, hq, hk, hw⟩ := hf
  obtain ⟨cell, q1, q2, q3, q4⟩ := (hH.2.2.2.2.2.2.2.2 o).2.2.2.2.2.2 ci q hq ho
  obtain ⟨hS, hfc, kC, hkC, hkind⟩ := hH.1.1.1 ci _ hq
  obtain ⟨cf, kf, fi, f, hi, hsl⟩ := hS k hk
  refine W.getf C.1 C.2.1 C.2.2.2.2.2.1 (C.2.2.2.2.2.2.2 _ hw) hi (u_facts hfc hkC (u_lays C.2.2.2.2.2.2.2 (cl_ok hq).2.2 hk) hi).1 q1 (by rw [q3]; exact fun h => by cases h) (v := .ref (adr K (S.2.2 o k))) ?_ rfl rfl hd (kk p l e s m args below meth c H locs cells slots mc ms K L C B hH hl (ok_c (v := vR _) trivial (ok_t hs)) hL)
  rw [hsl, q4 k hk]
  simp [fv, hty, fcv, hne]
theorem cr_obj {K : CX} {U : State} {S : ShT} {σ : StT} {H : Heap} {o ci : Nat} {q : vw_C} (hq : vwCl[ci]? = some q) (ho : (S.2.1 o).1 = 10 + ci) (h : t_OB (adr K o) (K.1.1 ci) q.2.2 (K.1.2 ci) H (fv K S σ o ci)) : CR K U S σ H o := by
  refine ⟨fun w => ?_, fun w => ?_, fun w => ?_, fun w => ?_, fun w => ?_, fun w => ?_, fun ci' q' hq' w => ?_⟩
  iterate 6 exfalso; omega
  have e : ci' = ci := by omega
  subst e
  cases hq.symm.trans hq'
  exact h
theorem r_putI {o ci k ix : Nat} {z : Int} (hd : decode (me_c y) pc = .ok (.putfield ix, 3)) (hf : FL (me_n y).cls ix ci k) (hfin : ∀ q : vw_C, vwCl[ci]? = some q → (q.2.1 k).2.2.2 = false) (hty : clTy ci k = .int ∨ (clTy ci k = .boolean ∧ (z = 0 ∨ z = 1))) (ho : (S.2.1 o).1 = 10 + ci) (kk : AW y (pc + 3) ls st S (up2 σ o k z) rc rs Q) : AW y pc ls (vI z :: vR o :: st) S σ rc rs Q := by
  intro p l e s m args below meth c H locs cells slots mc ms K L C B hH hl hs hL
  have hz : inR z := ok_h hs
  obtain ⟨q, hq, hk, hw⟩ := hf
  obtain ⟨cell, q1, q2, q3, q4⟩ := (hH.2.2.2.2.2.2.2.2 o).2.2.2.2.2.2 ci q hq ho
  obtain ⟨hS, hfc, kC, hkC, hkind⟩ := hH.1.1.1 ci _ hq
  obtain ⟨cf, kf, fi, f, hi, hsl⟩ := hS k hk
  have hts := C.2.2.2.2.2.2.2
  have hin := (cl_ok hq).2.2
  have hap := va_apart (own := "") hts hin (clTy ci) (cl_ok hq).1 (cl_ok hq).2.1 hH.1.1 hq
  have hlay := hts _ (hin _ (u_in_lay hk))
  unfold u_lay at hlay
  rw [if_neg (by rw [hfin q hq]; decide)] at hlay
  have hst := (u_facts hfc hkC (u_lays hts hin hk) hi).1
  have hr : isRf (clTy ci k) = false := by rcases hty with h | ⟨h, -⟩ <;> rw [h] <;> rfl
  have h6 := u_store (v := .int (Int32.ofInt z)) hfc hkC hkind hlay hi ((cl_ok hq).1 k hk) (by rcases hty with h | ⟨h, h' | h'⟩ <;> rw [h] <;> first | rfl | (rw [h']; rfl)) (by rcases hty with h | ⟨h, h' | h'⟩ <;> rw [h] <;> first | rfl | (rw [h']; rfl))
  refine W.putK C.1 C.2.1 (f := f) ⟨C.2.2.2.2.2.1, hts _ hw, ⟨_, _, _, hi⟩, hst⟩ (by rw [q2]; exact h6) q1 q3 (by rw [hsl]; exact k2_hasslot (q4 k hk)) rfl rfl hd fun H' e1 e2 e3 => ?_
  have hnew := hH.new (a := o) (by omega) (by omega)
  refine kk p l e s m args below meth c H' (locs ++ [⟨adr K o, f.slot⟩]) cells slots mc ms K L C ⟨loc_app B.1 hnew.2.2.2, B.2⟩ ?_ hl (ok_t (ok_t hs)) hL
  refine HR.set (S := S) (rf := S.2.2) hH (by omega) (by omega) e2 e3 (fun b i hb => by simp [up2, hb]) (fun _ _ _ => rfl) (fun i => ?_) (cr_obj hq ho ?_)
  · unfold up2; split
    · exact hz
    · exact hH.st o i
  · rw [hsl] at e1
    refine t_OB.to (V := updV (fv K S σ o ci) k (.int (Int32.ofInt z))) ⟨_, e1, q2, q3, t_set q4 hap hk _⟩ (fun j _ => ?_)
    unfold updV fv up2
    by_cases hj : j = k
    · subst hj; simp [hr]
    · simp [hj]
theorem r_putR {o ci k ix a : Nat} (hd : decode (me_c y) pc = .ok (.putfield ix, 3)) (hf : FL (me_n y).cls ix ci k) (hfin : ∀ q : vw_C, vwCl[ci]? = some q → (q.2.1 k).2.2.2 = true ∧ (q.2.1 k).1 = (me_n y).cls) (hty : isRf (clTy ci k) = true) (hinit : (me_n y).name = "<init>") (ho : (S.2.1 o).1 = 10 + ci) (ha : a ≠ 0) (kk : AW y (pc + 3) ls st (upR S o k a) σ rc rs Q) : AW y pc ls (vR a :: vR o :: st) S σ rc rs Q := by
  intro p l e s m args below meth c H locs cells slots mc ms K L C B hH hl hs hL
  obtain ⟨q, hq, hk, hw⟩ := hf
  obtain ⟨cell, q1, q2, q3, q4⟩ := (hH.2.2.2.2.2.2.2.2 o).2.2.2.2.2.2 ci q hq ho
  obtain ⟨hS, hfc, kC, hkC, hkind⟩ := hH.1.1.1 ci _ hq
  obtain ⟨cf, kf, fi, f, hi, hsl⟩ := hS k hk
  have hts := C.2.2.2.2.2.2.2
  have hin := (cl_ok hq).2.2
  have hap := va_apart (own := "") hts hin (clTy ci) (cl_ok hq).1 (cl_ok hq).2.1 hH.1.1 hq
  have hlay := hts _ (hin _ (u_in_lay hk))
  unfold u_lay at hlay
  rw [if_pos (hfin q hq).1] at hlay
  have hst := (u_facts hfc hkC (u_lays hts hin hk) hi).1
  have hcf : m.cls = cf := by
    obtain ⟨_, _, c', _, _, _, -, -, hf', -, -, -, hown2, -⟩ := Cond.laysFinal_spec hlay
    have e1 : c' = cf := by have := hi.symm.trans hf'; simp at this; exact this.1.symm
    rw [(hfin q hq).2] at hown2
    rw [← e1]; exact Option.some.inj (C.2.2.2.2.2.1.symm.trans hown2)
  have h6 := u_fits (v := .ref (adr K a)) hfc hkC hkind (Or.inr hlay) hi ((cl_ok hq).1 k hk) (by
    cases hc : clTy ci k <;> first | rfl | (rw [hc] at hty; cases hty)) (by
    cases hc : clTy ci k <;> first | rfl | (rw [hc] at hty; cases hty))
  refine W.putFinK C.1 C.2.1 C.2.2.2.2.2.1 (hts _ hw) hi hst hcf (C.2.2.2.2.2.2.1.trans hinit) (by rw [q2]; exact h6) q1 q3 (by rw [hsl]; exact k2_hasslot (q4 k hk)) rfl rfl hd fun H' e1 e2 e3 => ?_
  have hnew := hH.new (a := o) (by omega) (by omega)
  refine kk p l e s m args below meth c H' (locs ++ [⟨adr K o, f.slot⟩]) cells slots mc ms K L C ⟨loc_app B.1 hnew.2.2.2, B.2⟩ ?_ hl (ok_t (ok_t hs)) hL
  refine HR.set (S := S) (σ' := σ) hH (by omega) (by omega) e2 e3 (fun _ _ _ => rfl) (fun b i hb => by simp [hb]) (fun i => hH.st o i) (cr_obj hq ho ?_)
  rw [hsl] at e1
  refine t_OB.to (V := updV (fv K S σ o ci) k (.ref (adr K a))) ⟨_, e1, q2, q3, t_set q4 hap hk _⟩ (fun j _ => ?_)
  unfold updV fv
  by_cases hj : j = k
  · subst hj; simp [hty, fcv, ha]
  · simp [hj]
theorem in_b {i : Int} {n : Nat} (hi : inR i) (h0 : 0 ≤ i) (h1 : i < n) : ¬ (Int32.ofInt i < 0 ∨ n ≤ (Int32.ofInt i).toNatClampNeg) := by
  rw [i_cl hi, i_0, i_lt hi inR_0]
  omega
theorem r_iald {a n : Nat} {i : Int} (hd : decode (me_c y) pc = .ok (.iaload, 1)) (hk : S.2.1 a = (1, n) ∨ S.2.1 a = (7, n)) (h0 : 0 ≤ i) (h1 : i < n) (kk : AW y (pc + 1) ls (vI (σ a i.toNat) :: st) S σ rc rs Q) : AW y pc ls (vI i :: vR a :: st) S σ rc rs Q := by
  intro p l e s m args below meth c H locs cells slots mc ms K L C B hH hl hs hL
  have hi : inR i := ok_h hs
  have hr : arC s .int H (adr K a) n (fun j => .int (Int32.ofInt (σ a j))) := by
    rcases hk with hk | hk
    · have := (hH.2.2.2.2.2.2.2.2 a).1 (by rw [hk]); rw [hk] at this; exact this
    · have := (hH.2.2.2.2.2.2.2.2 a).2.2.2.2.2.1 (by rw [hk]); rw [hk] at this; exact this
  obtain ⟨cell, c1, c2, c3, c4, c5⟩ := hr
  refine W.iald C.1 C.2.1 c1 c2 c3 (by rw [c4]; exact in_b hi h0 h1) (v := .int (Int32.ofInt (σ a i.toNat))) (by rw [i_cl hi]; exact c5 _ (by omega)) rfl rfl hd (kk p l e s m args below meth c H locs cells slots mc ms K L C B hH hl (ok_c (hH.st _ _) (ok_t (ok_t hs))) hL)
theorem r_zald {a n : Nat} {i : Int} (hd : decode (me_c y) pc = .ok (.baload, 1)) (hk : S.2.1 a = (2, n)) (h0 : 0 ≤ i) (h1 : i < n) (kk : AW y (pc + 1) ls (vI (σ a i.toNat) :: st) S σ rc rs Q) : AW y pc ls (vI i :: vR a :: st) S σ rc rs Q := by
  intro p l e s m args below meth c H locs cells slots mc ms K L C B hH hl hs hL
  have hi : inR i := ok_h hs
  have hr := (hH.2.2.2.2.2.2.2.2 a).2.1 (by rw [hk])
  rw [hk] at hr
  obtain ⟨cell, c1, c2, c3, c4, c5⟩ := hr
  refine W.zald C.1 C.2.1 c1 c2 c3 (by rw [c4]; exact in_b hi h0 h1) (v := .int (Int32.ofInt (σ a i.toNat))) (by rw [i_cl hi]; exact c5 _ (by show i.toNat < n; omega)) rfl rfl hd (kk p l e s m args below meth c H locs cells slots mc ms K L C B hH hl (ok_c (hH.st _ _) (ok_t (ok_t hs))) hL)
theorem r_lald {a n : Nat} {i : Int} (hd : decode (me_c y) pc = .ok (.laload, 1)) (hk : S.2.1 a = (3, n)) (h0 : 0 ≤ i) (h1 : i < n) (kk : AW y (pc + 1) ls (vL (σ a i.toNat) :: st) S σ rc rs Q) : AW y pc ls (vI i :: vR a :: st) S σ rc rs Q := by
  intro p l e s m args below meth c H locs cells slots mc ms K L C B hH hl hs hL
  have hi : inR i := ok_h hs
  have hr := (hH.2.2.2.2.2.2.2.2 a).2.2.1 (by rw [hk])
  rw [hk] at hr
  obtain ⟨cell, c1, c2, c3, c4, c5⟩ := hr
  refine W.lald C.1 C.2.1 c1 c2 c3 (by rw [c4]; exact in_b hi h0 h1) (v := .long (Int64.ofInt (σ a i.toNat))) (by rw [i_cl hi]; exact c5 _ (by show i.toNat < n; omega)) rfl rfl hd (kk p l e s m args below meth c H locs cells slots mc ms K L C B hH hl (ok_c (v := vL _) (hH.st _ _) (ok_t (ok_t hs))) hL)
theorem r_alen {a n : Nat} (hd : decode (me_c y) pc = .ok (.arraylength, 1)) (hk : S.2.1 a = (7, n)) (hn : n ≤ 2147483647) (kk : AW y (pc + 1) ls (vI (n : Int) :: st) S σ rc rs Q) : AW y pc ls (vR a :: st) S σ rc rs Q := by
  intro p l e s m args below meth c H locs cells slots mc ms K L C B hH hl hs hL
  have hr := (hH.2.2.2.2.2.2.2.2 a).2.2.2.2.2.1 (by rw [hk])
  rw [hk] at hr
  obtain ⟨cell, c1, c2, c3, c4, c5⟩ := hr
  refine W.alen C.1 C.2.1 c1 c2 (n := Int32.ofInt (n : Int)) ?_ rfl rfl hd (kk p l e s m args below meth c H locs cells slots mc ms K L C B hH hl (ok_c ⟨by omega, by omega⟩ (ok_t hs)) hL)
  rw [c4]
  show Int32.ofNat n = _
  exact (Int32.ofInt_eq_ofNat).symm
theorem ar_set {U : State} {ty : FieldType} {H' : Heap} {p n j : Nat} {f f' : Nat → Value} {cell : Cell} {v : Value} (c2 : U.isArrayOf cell ty) (c3 : cell.vm ≠ .unknown) (c4 : cell.slots.size = n) (c5 : ∀ j : Nat, j < n → cell.slots[j]? = some (f j)) (hj : j < n) (e1 : H'[p]? = some (cell.setSlot j v)) (hf : ∀ i, f' i = if i = j then v else f i) : arC U ty H' p n f' := by
  refine ⟨_, e1, c2, c3, by rw [k2_slotsz]; exact c4, fun i hi => ?_⟩
  rw [hf i]
  by_cases e : i = j
  · subst e
    rw [if_pos rfl, Cell.slots_setSlot_self _ (by omega)]
  · rw [if_neg e, slot_ne _ _ (Ne.symm e)]
    exact c5 i hi
theorem r_iast {a n : Nat} {i z : Int} (hd : decode (me_c y) pc = .ok (.iastore, 1)) (hk : S.2.1 a = (1, n)) (h0 : 0 ≤ i) (h1 : i < n) (kk : AW y (pc + 1) ls st S (up2 σ a i.toNat z) rc rs Q) : AW y pc ls (vI z :: vI i :: vR a :: st) S σ rc rs Q := by
  intro p l e s m args below meth c H locs cells slots mc ms K L C B hH hl hs hL
  have hz : inR z := ok_h hs
  have hi : inR i := ok_h (ok_t hs)
  have hr := (hH.2.2.2.2.2.2.2.2 a).1 (by rw [hk])
  rw [hk] at hr
  obtain ⟨cell, c1, c2, c3, c4, c5⟩ := hr
  refine W.iast C.1 C.2.1 c1 c2 c3 (by rw [c4]; exact in_b hi h0 h1) rfl rfl hd (fun H' e1 e2 e3 => ?_)
  have hnew := hH.new (a := a) (by rw [hk]; simp) (by rw [hk]; simp)
  refine kk p l e s m args below meth c H' _ cells slots mc ms K L C ⟨loc_app B.1 hnew.2.2.2, B.2⟩ ?_ hl (ok_t (ok_t (ok_t hs))) hL
  rw [i_cl hi] at e1
  refine HR.set (S := S) (rf := S.2.2) hH (by rw [hk]; simp) (by rw [hk]; simp) e2 e3 (fun b j hb => by simp [up2, hb]) (fun _ _ _ => rfl) (fun j => ?_) ?_
  · unfold up2; split
    · exact hz
    · exact hH.st a j
  · have z' : ((S.1, S.2.1, S.2.2) : ShT).2.1 a = (1, n) := hk
    unfold CR
    rw [z']
    refine ⟨fun _ => ar_set c2 c3 c4 c5 (by show i.toNat < n; omega) e1 (fun j => ?_), fun w => ?_, fun w => ?_, fun w => ?_, fun w => ?_, fun w => ?_, fun ci q _ w => ?_⟩
    · unfold up2
      by_cases e : j = i.toNat <;> simp [e]
    all_goals (exfalso; revert w; simp <;> omega)
theorem r_zast {a n : Nat} {i z : Int} (hd : decode (me_c y) pc = .ok (.bastore, 1)) (hk : S.2.1 a = (2, n)) (h01 : z = 0 ∨ z = 1) (h0 : 0 ≤ i) (h1 : i < n) (kk : AW y (pc + 1) ls st S (up2 σ a i.toNat z) rc rs Q) : AW y pc ls (vI z :: vI i :: vR a :: st) S σ rc rs Q := by
  intro p l e s m args below meth c H locs cells slots mc ms K L C B hH hl hs hL
  have hz : inR z := ok_h hs
  have hi : inR i := ok_h (ok_t hs)
  have hr := (hH.2.2.2.2.2.2.2.2 a).2.1 (by rw [hk])
  rw [hk] at hr
  obtain ⟨cell, c1, c2, c3, c4, c5⟩ := hr
  refine W.zast C.1 C.2.1 c1 c2 c3 (by rw [c4]; exact in_b hi h0 h1) rfl rfl hd (fun H' e1 e2 e3 => ?_)
  have hnew := hH.new (a := a) (by rw [hk]; simp) (by rw [hk]; simp)
  refine kk p l e s m args below meth c H' _ cells slots mc ms K L C ⟨loc_app B.1 hnew.2.2.2, B.2⟩ ?_ hl (ok_t (ok_t (ok_t hs))) hL
  have hnr : narrow .boolean (.int (Int32.ofInt z)) = .int (Int32.ofInt z) := by rcases h01 with rfl | rfl <;> rfl
  rw [i_cl hi, hnr] at e1
  refine HR.set (S := S) (rf := S.2.2) hH (by rw [hk]; simp) (by rw [hk]; simp) e2 e3 (fun b j hb => by simp [up2, hb]) (fun _ _ _ => rfl) (fun j => ?_) ?_
  · unfold up2; split
    · exact hz
    · exact hH.st a j
  · have z' : ((S.1, S.2.1, S.2.2) : ShT).2.1 a = (2, n) := hk
    unfold CR
    rw [z']
    refine ⟨fun w => ?_, fun _ => ar_set c2 c3 c4 c5 (by show i.toNat < n; omega) e1 (fun j => ?_), fun w => ?_, fun w => ?_, fun w => ?_, fun w => ?_, fun ci q _ w => ?_⟩
    rotate_left
    · unfold up2
      by_cases e : j = i.toNat <;> simp [e]
    all_goals (exfalso; revert w; simp <;> omega)
end HEAP
