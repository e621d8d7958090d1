/-! new cells; calls -/
section CALLS
variable {y : ME} {pc : Nat} {ls : List (Nat × AV)} {st : List AV} {S : ShT} {σ : StT} {rc rs : Nat} {Q : Int → ShT → StT → Prop}
theorem hr_sz {K : CX} {U : State} {S : ShT} {σ : StT} {H : Heap} (h : HR K U S σ H) : H.size = adr K S.1 := by
  obtain ⟨hT, k1, k2, k3, k4, -⟩ := h
  unfold adr
  rw [if_pos k3]
  exact k4
/-- a new array of numbers: kinds 1, 2, 3 -/
theorem r_newI {n : Nat} {z : Int} {t : ArrayType} {kk : Nat} (hd : decode (me_c y) pc = .ok (.newarray t, 2)) (ht : (t = .int ∧ kk = 1) ∨ (t = .boolean ∧ kk = 2) ∨ (t = .long ∧ kk = 3)) (hw : Cond.arrayClass (newarray.typeOf t) ∈ GB) (hz : z = (n : Int)) (hn : n ≤ 100000) (hb : S.1 + 1 < BIG) (k : AW y (pc + 2) ls (vR S.1 :: st) (pushC S (kk, n)) (pushZ σ S.1) rc rs Q) : AW y pc ls (vI z :: st) S σ (rc + 1) (rs + n) Q := by
  intro p l e s m args below meth c H locs cells slots mc ms K L C B hH hl hs hL
  subst hz
  have hi : inR (n : Int) := ok_h hs
  refine W.newaK C.1 C.2.1 (C.2.2.2.2.2.2.2 _ hw) rfl hd (n := Int32.ofInt n) (N := n) rfl ?_ (by rw [i_cl hi]; rfl) ?_ (by show cells + 1 ≤ mc; omega) (by show slots + n ≤ ms; omega) (hr_sz hH) (fun H' cA h1 h2 h3 h4 => ?_)
  · rw [i_0, i_lt hi inR_0]; omega
  · rcases ht with ⟨rfl, -⟩ | ⟨rfl, -⟩ | ⟨rfl, -⟩
    · show n * 4 ≤ _; omega
    · show n * 1 ≤ _; omega
    · show n * 8 ≤ _; omega
  · refine k p l e s m args below meth c H' locs (cells + 1) (slots + n) mc ms K L C ⟨B.1, B.2.1, by omega, by omega⟩ ?_ hl (ok_c (v := vR _) trivial (ok_t hs)) hL
    have key : CR K s (S.1 + 1, (fun b => if b = S.1 then (kk, n) else S.2.1 b), fun b i => if b = S.1 then 0 else S.2.2 b i) (fun b i => if b = S.1 then 0 else σ b i) H' S.1 := by
      unfold CR
      simp only [if_pos]
      rcases ht with ⟨rfl, rfl⟩ | ⟨rfl, rfl⟩ | ⟨rfl, rfl⟩
      · refine ⟨fun _ => ⟨_, h1, h4 _ _, by simp [arrV], arrV_size _ _ _, fun j hj => by rw [arrV_read _ _ hj]; rfl⟩, fun w => ?_, fun w => ?_, fun w => ?_, fun w => ?_, fun w => ?_, fun ci q _ w => ?_⟩
        all_goals (exfalso; omega)
      · refine ⟨fun w => ?_, fun _ => ⟨_, h1, h4 _ _, by simp [arrV], arrV_size _ _ _, fun j hj => by rw [arrV_read _ _ hj]; rfl⟩, fun w => ?_, fun w => ?_, fun w => ?_, fun w => ?_, fun ci q _ w => ?_⟩
        all_goals (exfalso; omega)
      · refine ⟨fun w => ?_, fun w => ?_, fun _ => ⟨_, h1, h4 _ _, by simp [arrV], arrV_size _ _ _, fun j hj => by rw [arrV_read _ _ hj]; rfl⟩, fun w => ?_, fun w => ?_, fun w => ?_, fun ci q _ w => ?_⟩
        all_goals (exfalso; omega)
    exact HR.push hH (by show kk ≠ 7; omega) hb (by rw [hr_sz hH]; exact h2) (fun q hq => h3 q (by rw [← hr_sz hH]; exact hq)) key
/-- a new object -/
theorem r_new {ci n ix : Nat} {q : vw_C} (hd : decode (me_c y) pc = .ok (.new ix, 3)) (hq : vwCl[ci]? = some q) (h1 : Cond.classLink (me_n y).cls ix q.1 ∈ GB) (h2 : Cond.instantiable q.1 n ∈ GB) (h3 : Cond.initialized q.1 ∈ GB) (hdv : ∀ k, k < q.2.2 → defaultValue (clTy ci k) = if isRf (clTy ci k) = true then .null else .int 0) (hci : ci < 12) (hb : S.1 + 1 < BIG) (k : AW y (pc + 3) ls (vR S.1 :: st) (pushC S (10 + ci, 0)) (pushZ σ S.1) rc rs Q) : AW y pc ls st S σ (rc + 1) (rs + n) Q := by
  intro p l e s m args below meth c H locs cells slots mc ms K L C B hH hl hs hL
  have hts := C.2.2.2.2.2.2.2
  have hKn := hH.1.1.1 ci _ hq
  refine W.newcK C.1 C.2.1 C.2.2.2.2.2.1 (hts _ h1) (hts _ h2) (hts _ h3) rfl hd (by show cells + 1 ≤ mc; omega) (by show slots + n ≤ ms; omega) hKn.2.1 (hr_sz hH) (fun H' kC e1 e2 e3 e4 => ?_)
  refine k p l e s m args below meth c H' locs (cells + 1) (slots + n) mc ms K L C ⟨B.1, B.2.1, by omega, by omega⟩ ?_ hl (ok_c (v := vR _) trivial hs) hL
  refine HR.push hH (by show 10 + ci ≠ 7; omega) hb (by rw [hr_sz hH]; exact e3) (fun q hq => e4 q (by rw [← hr_sz hH]; exact hq)) (cr_obj hq (by simp) ?_)
  refine (u_born (clTy ci) hts (cl_ok hq).2.2 hKn e1 e2 (cl_ok hq).1).to (fun j hj => ?_)
  rw [hdv j hj]
  unfold fv
  simp [fcv]
/-- an array of references: kinds 4 (Drawing) and 5 (Plan) -/
theorem r_newQ {n ix kk : Nat} {z : Int} {nm : String} (hd : decode (me_c y) pc = .ok (.anewarray ix, 3)) (hk : (kk = 4 ∧ nm = RX0) ∨ (kk = 5 ∧ nm = RX5)) (h1 : Cond.classLink (me_n y).cls ix nm ∈ GB) (hz : z = (n : Int)) (hn : n ≤ 100000) (hb : S.1 + 1 < BIG) (k : AW y (pc + 3) ls (vR S.1 :: st) (pushC S (kk, n)) (pushZ σ S.1) rc rs Q) : AW y pc ls (vI z :: st) S σ (rc + 1) (rs + n) Q := by
  intro p l e s m args below meth c H locs cells slots mc ms K L C B hH hl hs hL
  have hts := C.2.2.2.2.2.2.2
  subst hz
  have hi : inR (n : Int) := ok_h hs
  have hcl : (Int32.ofInt (n : Int)).toNatClampNeg = n := by rw [i_cl hi]; rfl
  have h2 : (Cond.arrayOver (.object nm)).before args s = true := by
    rcases hk with ⟨-, rfl⟩ | ⟨-, rfl⟩
    · exact va_AO.use hH.1.2.2.2.2.1.2.1
    · exact va_AO.use hH.1.2.2.2.2.1.2.2
  refine W.anew C.1 C.2.1 C.2.2.2.2.2.1 (hts _ h1) h2 rfl hd (n := Int32.ofInt n) rfl ?_ (by rw [hcl]; omega) (by show cells + 1 ≤ mc; omega) (by rw [hcl]; show slots + n ≤ ms; omega) (fun cA kA comp e1 e2 e3 e4 => ?_)
  · rw [i_0, i_lt hi inR_0]; omega
  rw [hcl, hr_sz hH]
  refine k p l e s m args below meth c _ locs (cells + 1) (slots + n) mc ms K L C ⟨B.1, B.2.1, by omega, by omega⟩ ?_ hl (ok_c (v := vR _) trivial (ok_t hs)) hL
  have hat : (H.push { cls := cA, slots := Array.replicate n Value.null, vm := .none })[adr K S.1]? = some { cls := cA, slots := Array.replicate n Value.null, vm := .none } := by
    rw [← hr_sz hH]; simp
  refine HR.push hH (by show kk ≠ 7; omega) hb (by simp) (fun q hq => by rw [Array.getElem?_push, if_neg (Nat.ne_of_lt hq)]) ?_
  unfold CR
  simp only [if_pos]
  rcases hk with ⟨rfl, rfl⟩ | ⟨rfl, rfl⟩
  · refine ⟨fun w => ?_, fun w => ?_, fun w => ?_, fun _ => ⟨_, kA, comp, hat, rfl, e2, e3, e4, by simp, fun j hj => by simp [hj, fcv]⟩, fun w => ?_, fun w => ?_, fun ci q _ w => ?_⟩
    all_goals (exfalso; omega)
  · refine ⟨fun w => ?_, fun w => ?_, fun w => ?_, fun w => ?_, fun _ => ⟨_, kA, comp, hat, rfl, e2, e3, e4, by simp, fun j hj => by simp [hj, fcv]⟩, fun w => ?_, fun ci q _ w => ?_⟩
    all_goals (exfalso; omega)
theorem r_aald {a n : Nat} {i : Int} (hd : decode (me_c y) pc = .ok (.aaload, 1)) (hk : S.2.1 a = (4, n) ∨ S.2.1 a = (5, n)) (h0 : 0 ≤ i) (h1 : i < n) (hne : S.2.2 a i.toNat ≠ 0) (kk : AW y (pc + 1) ls (vR (S.2.2 a i.toNat) :: st) S σ rc rs Q) : AW y pc ls (vI i :: vR a :: st) S σ rc rs Q := by
  intro p l e s m args below meth c H locs cells slots mc ms K L C B hH hl hs hL
  have hi : inR i := ok_h hs
  have hr : ∃ C : String, arQ s C H (adr K a) n (fun j => fcv K (S.2.2 a j)) := by
    rcases hk with hk | hk
    · have := (hH.2.2.2.2.2.2.2.2 a).2.2.2.1 (by rw [hk]); rw [hk] at this; exact ⟨_, this⟩
    · have := (hH.2.2.2.2.2.2.2.2 a).2.2.2.2.1 (by rw [hk]); rw [hk] at this; exact ⟨_, this⟩
  obtain ⟨C', cell, kA, comp, c1, c2, c3, c4, c5, c6, c7⟩ := hr
  refine W.aald C.1 C.2.1 c1 (ty := .object C') ⟨fun k h => (by rw [c2] at h; cases h), kA, c3, comp, c4⟩ rfl (by rw [c2]; exact fun h => by cases h) (by rw [c6]; exact in_b hi h0 h1) (v := .ref (adr K (S.2.2 a i.toNat))) (by rw [i_cl hi, c7 _ (by omega)]; simp [fcv, hne]) rfl rfl hd (kk p l e s m args below meth c H locs cells slots mc ms K L C B hH hl (ok_c (v := vR _) trivial (ok_t (ok_t hs))) hL)
theorem r_aast {a n o ci : Nat} {i : Int} (hd : decode (me_c y) pc = .ok (.aastore, 1)) (hk : (S.2.1 a = (4, n) ∧ ci = 0) ∨ (S.2.1 a = (5, n) ∧ ci = 5)) (ho : (S.2.1 o).1 = 10 + ci) (h0 : 0 ≤ i) (h1 : i < n) (hne : o ≠ 0) (kk : AW y (pc + 1) ls st (upR S a i.toNat o) σ rc rs Q) : AW y pc ls (vR o :: vI i :: vR a :: st) S σ rc rs Q := by
  intro p l e s m args below meth c H locs cells slots mc ms K L C B hH hl hs hL
  have hi : inR i := ok_h (ok_t hs)
  obtain ⟨q, hq, hqn, hcase⟩ : ∃ q : vw_C, vwCl[ci]? = some q ∧ arQ s q.1 H (adr K a) n (fun j => fcv K (S.2.2 a j)) ∧ ((S.2.1 a = (4, n) ∧ q.1 = RX0) ∨ (S.2.1 a = (5, n) ∧ q.1 = RX5)) := by
    rcases hk with ⟨hk, rfl⟩ | ⟨hk, rfl⟩
    · have := (hH.2.2.2.2.2.2.2.2 a).2.2.2.1 (by rw [hk]); rw [hk] at this; exact ⟨_, rfl, this, Or.inl ⟨hk, rfl⟩⟩
    · have := (hH.2.2.2.2.2.2.2.2 a).2.2.2.2.1 (by rw [hk]); rw [hk] at this; exact ⟨_, rfl, this, Or.inr ⟨hk, rfl⟩⟩
  obtain ⟨cell, kA, comp, c1, c2, c3, c4, c5, c6, c7⟩ := hqn
  obtain ⟨cellv, q1, q2, q3, q4⟩ := (hH.2.2.2.2.2.2.2.2 o).2.2.2.2.2.2 ci q hq ho
  obtain ⟨hS, hfc, kC, hkC, hkind⟩ := hH.1.1.1 ci _ hq
  have hcomp : K.1.1 ci = comp := Option.some.inj (hfc.symm.trans c5)
  refine W.aast C.1 C.2.1 c1 (fun k h => by rw [c2] at h; cases h) (by rw [c2]; exact fun h => by cases h) c3 c4 rfl (by rw [← hcomp]; exact hkC) ⟨by rw [i_0, i_lt hi inR_0]; omega, by rw [i_cl hi, c6]; omega⟩ q1 (fun k h => by rw [q3] at h; cases h) (by rw [q2]; exact hkC) (by rw [q2, hcomp]; exact va_asg _ _) rfl rfl hd (fun H' e1 e2 e3 => ?_)
  have h00 : (S.2.1 a).1 ≠ 0 ∧ (S.2.1 a).1 ≠ 7 := by rcases hcase with ⟨h, -⟩ | ⟨h, -⟩ <;> rw [h] <;> simp
  have hnew := hH.new (a := a) h00.1 h00.2
  refine kk p l e s m args below meth c H' _ cells slots mc ms K L C ⟨loc_app B.1 hnew.2.2.2, B.2⟩ ?_ hl (ok_t (ok_t (ok_t hs))) hL
  rw [i_cl hi] at e1
  refine HR.set (S := S) (σ' := σ) hH h00.1 h00.2 e2 e3 (fun _ _ _ => rfl) (fun b j hb => by simp [hb]) (fun j => hH.st a j) ?_
  have hQ : arQ s q.1 H' (adr K a) n (fun j => fcv K (if a = a ∧ j = i.toNat then o else S.2.2 a j)) := by
    refine ⟨_, kA, comp, e1, c2, c3, c4, c5, by rw [k2_slotsz]; exact c6, fun j hj => ?_⟩
    by_cases e : j = i.toNat
    · subst e
      rw [Cell.slots_setSlot_self _ (by omega)]
      simp [fcv, hne]
    · rw [slot_ne _ _ (Ne.symm e), c7 j hj]
      simp [e]
  rcases hcase with ⟨h, hn⟩ | ⟨h, hn⟩
  · have z' : ((S.1, S.2.1, fun b j => if b = a ∧ j = i.toNat then o else S.2.2 b j) : ShT).2.1 a = (4, n) := h
    unfold CR
    rw [z']
    refine ⟨fun w => ?_, fun w => ?_, fun w => ?_, fun _ => hn ▸ hQ, fun w => ?_, fun w => ?_, fun ci q _ w => ?_⟩
    all_goals (exfalso; revert w; simp <;> omega)
  · have z' : ((S.1, S.2.1, fun b j => if b = a ∧ j = i.toNat then o else S.2.2 b j) : ShT).2.1 a = (5, n) := h
    unfold CR
    rw [z']
    refine ⟨fun w => ?_, fun w => ?_, fun w => ?_, fun w => ?_, fun _ => hn ▸ hQ, fun w => ?_, fun ci q _ w => ?_⟩
    all_goals (exfalso; revert w; simp <;> omega)
theorem r_entry {as : List AV} {ls0 : List (Nat × AV)} (hp : plainName (me_n y).cls = true) (hn : as.length ≤ me_l y) (ha : (as.all fun v => match v with | .inr (.inr _) => false | _ => true) = true) (hls : (List.range as.length).zip as = ls0) (k : AW y 0 ls0 [] S σ rc rs Q) : WPm y as S σ rc rs Q := by
  intro l K hst0
  refine Met.ofW (cc := me_c y) (maxL := me_l y) (ret := me_r y) hp rfl ?_
  intro p e s m args below meth c s₁ B hml hv
  obtain ⟨rfl, hH, hok⟩ := hv
  have hts := atoms_spec (ws := wsOf y) B.pre
  have hown : s.vm.findClass (me_n y).cls = some m.cls := findClass_of_methodNamed B.named
  have C : Cn y p s m (as.map (cv K)).toArray meth c := ⟨B.exec, B.bytes, hml, B.returns, B.notSynchronized, hown, (name_of_methodNamed B.named B.method).1, fun w hw => hts w (List.mem_cons_of_mem _ hw)⟩
  have hcat : ∀ v ∈ as.map (cv K), v.category = 1 := by
    intro v hv
    obtain ⟨w, hw, rfl⟩ := List.mem_map.mp hv
    exact cv_cat1 w (List.all_eq_true.mp ha w hw)
  have hla : (as.map (cv K)).length = as.length := List.length_map _
  rw [entry_eq m (as.map (cv K)) hcat (me_l y), hla]
  subst hls
  refine k p l e s m _ below meth c s.heap [] 0 0 rc rs K _ C ⟨fun _ h => (by cases h), hst0, by omega, by omega⟩ hH (fun q hq => ?_) (fun _ h => by cases h) ?_
  · exact hok q.2 (List.of_mem_zip (a := q.1) (b := q.2) hq).2
  · have hls : ∀ q ∈ ((List.range as.length).zip as).map (fun q => (q.1, cv K q.2)), ((as.map (cv K)).map Slot.val ++ List.replicate (me_l y - as.length) Slot.unset).toArray[q.1]? = some (.val q.2) := by
      intro q hq
      obtain ⟨r, hr, rfl⟩ := List.mem_map.mp hq
      obtain ⟨i, hi⟩ := List.getElem?_of_mem hr
      rw [List.getElem?_zip_eq_some] at hi
      obtain ⟨i1, i2⟩ := hi
      have hlt : i < as.length := (List.getElem?_eq_some_iff.mp i2).1
      rw [List.getElem?_range hlt] at i1
      cases i1
      simp only [List.getElem?_toArray]
      rw [List.getElem?_append_left (by simp; exact hlt)]
      simp [i2]
    refine ⟨by simp; omega, ⟨fun i v h hc => ?_, fun i h => ?_⟩, hls⟩
    · exfalso
      simp only [List.getElem?_toArray] at h
      rcases List.mem_append.mp (List.mem_of_getElem? h) with h1 | h1
      · obtain ⟨w, hw, e⟩ := List.mem_map.mp h1
        cases e
        have := hcat _ hw
        omega
      · have := List.eq_of_mem_replicate h1
        cases this
    · exfalso
      simp only [List.getElem?_toArray] at h
      rcases List.mem_append.mp (List.mem_of_getElem? h) with h1 | h1
      · obtain ⟨w, hw, e⟩ := List.mem_map.mp h1
        cases e
      · have := List.eq_of_mem_replicate h1
        cases this
def vcat (v : AV) : Nat := match v with
  | .inr (.inr _) => 2
  | _ => 1
theorem vcat_sum {K : CX} (st : List AV) : ((st.map (cv K)).map fun v => v.category).sum = (st.map vcat).sum := by
  rw [List.map_map]
  congr 1
  apply List.map_congr_left
  intro v _
  rcases v with z | a | z <;> rfl
theorem pc_blind {K : CX} {as : List AV} {S : ShT} {σ : StT} : FrameBlind (PC K as S σ) := fun a U g mk h => ⟨h.1, ⟨TF.same (s := U) rfl h.2.1.1, h.2.1.2.moved (Vm.Alike.refl U.vm)⟩, h.2.2⟩
/-- behind a call -/
theorem r_back {z : ME} {as : List AV} {rc' rs' : Nat} {stk : List AV} {stk' : List Value} {p : Program} {l : Launch} {e : Env} {s : State} {m : MethodId} {args : Array Value} {below : List Frame} {meth : Method} {c : Code} {H : Heap} {locs : List Loc} {cells slots mc ms : Nat} {K : CX} {L : Array Slot} {a : Array Value}
    (C : Cn y p s m args meth c) (B : (∀ q ∈ locs, K.2.1 ≤ q.base) ∧ l.stackTraces = false ∧ cells + (rc' + rc) ≤ mc ∧ slots + (rs' + rs) ≤ ms) (hH : HR K s S σ H) (hl : ∀ q ∈ ls, okV q.2) (hs : ∀ v ∈ st, okV v) (hL : lv_has L (me_l y) (ls.map fun q => (q.1, cv K q.2)))
    {Qz : Int → ShT → StT → Prop} (hz : ∀ r S' σ', Qz r S' σ' → AW y (pc + 3) ls (prt (me_r z) r st) S' σ' rc rs Q)
    (hr : va_Run p l e ({ frames := me_f y, cells := mc, slots := ms, locals := me_w y }) s m args below meth c H locs cells slots rc' rs' (F0 m pc L stk') (st.map (cv K)) (QC K (me_r z) Qz a) (fun q => K.2.1 ≤ q)) :
    W p l e ({ frames := me_f y, cells := mc, slots := ms, locals := me_w y }) s m args below meth c H locs cells slots (MQ below (QC K (me_r y) Q) args s mc ms (fun q => K.2.1 ≤ q)) (F0 m pc L stk') := by
  intro T hT X
  obtain ⟨v, st₀, t, T', L', h0, X', hL', e1, e2, ⟨r, S', σ', hq, hv, hir, hR⟩, go⟩ := hr T hT X
  cases hv
  have hal : s.vm.Alike t.vm := by rw [← e2]; exact X'.warmed.alike
  have hst : ((rv (me_r z) r).toList ++ st.map (cv K)) = (prt (me_r z) r st).map (cv K) := by
    unfold rv prt
    cases me_r z <;> rfl
  have hok : ∀ v ∈ prt (me_r z) r st, okV v := by
    unfold prt
    cases me_r z
    · exact hs
    · exact ok_c hir hs
  obtain ⟨t2, a1, b1⟩ := hz r S' σ' hq p l e s m args below meth c T'.heap (locs ++ L') (cells + rc') (slots + rs') mc ms K L C ⟨fun q hq => (List.mem_append.mp hq).elim (B.1 q) (hL' q), B.2.1, by omega, by omega⟩ ⟨hH.1, by rw [e1]; exact hR.2.moved hal.symm⟩ hl hok hL T' rfl X'
  refine ⟨t2, go t2 ?_, b1⟩
  show Steps p.tables e below (T'.setTop { method := m, pc := pc + 3, locals := L, stack := (rv (me_r z) r).toList ++ st.map (cv K), locked := none }) t2
  rw [hst]
  exact a1
theorem mo_ws {z : ME} {n : Nat} (h : MO z n) : ∀ w ∈ wsOf z, w ∈ GB := fun w hw => (List.mem_cons.mp hw).elim (fun e => e ▸ h.1) id
theorem r_callV {z : ME} {as : List AV} {o ci n ix rc' rs' : Nat} {q : vw_C} (hd : decode (me_c y) pc = .ok (.invokevirtual ix, 3)) (hm : MO z n) (hl : Cond.methodLink (me_n y).cls ix (me_n z) ∈ GB) (hi : Cond.instanceMethod (me_n z) ∈ GB) (hse : Cond.selects (me_n z).cls (me_n z) (me_n z) ∈ GB) (hq : vwCl[ci]? = some q) (hqn : q.1 = (me_n z).cls) (hn : as.length = n) (hR : me_f z + 1 ≤ me_f y ∧ 8 + (me_l z + 11) + me_w z ≤ me_w y) (ho : (S.2.1 o).1 = 10 + ci) (hst : (st.map vcat).sum ≤ 8)
    {Qz : Int → ShT → StT → Prop} (hz : ∀ r S' σ', Qz r S' σ' → AW y (pc + 3) ls (prt (me_r z) r st) S' σ' rc rs Q) (k : WPm z (vR o :: as) S σ rc' rs' Qz) : AW y pc ls (as.reverse ++ vR o :: st) S σ (rc' + rc) (rs' + rs) Q := by
  intro p l e s m args below meth c H locs cells slots mc ms K L C B hH hl' hs hL
  have hts := C.2.2.2.2.2.2.2
  obtain ⟨cell, q1, q2, q3, q4⟩ := (hH.2.2.2.2.2.2.2.2 o).2.2.2.2.2.2 ci q hq ho
  obtain ⟨hS, hfc, kC, hkC, hkind⟩ := hH.1.1.1 ci _ hq
  have hs1 : ∀ v ∈ as, okV v := fun v hv => hs v (List.mem_append_left _ (List.mem_reverse.mpr hv))
  have hs2 : ∀ v ∈ st, okV v := fun v hv => hs v (List.mem_append_right _ (List.mem_cons_of_mem _ hv))
  have hstk : (as.reverse ++ vR o :: st).map (cv K) = (as.map (cv K)).reverse ++ .ref (adr K o) :: st.map (cv K) := by simp [cv]
  rw [hstk]
  refine r_back (z := z) (as := as) (stk := []) C B hH hl' hs2 hL hz (va_runV (bytes := me_c z) (maxL := me_l z) (ret := me_r z) (As := as.map (cv K)) (C := (me_n z).cls) (n := n) (ws := wsOf z) ⟨C.1, C.2.1, C.2.2.1, C.2.2.2.2.2.1, hts⟩ (k l K B.2.1) ?_ ?_ rfl (by rw [List.length_map]; exact hn) hL.1 rfl (lv_room (by rw [vcat_sum]; exact hst)) hd ⟨by show cells + rc' ≤ mc; omega, by show slots + rs' ≤ ms; omega⟩)
  · exact ⟨callB_of n hts (gb_good (mo_ws hm)) rfl rfl rfl (hts _ hm.2.1) (hts _ hl) ⟨hm.2.2.1, hm.2.2.2.1, hm.2.2.2.2⟩ hR, hts _ hi, hts _ hse⟩
  · exact ⟨pc_blind, ⟨cell, q1, by rw [q3]; rfl, by rw [q2, ← hqn]; exact hfc⟩, fun U hU hW => ⟨rfl, by rw [hU]; exact hH.warm hW, ok_c (v := vR o) trivial hs1⟩⟩
theorem r_callS {z : ME} {as : List AV} {n ix rc' rs' : Nat} (hd : decode (me_c y) pc = .ok (.invokestatic ix, 3)) (hm : MO z n) (hl : Cond.methodLink (me_n y).cls ix (me_n z) ∈ GB) (hi : Cond.static (me_n z) ∈ GB) (hn : as.length = n) (hR : me_f z + 1 ≤ me_f y ∧ 8 + (me_l z + 11) + me_w z ≤ me_w y) (hst : (st.map vcat).sum ≤ 8)
    {Qz : Int → ShT → StT → Prop} (hz : ∀ r S' σ', Qz r S' σ' → AW y (pc + 3) ls (prt (me_r z) r st) S' σ' rc rs Q) (k : WPm z as S σ rc' rs' Qz) : AW y pc ls (as.reverse ++ st) S σ (rc' + rc) (rs' + rs) Q := by
  intro p l e s m args below meth c H locs cells slots mc ms K L C B hH hl' hs hL
  have hts := C.2.2.2.2.2.2.2
  have hs1 : ∀ v ∈ as, okV v := fun v hv => hs v (List.mem_append_left _ (List.mem_reverse.mpr hv))
  have hs2 : ∀ v ∈ st, okV v := fun v hv => hs v (List.mem_append_right _ hv)
  have hstk : (as.reverse ++ st).map (cv K) = (as.map (cv K)).reverse ++ st.map (cv K) := by simp
  rw [hstk]
  refine r_back (z := z) (as := as) (stk := []) C B hH hl' hs2 hL hz (va_runS (bytes := me_c z) (maxL := me_l z) (ret := me_r z) (As := as.map (cv K)) (n := n) (ws := wsOf z) ⟨C.1, C.2.1, C.2.2.1, C.2.2.2.2.2.1, hts⟩ (k l K B.2.1) ?_ ?_ rfl (by rw [List.length_map]; exact hn) hL.1 rfl (lv_room (by rw [vcat_sum]; exact hst)) hd ⟨by show cells + rc' ≤ mc; omega, by show slots + rs' ≤ ms; omega⟩)
  · exact ⟨callB_of n hts (gb_good (mo_ws hm)) rfl rfl rfl (hts _ hm.2.1) (hts _ hl) ⟨hm.2.2.1, hm.2.2.2.1, hm.2.2.2.2⟩ hR, hts _ hi⟩
  · exact ⟨pc_blind, fun U hU hW => ⟨rfl, by rw [hU]; exact hH.warm hW, hs1⟩⟩
end CALLS
