/-! loose throws -/
section XT
variable {S : ShT} {σ : StT} {Q : Int → ShT → StT → Prop}
theorem xx_ret {y : ME} {pc : Nat} {ls : List (Nat × AV)} {st : List AV} {rc rs : Nat} {S0 : ShT} {σ0 : StT} {P : Prop} (k : AW y pc ls st S σ rc rs Q) : AX y pc ls st S σ rc rs (ZL (me_r y) Q S0 σ0 P) := by
  intro p l e s m args below meth c H locs cells slots mc ms K L C B hH hl hs hL hE
  exact vx_ret (k p l e s m args below meth c H locs cells slots mc ms K L C B hH hl hs hL)
theorem xx_throw {P : Prop} {ls : List (Nat × AV)} (hP : P) : AX mX10_loose 25 ls [] S σ 1 6 (ZL (some .int) Q S σ P) := by
  intro p l e s m args below meth c H locs cells slots mc ms K L C B hH hl0 hs0 hL hE T hT X
  have hts := C.2.2.2.2.2.2.2
  have hexec := C.1
  have hl := B.2.1
  have hRc : cells + 1 ≤ mc := B.2.2.1
  have hRs : slots + 6 ≤ ms := B.2.2.2
  have hkp : ∀ q : Nat, q < K.2.2.2.size → ¬ (K.2.1 ≤ q) → s.heap[q]? = K.2.2.2[q]? := fun q _ h => hE.2 q (by omega)
  have hS : va_S (fun q => K.2.1 ≤ q) s.heap H locs := by
    refine ⟨by rw [← hT]; exact X.same.2.1, fun q h1 h2 => ?_, B.1⟩
    rw [hH.2.2.2.2.2.1 q (by omega), hE.2 q (by omega)]
  have hU := hH.1.2.2.2.2.2.1.kept hkp
  have hN := hH.1.2.2.2.2.2.2.1.kept hkp
  have hat : ∀ w ∈ oaN, w.before args s = true := vx_hat (fun w hw => hts w (gb_in (w_ns4 w hw) (List.mem_filter.mp hw).2)) w_ns5 (vx_c (va_Nw.use rfl hH.1.2.2.2.2.1.1) (vx_c (decl_of (hts _ w_ns7.1.1) (hts _ w_ns7.1.2)) (vx_c (decl_of (hts _ w_ns7.2.1.1) (hts _ w_ns7.2.1.2)) (vx_c (decl_of (hts _ w_ns7.2.2.1) (hts _ w_ns7.2.2.2)) vx_n))))
  have htr : e.platform.stackTraces = false := (show e.platform.stackTraces = l.stackTraces by rw [X.admits.platform]).trans hl
  have Y := vx_rebase X (R' := { frames := 6, locals := 95, cells := 1, slots := 6 }) (Nat.le_refl _) (Nat.le_refl _) hRc hRs
  obtain ⟨s', hA⟩ : ∃ z, z = (T.setVm s.vm).setFrames (.invoking m args :: below) := ⟨_, rfl⟩
  rw [← hA] at Y
  have hvm : s'.vm = s.vm := by rw [hA]; rfl
  have hhp : s'.heap = H := by rw [hA]; exact hT
  have hW0 : s.WarmedH s'.vm := by rw [hvm]; exact State.WarmedH.refl s
  have hat' : ∀ w ∈ oaN, w.before args s' = true := fun w hw => vx_ot_at hW0 hvm.symm (w_ns6 w (List.mem_cons_of_mem _ (List.mem_cons_of_mem _ hw))) (hat w hw)
  have hk' : (Cond.classLink RX10 353 nsE).before args s' = true := vx_ot_at hW0 hvm.symm (w_ns6 _ List.mem_cons_self) (hts _ w_ns1)
  have hini' : (Cond.initialized nsE).before args s' = true := vx_ot_at hW0 hvm.symm (w_ns6 _ (List.mem_cons_of_mem _ List.mem_cons_self)) (hts _ w_ns2)
  have hU' : vx_Zq Bundle.tN "UNASSIGNED_STACK" Bundle.steD (fun q => K.2.1 ≤ q) s' s'.heap := by rw [hhp]; exact vx_Zq.moved hW0.alike (hU.kept hS.2.1)
  have hN' : vx_Zq Bundle.tN "SUPPRESSED_SENTINEL" Bundle.listD (fun q => K.2.1 ≤ q) s' s'.heap := by rw [hhp]; exact vx_Zq.moved hW0.alike (hN.kept hS.2.1)
  have h : ∀ w ∈ oaX, w.before args s' = true := vx_own hat' (vx_isRefq hU'.1) (vx_isRefq hN'.1) hU'.2.word hN'.2.word
  have hown' : s'.vm.findClass RX10 = some m.cls := by rw [hvm]; exact C.2.2.2.2.2.1
  have hins : (Cond.instantiable nsE 6).before args s' = true := h _ (by simp [oaX])
  obtain ⟨vm₁, cX, kX, hfX, hkX, -, -, X₁, st1⟩ := Y.newCold hexec (own := RX10) (C := nsE) (index := 353) (n := 6) hown' hk' hins hini'
    (g := F0 m 25 L []) rfl (by rw [C.2.1]; exact dX10_loose_25) (Nat.le_refl _) (Nat.le_refl _)
  generalize hT1 : (T.setVm vm₁).pushCell { cls := cX, slots := kX.instanceTypes.map defaultValue, vm := .none } = T1 at X₁ st1
  have hcat : (Value.ref T.heap.size).category = 1 := rfl
  have hcellA : T1.heap[T.heap.size]? = some (freshCell cX kX) := by rw [← hT1]; exact State.heap_pushCell_size _ _
  have d3' : decode c.code 28 = .ok (.dup, 1) := by rw [C.2.1]; exact dX10_loose_28
  have d4' : decode c.code 29 = .ok (.ldc_w 355, 3) := by rw [C.2.1]; exact dX10_loose_29
  have hstr' : vk_R RX10 355 "no such loose meeting" (K.2.2.1 (BIG + 1 + 12)) s' := vk_R.warm hW0 (hH.1.2.2.1 12 _ rfl)
  obtain ⟨U, hsteps, hrun, hend, hW, hsame, ce, hce, hcl0, hcv⟩ := xt_ctor X₁ hexec htr hown' h hfX hkX hcellA (by rw [hhp, hT]; exact Nat.le_refl _) (msg := .ref (K.2.2.1 (BIG + 1 + 12))) rfl
    (g := { method := m, pc := 32, locals := L, stack := .ref (K.2.2.1 (BIG + 1 + 12)) :: .ref T.heap.size :: .ref T.heap.size :: [], locked := none }) rfl (hL.1.trans C.2.2.1.symm) rfl rfl (rest := []) rfl
    (by rw [C.2.1]; exact dX10_loose_32) (by rw [C.2.1]; exact dX10_loose_35) (fun x hx => (hE.1 x hx).elim) (by decide) (Nat.le_of_ble_eq_true rfl) C.2.2.2.2.1
  obtain ⟨f1, f2⟩ := vx_frame hsame
  rw [hhp] at f1 f2
  have hWs : s.WarmedH U.vm := State.WarmedH.trans hW0 hW
  have hcl : s.vm.findClass nsE = some ce.cls := by rw [hvm] at hcl0; exact hcl0
  have hall : s.sameButNew ({ U with vm := s.vm } : State) locs mc ms := by
    subst hA
    obtain ⟨e1, e2⟩ := hsame
    rw [State.setFrames_setFrames] at e1
    have h2 : (T.setVm s.vm).sameButNew ({ U with vm := s.vm } : State) [] (0 + 1) (0 + 6) := ⟨e1, e2⟩
    have h3 := X.same.trans h2
    rw [List.append_nil] at h3
    exact h3.mono hRc hRs
  refine ⟨U, ?_, .threw T.heap.size, hrun, hend, Or.inr ⟨T.heap.size, rfl, nsE, ce, locs, ⟨rfl, hP, H, hH.2.moved hWs.alike, f1, fun q hq => f2 q hq (fun z hz => nomatch hz)⟩, hce, hcv, hcl, hWs, hall, B.1⟩⟩
  refine st1 _ ?_
  show Steps p.tables e below (T1.setTop { method := m, pc := 28, locals := L, stack := .ref T.heap.size :: [], locked := none }) _
  jvm_step X₁.here [X₁.here.top, hexec, d3', Value.category]
  exact X₁.ldcStringW hexec (own := RX10) (text := "no such loose meeting") (index := 355) (a := K.2.2.1 (BIG + 1 + 12)) hown' hstr'.1 hstr'.2
    (g := { method := m, pc := 29, locals := L, stack := .ref T.heap.size :: .ref T.heap.size :: [], locked := none }) rfl d4' _ hsteps
end XT
section XE
variable {S : ShT} {σ : StT}
theorem xx_callVv {y : ME} {pc : Nat} {ls : List (Nat × AV)} {st : List AV} {rc rs : Nat} {Q : ZT} {z : ME} {o ci n ix : Nat} (as : List AV) (hd : decode (me_c y) pc = .ok (.invokevirtual ix, 3)) (hm : MV z n ci) (hl : LK (me_n y).cls ix (me_n z)) (hn : as.length = n) (hR : fits2 z y = true) (ho : S.2.1 o = (10 + ci, 0)) (hst : (st.map vcat).sum ≤ 8)
    (k : WPs z (vR o :: as) S σ (fun r σ' => AX y (pc + 3) ls (prt (me_r z) r st) S σ' rc rs Q)) : AX y pc ls (as.reverse ++ vR o :: st) S σ rc rs Q := by
  obtain ⟨h1, h2, h3, q, h4, h5⟩ := hm
  have hz : ∀ (r : Int) (S' : ShT) (σ' : StT), (S' = S ∧ AX y (pc + 3) ls (prt (me_r z) r st) S σ' rc rs Q) → AX y (pc + 3) ls (prt (me_r z) r st) S' σ' rc rs Q := fun r S' σ' h => by rw [h.1]; exact h.2
  have := xx_callV (rc' := 0) (rs' := 0) (rc := rc) (rs := rs) hd h1 hl h2 h3 h4 h5 hn (fits2_ok hR) (by rw [ho]) hst hz k
  rw [Nat.zero_add, Nat.zero_add] at this; exact this
theorem ent_has {K : CX} {as : List AV} {n : Nat} (hn : as.length ≤ n) (hcat : ∀ v ∈ as.map (cv K), v.category = 1) : lv_has ((as.map (cv K)).map Slot.val ++ List.replicate (n - as.length) Slot.unset).toArray n (((List.range as.length).zip as).map fun q => (q.1, cv K q.2)) := by
  refine ⟨by simp; omega, ⟨fun i v h hc => ?_, fun i h => ?_⟩, fun q hq => ?_⟩
  · exfalso
    simp only [List.getElem?_toArray] at h
    rcases List.mem_append.mp (List.mem_of_getElem? h) with h1 | h1
    · obtain ⟨w, hw, e⟩ := List.mem_map.mp h1
      cases e
      have := hcat _ hw
      omega
    · have := List.eq_of_mem_replicate h1
      cases this
  · exfalso
    simp only [List.getElem?_toArray] at h
    rcases List.mem_append.mp (List.mem_of_getElem? h) with h1 | h1
    · obtain ⟨w, hw, e⟩ := List.mem_map.mp h1
      cases e
    · have := List.eq_of_mem_replicate h1
      cases this
  · obtain ⟨r, hr, rfl⟩ := List.mem_map.mp hq
    obtain ⟨i, hi⟩ := List.getElem?_of_mem hr
    rw [List.getElem?_zip_eq_some] at hi
    obtain ⟨i1, i2⟩ := hi
    have hlt : i < as.length := (List.getElem?_eq_some_iff.mp i2).1
    rw [List.getElem?_range hlt] at i1
    cases i1
    simp only [List.getElem?_toArray]
    rw [List.getElem?_append_left (by simp; exact hlt)]
    simp [i2]
theorem ent_cat {K : CX} {as : List AV} (ha : (as.all fun v => match v with | .inr (.inr _) => false | _ => true) = true) : ∀ v ∈ as.map (cv K), v.category = 1 := by
  intro v hv
  obtain ⟨w, hw, rfl⟩ := List.mem_map.mp hv
  exact cv_cat1 w (List.all_eq_true.mp ha w hw)
def LQ (S : ShT) (σ : StT) (M : Ms) (i : Int) : Int → ShT → StT → Prop := fun r S' σ' => S' = S ∧ σ' = σ ∧ ∃ m : Nat, A_loose M i = some m ∧ r = (m : Int)
theorem l_body {M : Ms} {i : Int} (hS : SHP S) (h : cT σ M) : AX mX10_loose 0 [(0, vR 1), (1, vI i)] [] S σ 1 6 (ZL (some .int) (LQ S σ M i) S σ (A_loose M i = none)) := by
  have tl : ∀ r : Int, (¬ r = -1 → LQ S σ M i r S σ) → (r = -1 → A_loose M i = none) → AX mX10_loose 19 [(0, vR 1), (1, vI i)] [vI r] S σ 1 6 (ZL (some .int) (LQ S σ M i) S σ (A_loose M i = none)) := by
    intro r k1 k2
    refine xx_istore_n dX10_loose_19 (by decide) rfl rfl ?_
    refine xx_iload_n dX10_loose_20 rfl ?_
    refine xx_iconst dX10_loose_21 ⟨by decide, by decide⟩ ?_
    refine xx_icmp_ne (tgt := 36) dX10_loose_22 rfl (fun c => ?_) (fun c => xx_throw (k2 c))
    exact xx_ret (y := mX10_loose) (r_iload_n dX10_loose_36 rfl (r_iret dX10_loose_37 rfl (k1 c)))
  refine xx_aload_n dX10_loose_0 rfl ?_
  refine xx_getI dX10_loose_1 fl_X10_93 rfl (by rw [k_1 hS]) ?_
  refine xx_if_eq (tgt := 18) dX10_loose_4 rfl (fun c => ?_) (fun c => ?_)
  · refine xx_iconst dX10_loose_18 ⟨by decide, by decide⟩ ?_
    refine tl (-1) (fun c => absurd rfl c) (fun _ => ?_)
    unfold A_loose
    rw [if_neg (fun d => h.dr1 d c)]
  · refine xx_aload_n dX10_loose_7 rfl ?_
    refine xx_getR dX10_loose_8 fl_X10_28 rfl (by rw [k_1 hS]) (by rw [f_1_2 hS]; decide) ?_
    rw [f_1_2 hS]
    refine xx_iload_n dX10_loose_11 rfl ?_
    have d : M.dr = true := h.d c
    have W := h.w d
    have hml := mcn_le M.g
    have h48 : mcn M.g ≤ 48 := by have : M.g.1 ≤ 24 := W.2.1.1.g.1; omega
    refine xx_callVv (z := mX3_looseOne) [vI i] dX10_loose_12 mv_X3_looseOne lk_X10_350 rfl (by decide) (k_7 hS) (Nat.le_of_ble_eq_true rfl) (sp_looseOne (G := M.g) hS isM_a W.2.2.1 h48 (fun k e => ?_) (fun e => ?_))
    · refine xx_goto (tgt := 19) dX10_loose_15 rfl (tl _ (fun _ => ⟨rfl, rfl, k, ?_, rfl⟩) (fun c => by omega))
      unfold A_loose; rw [if_pos d]; exact e
    · refine xx_goto (tgt := 19) dX10_loose_15 rfl (tl _ (fun c => absurd rfl c) (fun _ => ?_))
      unfold A_loose; rw [if_pos d]; exact e
theorem l_loose {M : Ms} {i : Int} {l : Launch} {K : CX} (hS : SHP S) (h : cT σ M) (hl : l.stackTraces = false) : vx_Met l yX10_loose (wsOf mX10_loose) ({ frames := 6, cells := 1, slots := 6, locals := 95 }) (PC K [vR 1, vI i] S σ) (QC K (some .int) (LQ S σ M i)) (XL K S σ (A_loose M i = none)) 1 6 (fun q => K.2.1 ≤ q) := by
  refine vx_ofW (cc := cX10_loose) (maxL := 3) (ret := some .int) (by decide) rfl ?_
  intro p e s m args below meth c s₁ B hml ht hv
  obtain ⟨rfl, hH, hok⟩ := hv
  have hts := atoms_spec (ws := wsOf mX10_loose) B.pre
  have C : Cn mX10_loose p s m ([vR 1, vI i].map (cv K)).toArray meth c := ⟨B.exec, B.bytes, hml, B.returns, B.notSynchronized, findClass_of_methodNamed B.named, (name_of_methodNamed B.named B.method).1, fun w hw => hts w (List.mem_cons_of_mem _ hw)⟩
  have hcat : ∀ v ∈ ([vR 1, vI i] : List AV).map (cv K), v.category = 1 := ent_cat rfl
  rw [entry_eq m (([vR 1, vI i] : List AV).map (cv K)) hcat 3]
  exact l_body (i := i) hS h p l e s m _ below meth c s.heap [] 0 0 1 6 K _ C ⟨fun _ h => (by cases h), hl, by omega, by omega⟩ hH (fun q hq => hok q.2 (List.of_mem_zip (a := q.1) (b := q.2) (l₁ := List.range 2) (l₂ := [vR 1, vI i]) hq).2) (fun _ h => by cases h) (ent_has (as := [vR 1, vI i]) (Nat.le_of_ble_eq_true rfl) hcat) ⟨ht, hH.2.2.2.2.2.1⟩
end XE
