/-! loose throws -/
section XT
variable {S : ShT} {σ : StT} {Q : Int → ShT → StT → Prop}
theorem xx_ret {y : ME} {pc : Nat} {ls : List (Nat × AV)} {st : List AV} {rc rs : Nat} {S0 : ShT} {σ0 : StT} {P : Prop} (k : AW y pc ls st S σ rc rs Q) : AX y pc ls st S σ rc rs (ZL (me_r y) Q S0 σ0 P) := by
  intro p l e s m args below meth c H locs cells slots mc ms K L C B hH hl hs hL hE
  exact vx_ret (k p l e s m args below meth c H locs cells slots mc ms K L C B hH hl hs hL)
theorem xx_throw {P : Prop} {ls : List (Nat × AV)} (hP : P) : AX mX10_loose 25 ls [] S σ 1 6 (ZL (some .int) Q S σ P) := by
  intro p l e s m args below meth c H locs cells slots mc ms K L C B hH hl0 hs0 hL hE T hT X
  have hts := C.2.2.2.2.2.2.2
  have hexec := C.1
  have hl := B.2.1
  have hRc : cells + 1 ≤ mc := B.2.2.1
  have hRs : slots + 6 ≤ ms := B.2.2.2
  have hkp : ∀ q : Nat, q < K.2.2.2.size → ¬ (K.2.1 ≤ q) → s.heap[q]? = K.2.2.2[q]? := fun q _ h => hE.2 q (by omega)
  have hS : va_S (fun q => K.2.1 ≤ q) s.heap H locs := by
    refine ⟨by rw [← hT]; exact X.same.2.1, fun q h1 h2 => ?_, B.1⟩
    rw [hH.2.2.2.2.2.1 q (by omega), hE.2 q (by omega)]
  have hU := hH.1.2.2.2.2.2.1.kept hkp
  have hN := hH.1.2.2.2.2.2.2.1.kept hkp
  have hat : ∀ w ∈ oaN, w.before args s = true := vx_hat (fun w hw => hts w (gb_in (w_ns4 w hw) (List.mem_filter.mp hw).2)) w_ns5 (vx_c (va_Nw.use rfl hH.1.2.2.2.2.1.1) (vx_c (decl_of (hts _ w_ns7.1.1) (hts _ w_ns7.1.2)) (vx_c (decl_of (hts _ w_ns7.2.1.1) (hts _ w_ns7.2.1.2)) (vx_c (decl_of (hts _ w_ns7.2.2.1) (hts _ w_ns7.2.2.2)) vx_n))))
  have htr : e.platform.stackTraces = false := (show e.platform.stackTraces = l.stackTraces by rw [X.admits.platform]).trans hl
  have Y := vx_rebase X (R' := { frames := 6, locals := 95, cells := 1, slots := 6 }) (Nat.le_refl _) (Nat.le_refl _) hRc hRs
  obtain ⟨s', hA⟩ : ∃ z, z = (T.setVm s.vm).setFrames (.invoking m args :: below) := ⟨_, rfl⟩
  rw [← hA] at Y
  have hvm : s'.vm = s.vm := by rw [hA]; rfl
  have hhp : s'.heap = H := by rw [hA]; exact hT
  have hW0 : s.WarmedH s'.vm := by rw [hvm]; exact State.WarmedH.refl s
  have hat' : ∀ w ∈ oaN, w.before args s' = true := fun w hw => vx_ot_at hW0 hvm.symm (w_ns6 w (List.mem_cons_of_mem _ (List.mem_cons_of_mem _ hw))) (hat w hw)
  have hk' : (Cond.classLink RX10 350 nsE).before args s' = true := vx_ot_at hW0 hvm.symm (w_ns6 _ List.mem_cons_self) (hts _ w_ns1)
  have hini' : (Cond.initialized nsE).before args s' = true := vx_ot_at hW0 hvm.symm (w_ns6 _ (List.mem_cons_of_mem _ List.mem_cons_self)) (hts _ w_ns2)
  have hU' : vx_Zq Bundle.tN "UNASSIGNED_STACK" Bundle.steD (fun q => K.2.1 ≤ q) s' s'.heap := by rw [hhp]; exact vx_Zq.moved hW0.alike (hU.kept hS.2.1)
  have hN' : vx_Zq Bundle.tN "SUPPRESSED_SENTINEL" Bundle.listD (fun q => K.2.1 ≤ q) s' s'.heap := by rw [hhp]; exact vx_Zq.moved hW0.alike (hN.kept hS.2.1)
  have h : ∀ w ∈ oaX, w.before args s' = true := vx_own hat' (vx_isRefq hU'.1) (vx_isRefq hN'.1) hU'.2.word hN'.2.word
  have hown' : s'.vm.findClass RX10 = some m.cls := by rw [hvm]; exact C.2.2.2.2.2.1
  have hins : (Cond.instantiable nsE 6).before args s' = true := h _ (by simp [oaX])
  obtain ⟨vm₁, cX, kX, hfX, hkX, -, -, X₁, st1⟩ := Y.newCold hexec (own := RX10) (C := nsE) (index := 350) (n := 6) hown' hk' hins hini'
    (g := F0 m 25 L []) rfl (by rw [C.2.1]; exact dX10_loose_25) (Nat.le_refl _) (Nat.le_refl _)
  generalize hT1 : (T.setVm vm₁).pushCell { cls := cX, slots := kX.instanceTypes.map defaultValue, vm := .none } = T1 at X₁ st1
  have hcat : (Value.ref T.heap.size).category = 1 := rfl
  have hcellA : T1.heap[T.heap.size]? = some (freshCell cX kX) := by rw [← hT1]; exact State.heap_pushCell_size _ _
  have d3' : decode c.code 28 = .ok (.dup, 1) := by rw [C.2.1]; exact dX10_loose_28
  have d4' : decode c.code 29 = .ok (.ldc_w 352, 3) := by rw [C.2.1]; exact dX10_loose_29
  have hstr' : vk_R RX10 352 "no such loose meeting" (K.2.2.1 (BIG + 1 + 12)) s' := vk_R.warm hW0 (hH.1.2.2.1 12 _ rfl)
  obtain ⟨U, hsteps, hrun, hend, hW, hsame, ce, hce, hcl0, hcv⟩ := xt_ctor X₁ hexec htr hown' h hfX hkX hcellA (by rw [hhp, hT]; exact Nat.le_refl _) (msg := .ref (K.2.2.1 (BIG + 1 + 12))) rfl
    (g := { method := m, pc := 32, locals := L, stack := .ref (K.2.2.1 (BIG + 1 + 12)) :: .ref T.heap.size :: .ref T.heap.size :: [], locked := none }) rfl (hL.1.trans C.2.2.1.symm) rfl rfl (rest := []) rfl
    (by rw [C.2.1]; exact dX10_loose_32) (by rw [C.2.1]; exact dX10_loose_35) (fun x hx => (hE.1 x hx).elim) (by decide) (by decide) C.2.2.2.2.1
  obtain ⟨f1, f2⟩ := vx_frame hsame
  rw [hhp] at f1 f2
  have hWs : s.WarmedH U.vm := State.WarmedH.trans hW0 hW
  have hcl : s.vm.findClass nsE = some ce.cls := by rw [hvm] at hcl0; exact hcl0
  have hall : s.sameButNew ({ U with vm := s.vm } : State) locs mc ms := by
    subst hA
    obtain ⟨e1, e2⟩ := hsame
    rw [State.setFrames_setFrames] at e1
    have h2 : (T.setVm s.vm).sameButNew ({ U with vm := s.vm } : State) [] (0 + 1) (0 + 6) := ⟨e1, e2⟩
    have h3 := X.same.trans h2
    rw [List.append_nil] at h3
    exact h3.mono hRc hRs
  refine ⟨U, ?_, .threw T.heap.size, hrun, hend, Or.inr ⟨T.heap.size, rfl, nsE, ce, locs, ⟨rfl, hP, H, hH.2.moved hWs.alike, f1, fun q hq => f2 q hq (fun z hz => nomatch hz)⟩, hce, hcv, hcl, hWs, hall, B.1⟩⟩
  refine st1 _ ?_
  show Steps p.tables e below (T1.setTop { method := m, pc := 28, locals := L, stack := .ref T.heap.size :: [], locked := none }) _
  jvm_step X₁.here [X₁.here.top, hexec, d3', Value.category]
  exact X₁.ldcStringW hexec (own := RX10) (text := "no such loose meeting") (index := 352) (a := K.2.2.1 (BIG + 1 + 12)) hown' hstr'.1 hstr'.2
    (g := { method := m, pc := 29, locals := L, stack := .ref T.heap.size :: .ref T.heap.size :: [], locked := none }) rfl d4' _ hsteps
end XT
