/-! the law's own loose: it catches -/
section LLO
variable {y : ME} {pc : Nat} {ls : List (Nat × AV)} {st : List AV} {S : ShT} {σ : StT} {rc rs : Nat} {Q : Int → ShT → StT → Prop}
theorem r_lst {a n : Nat} {i z : Int} (hd : decode (me_c y) pc = .ok (.lastore, 1)) (hk : S.2.1 a = (3, n)) (h0 : 0 ≤ i) (h1 : i < n) (kk : AW y (pc + 1) ls st S (up2 σ a i.toNat z) rc rs Q) : AW y pc ls (vL z :: vI i :: vR a :: st) S σ rc rs Q := by
  intro p l e s m args below meth c H locs cells slots mc ms K L C B hH hl hs hL
  have hz : inR z := ok_h hs
  have hi : inR i := ok_h (ok_t hs)
  have hr := (hH.2.2.2.2.2.2.2.2 a).2.2.1 (by rw [hk])
  rw [hk] at hr
  obtain ⟨cell, c1, c2, c3, c4, c5⟩ := hr
  refine W.last C.1 C.2.1 c1 c2 c3 (by rw [c4]; exact in_b hi h0 h1) rfl rfl hd (fun H' e1 e2 e3 => ?_)
  have hnew := hH.new (a := a) (by rw [hk]; simp) (by rw [hk]; simp)
  refine kk p l e s m args below meth c H' _ cells slots mc ms K L C ⟨loc_app B.1 hnew.2.2.2, B.2⟩ ?_ hl (ok_t (ok_t (ok_t hs))) hL
  rw [i_cl hi] at e1
  refine HR.set (S := S) (rf := S.2.2) hH (by rw [hk]; simp) (by rw [hk]; simp) e2 e3 (fun b j hb => by simp [up2, hb]) (fun _ _ _ => rfl) (fun j => ?_) ?_
  · unfold up2; split
    · exact hz
    · exact hH.st a j
  · have z' : ((S.1, S.2.1, S.2.2) : ShT).2.1 a = (3, n) := hk
    unfold CR
    rw [z']
    refine ⟨fun w => ?_, fun w => ?_, fun _ => ar_set c2 c3 c4 c5 (by show i.toNat < n; omega) e1 (fun j => ?_), fun w => ?_, fun w => ?_, fun w => ?_, fun ci q _ w => ?_⟩
    rotate_left 2
    · unfold up2
      by_cases e : j = i.toNat <;> simp [e]
    all_goals (exfalso; revert w; simp <;> omega)
theorem AW_rc {rc' rs' : Nat} (h : AW y pc ls st S σ rc rs Q) (h1 : rc ≤ rc') (h2 : rs ≤ rs') : AW y pc ls st S σ rc' rs' Q := by
  intro p l e s m args below meth c H locs cells slots mc ms K L C B
  exact h p l e s m args below meth c H locs cells slots mc ms K L C ⟨B.1, B.2.1, by omega, by omega⟩
end LLO
section LLP
variable {S : ShT} {σ : StT} {Qz : Int → ShT → StT → Prop} {M : Ms} {i : Int}
abbrev hhL : List (Nat × Nat × Nat × Nat) := [(0, 9, 12, 13)]
abbrev wsLL : List Cond := Cond.codeWith yL_loose cL_loose 4 (some .int) hhL :: GB
theorem l_law {l : Launch} {K : CX} (hS : SHP S) (h : cT σ M) (hb : S.1 + 1 < BIG) (h1 : ∀ m : Nat, A_loose M i = some m → Qz 0 S (up2 σ 154 0 (m : Int))) (h0 : A_loose M i = none → Qz 1 S σ) (h0' : A_loose M i = none → Qz 1 (pushC S (0, 0)) (pushZ σ S.1)) (hl : l.stackTraces = false) :
    Met l yL_loose wsLL ({ frames := 7, cells := 1, slots := 6, locals := 117 }) (PC K [vR 1, vI i, vR 154] S σ) (QC K (some .int) Qz) 1 6 (fun q => K.2.1 ≤ q) := by
  refine va_MetW (cc := cL_loose) (maxL := 4) (ret := some .int) (hh := hhL) (by decide) rfl ?_
  intro p e s m args below meth c s₁ B hml hv
  obtain ⟨rfl, hH, hok⟩ := hv
  have hts := atoms_spec (ws := wsLL) B.pre
  have C : Cn mL_loose p s m ([vR 1, vI i, vR 154].map (cv K)).toArray meth c := ⟨B.exec, B.bytes, hml, B.returns, B.notSynchronized, findClass_of_methodNamed B.named, (name_of_methodNamed B.named B.method).1, fun w hw => hts w (List.mem_cons_of_mem _ hw)⟩
  have hgb := C.2.2.2.2.2.2.2
  have htb : c.exceptionTable.toList = tableOf hhL := vx_table (x := yL_loose) B (hts _ List.mem_cons_self)
  have hcat : ∀ v ∈ ([vR 1, vI i, vR 154] : List AV).map (cv K), v.category = 1 := ent_cat rfl
  have hi : inR i := hok (vI i) (by simp)
  rw [entry_eq m (([vR 1, vI i, vR 154] : List AV).map (cv K)) hcat 4]
  have hL := ent_has (K := K) (as := [vR 1, vI i, vR 154]) (n := 4) (Nat.le_of_ble_eq_true rfl) hcat
  suffices key : ∀ L : Array Slot, lv_has L 4 (([(0, vR 1), (1, vI i), (2, vR 154)] : List (Nat × AV)).map fun q => (q.1, cv K q.2)) → W p l e ({ frames := 7, cells := 1, slots := 6, locals := 117 }) s m ([vR 1, vI i, vR 154].map (cv K)).toArray below meth c s.heap [] 0 0 (MQ below (QC K (some .int) Qz) ([vR 1, vI i, vR 154].map (cv K)).toArray s 1 6 (fun q => K.2.1 ≤ q)) (F0 m 0 L []) from key _ hL
  clear hL
  intro L hL'
  have hls : ∀ q ∈ ([(0, vR 1), (1, vI i), (2, vR 154)] : List (Nat × AV)), okV q.2 := by
    intro q hq
    simp at hq
    rcases hq with rfl | rfl | rfl
    · trivial
    · exact hi
    · trivial
  refine lv_aload_n C.1 C.2.1 dL_loose_0 rfl (lv_rd (v := vR 154) hL' rfl) ?_
  refine lv_iconst C.1 C.2.1 dL_loose_1 rfl ?_
  refine lv_aload_n C.1 C.2.1 dL_loose_2 rfl (lv_rd (v := vR 1) hL' rfl) ?_
  refine lv_iload_n C.1 C.2.1 dL_loose_3 rfl (lv_rd (v := vI i) hL' rfl) ?_
  intro T hT X
  obtain ⟨mo1, mi1, ms1, q, hq, hqn⟩ := mv_X10_loose
  obtain ⟨cell, q1, q2, q3, q4⟩ := (hH.2.2.2.2.2.2.2.2 1).2.2.2.2.2.2 10 q hq (by rw [k_1 hS])
  obtain ⟨hSc, hfc, kC, hkC, hkind⟩ := hH.1.1.1 10 _ hq
  have run := vx_runV (p := p) (e := e) (R := { frames := 7, cells := 1, slots := 6, locals := 117 }) (s := s) (m := m) (below := below) (meth := meth) (c := c) (locs := []) (cells := 0) (slots := 0) (bytes := cX10_loose) (maxL := 3) (ret := some .int) (As := [.int (Int32.ofInt i)]) (C := RX10) (n := 1) (ws := wsOf mX10_loose) (b := adr K 1) (rest := [.int (Int32.ofInt 0), .ref (adr K 154)]) (H := s.heap) (g := F0 m 4 L [.int (Int32.ofInt i), .ref (adr K 1), .int (Int32.ofInt 0), .ref (adr K 154)]) (own := RL) (index := 7) ⟨C.1, C.2.1, C.2.2.1, C.2.2.2.2.2.1, hgb⟩ (l_loose (i := i) (K := K) hS h hl)
    ⟨callB_of 1 hgb (gb_good (mo_ws mo1)) rfl rfl rfl (hgb _ mo1.2.1) (hgb _ lk_L_7) ⟨mo1.2.2.1, mo1.2.2.2.1, mo1.2.2.2.2⟩ ⟨Nat.le_of_ble_eq_true rfl, Nat.le_of_ble_eq_true rfl⟩, hgb _ mi1, hgb _ ms1⟩
    ⟨pc_blind, ⟨cell, q1, by rw [q3]; rfl, by rw [q2, ← show q.1 = RX10 from hqn]; exact hfc⟩, fun U hU hW => ⟨rfl, by rw [hU]; exact hH.warm hW, ok_c (v := vR 1) trivial (ok_c (v := vI i) hi (fun _ h => by cases h))⟩⟩
    rfl rfl hL'.1 rfl (Nat.le_of_ble_eq_true rfl) dL_loose_4 ⟨Nat.le_of_ble_eq_true rfl, Nat.le_of_ble_eq_true rfl⟩ T hT X
  rcases run with ⟨v, st₀, t, T', L2, z0, X', hL2, e1, e2, ⟨r, S', σ', ⟨rfl, rfl, k, ek, rfl⟩, hv, hir, hR⟩, go⟩ | ⟨q9, st₀, t, T', L2, E, ce, z0, X', hL2, e1, e2, hx, hce, hcv, hcl, st⟩
  · cases hv
    have hal : s.vm.Alike t.vm := by rw [← e2]; exact X'.warmed.alike
    have aw : AW mL_loose 7 [(0, vR 1), (1, vI i), (2, vR 154)] [vI (k : Int), vI 0, vR 154] S' σ' 0 0 Qz := by
      refine r_i2l dL_loose_7 ?_
      refine r_lst dL_loose_8 (k_154 hS) (by decide) (by decide) ?_
      refine r_goto (tgt := 15) dL_loose_9 rfl ?_
      refine r_iconst dL_loose_15 ⟨by decide, by decide⟩ ?_
      exact r_iret dL_loose_16 rfl (h1 k ek)
    obtain ⟨t2, a1, b1⟩ := aw p l e s m _ below meth c T'.heap ([] ++ L2) (0 + 1) (0 + 6) 1 6 K L C ⟨fun q hq => hL2 q (by simpa using hq), hl, by omega, by omega⟩ ⟨hH.1, by rw [e1]; exact hR.2.moved hal.symm⟩ hls (ok_c hir (ok_c (v := vI 0) inR_0 (ok_c (v := vR 154) trivial (fun _ h => by cases h)))) hL' T' rfl X'
    exact ⟨t2, go t2 a1, b1⟩
  · obtain ⟨rfl, hn, H1, hc1, hz1, hz2⟩ := hx
    have hal : s.vm.Alike t.vm := by rw [← e2]; exact X'.warmed.alike
    have hsz : T'.heap.size ≤ s.heap.size + (0 + 1) := X'.same.2.2.1
    have hH1 : HR K s S σ H1 := ⟨hH.1, hc1.moved hal.symm⟩
    have k1 : H1.size = K.2.1 + S.1 - 1 := hc1.2.2.2.1
    have k2 : s.heap.size = K.2.1 + S.1 - 1 := hH.2.2.2.2.1
    have hfin : ∃ (S' : ShT) (σ' : StT), HR K s S' σ' T'.heap ∧ Qz 1 S' σ' := by
      by_cases c0 : T'.heap.size = H1.size
      · refine ⟨S, σ, ?_, h0 hn⟩
        have : T'.heap = H1 := by
          apply Array.ext_getElem?
          intro q
          by_cases c1 : q < H1.size
          · rw [e1]; exact hz2 q c1
          · rw [Array.getElem?_eq_none (by omega), Array.getElem?_eq_none (by omega)]
        rw [this]; exact hH1
      · refine ⟨pushC S (0, 0), pushZ σ S.1, ?_, h0' hn⟩
        refine HR.push (kd := (0, 0)) hH1 (by decide) hb (by rw [← e1] at hz1; omega) (fun q c1 => by rw [e1]; exact hz2 q c1) ?_
        unfold CR
        simp only [if_true]
        refine ⟨fun w => ?_, fun w => ?_, fun w => ?_, fun w => ?_, fun w => ?_, fun w => ?_, fun ci q _ w => ?_⟩ <;> exfalso <;> omega
    obtain ⟨S', σ', hR', hq'⟩ := hfin
    have kk : vx_W p l e ({ frames := 7, cells := 1, slots := 6, locals := 117 }) s m ([vR 1, vI i, vR 154].map (cv K)).toArray below meth c T'.heap ([] ++ L2) (0 + 1) (0 + 6) (MQ below (QC K (some .int) Qz) ([vR 1, vI i, vR 154].map (cv K)).toArray s 1 6 (fun q => K.2.1 ≤ q)) (F0 m 4 L [.int (Int32.ofInt 0), .ref (adr K 154)]) q9 := by
      refine vx_catch (own := RL) (name := nsE) (E := nsE) (ce := ce) C.2.2.2.2.2.1 [] ⟨0, 9, 12, 13⟩ [] htb (fun z hz => by cases hz) (by decide) (by decide) (hgb _ w_ns3) (va_Nw.use rfl hH.1.2.2.2.2.1.1) (by rw [e1]; exact hce) hcv hcl ?_
      refine lv_astore_n C.1 C.2.1 dL_loose_12 rfl hL' (by decide) rfl (fun L3 hL3 => ?_)
      have aw : AW mL_loose 13 [(0, vR 1), (1, vI i), (2, vR 154)] [] S' σ' 0 0 Qz := r_iconst dL_loose_13 ⟨by decide, by decide⟩ (r_iret dL_loose_14 rfl hq')
      refine aw p l e s m _ below meth c T'.heap ([] ++ L2) (0 + 1) (0 + 6) 1 6 K L3 C ⟨fun q hq => hL2 q (by simpa using hq), hl, by omega, by omega⟩ hR' hls (fun _ h => by cases h) (lv_more hL3 (fun q hq => List.mem_cons_of_mem _ (List.mem_filter.mpr ⟨hq, ?_⟩)))
      simp at hq
      rcases hq with rfl | rfl | rfl <;> rfl
    obtain ⟨t2, a1, b1⟩ := kk T' rfl X'
    exact ⟨t2, st.trans a1, b1⟩
theorem w_ll : Cond.codeWith yL_loose cL_loose 4 (some .int) hhL ∈ GB ∧ Cond.initialized RL ∈ GB ∧ Cond.static yL_loose ∈ GB := ⟨gb_in (by decide +kernel) (by decide +kernel), gb_in (by decide +kernel) (by decide +kernel), gb_in (by decide +kernel) (by decide +kernel)⟩
/-- the law calls it -/
theorem r_lawloose {ls : List (Nat × AV)} {rc rs : Nat} {Q : Int → ShT → StT → Prop} (hS : SHP S) (h : cT σ M) (hb : S.1 + 1 < BIG) (h1 : ∀ m : Nat, A_loose M i = some m → AW mL_law 1202 ls [vI 0] S (up2 σ 154 0 (m : Int)) rc rs Q) (h0 : A_loose M i = none → AW mL_law 1202 ls [vI 1] S σ rc rs Q) (h0' : A_loose M i = none → AW mL_law 1202 ls [vI 1] (pushC S (0, 0)) (pushZ σ S.1) rc rs Q) : AW mL_law 1199 ls [vR 154, vI i, vR 1] S σ (1 + rc) (6 + rs) Q := by
  intro p l e s m args below meth c H locs cells slots mc ms K L C B hH hl' hs hL
  have hts := C.2.2.2.2.2.2.2
  have hi : inR i := hs (vI i) (by simp)
  refine r_back (z := mL_loose) (as := [vR 1, vI i, vR 154]) (stk := []) (st := []) (Qz := fun r S' σ' => AW mL_law 1202 ls [vI r] S' σ' rc rs Q) C B hH hl' (fun _ h => by cases h) hL (fun r S' σ' h => h) (vx_runSW (hh := hhL) (bytes := cL_loose) (maxL := 4) (ret := some .int) (As := [vR 1, vI i, vR 154].map (cv K)) (n := 3) (ws := wsLL) (own := RL) (index := 164) (y := yL_loose) ⟨C.1, C.2.1, C.2.2.1, C.2.2.2.2.2.1, hts⟩ (l_law (K := K) hS h hb h1 h0 h0' B.2.1) ?_ ?_ rfl rfl hL.1 rfl (Nat.le_of_ble_eq_true rfl) dL_law_1199 ⟨by show cells + 1 ≤ mc; omega, by show slots + 6 ≤ ms; omega⟩)
  · refine ⟨⟨rfl, rfl, Nat.le_of_ble_eq_true rfl, Nat.le_of_ble_eq_true rfl, pay_in hts (gb_good (fun w hw => (List.mem_cons.mp hw).elim (fun e => e ▸ w_ll.1) id)), List.mem_cons_self⟩, hts _ w_ll.1, hts _ w_ll.2.1, ⟨by decide, by decide⟩, fun sig hsig => ?_, hts _ lk_L_164, hts _ w_ll.2.2⟩
    have h2 : (parseMethodDescriptor yL_loose.desc).map (fun d => d.parameters.length) = some 3 := by decide +kernel
    rw [hsig] at h2
    exact (Option.some.inj h2).symm
  · exact ⟨pc_blind, fun U hU hW => ⟨rfl, by rw [hU]; exact hH.warm hW, ok_c (v := vR 1) trivial (ok_c (v := vI i) hi (ok_c (v := vR 154) trivial (fun _ h => by cases h)))⟩⟩
end LLP
