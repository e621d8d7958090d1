/-! loose: the class's call that may throw, and the law's that catches it -/
section LSA
variable {S : ShT} {σ : StT}
noncomputable def lsP (G : Geo) (i : Int) : Nat → Bool := fun m => decide (ecn G m = 1) && decide ((cnt (fun x => decide (ecn G x = 1)) m : Int) = i)
theorem sp_looseOne {m dr : Nat} {G : Geo} {i : Int} {Q : Int → StT → Prop} (hS : SHP S) (hm : isM m dr) (h : atM σ m G) (h48 : mcn G ≤ 48) (h1 : ∀ k : Nat, fst1 (lsP G i) (mcn G) = some k → Q (k : Int) σ) (h0 : fst1 (lsP G i) (mcn G) = none → Q (-1) σ) : WPs mX3_looseOne [vR m, vI i] S σ Q := by
  have e26 : σ (m + 1) 2 = mcn G := h.1.1
  refine e_X3_looseOne hS hm ?_
  refine lupg (α := Int) (I := fun k x => 0 ≤ k ∧ k ≤ (mcn G : Int) ∧ x = (cnt (fun x => decide (ecn G x = 1)) k.toNat : Int) ∧ ∀ y : Nat, (y : Int) < k → lsP G i y = false) (W := fun k x => AWs mX3_looseOne 4 [(0, vR m), (1, vI i), (2, vI x), (3, vI k)] [] S σ Q) (mcn G : Int) ?_ ?_ 0 0 ⟨by omega, by omega, rfl, fun y hy => by omega⟩
  · rintro k x ⟨k0, k1, rfl, k3⟩ hge
    refine t_X3_looseOne_4 hS hm ?_
    rw [e26]
    exact ⟨fun _ => h0 (fst1_no (fun y hy => k3 y (by omega))), fun c => absurd hge c⟩
  · rintro k x ⟨k0, k1, rfl, k3⟩ hlt kk
    obtain ⟨k, rfl⟩ := nat_of k0
    have hk : k < mcn G := by omega
    have hs := cnt_s (fun x => decide (ecn G x = 1)) k
    have hle := cnt_le (fun x => decide (ecn G x = 1)) k
    refine t_X3_looseOne_4 hS hm ?_
    rw [e26, tn_cast, h.2.2.1 k hk]
    refine ⟨fun c => absurd c (by omega), fun _ => ⟨⟨by omega, by omega⟩, fun c => ⟨inR_s (by omega) (by omega), kk _ ⟨by omega, by omega, ?_, fun y hy => ?_⟩⟩, fun c => ⟨fun c2 => ⟨inR_s (by omega) (by omega), inR_s (by omega) (by omega), kk _ ⟨by omega, by omega, ?_, fun y hy => ?_⟩⟩, fun c2 => ?_⟩⟩⟩
    · rw [show ((k : Int) + 1).toNat = k + 1 from rfl, hs, if_neg (by simp; omega)]; rfl
    · by_cases e : y = k
      · subst e; unfold lsP; rw [decide_eq_false (by omega)]; rfl
      · exact k3 y (by omega)
    · rw [show ((k : Int) + 1).toNat = k + 1 from rfl, hs, if_pos (by simp; omega)]; rfl
    · by_cases e : y = k
      · subst e; unfold lsP; rw [decide_eq_false (show ¬ (cnt (fun x => decide (ecn G x = 1)) y : Int) = i from c2)]; simp
      · exact k3 y (by omega)
    · exact h1 k (fst1_is hk (by unfold lsP; rw [decide_eq_true (show ecn G k = 1 by omega), decide_eq_true c2]; rfl) (fun y hy => k3 y (by omega)))
end LSA
/-- no handlers; what lay before lies there still -/
def EX (K : CX) (s : State) (c : Code) : Prop := (∀ x ∈ c.exceptionTable.toList, False) ∧ ∀ q : Nat, q < K.2.1 → s.heap[q]? = K.2.2.2[q]?
abbrev ZT : Type := CX → List Frame → Array Value → State → Nat → Nat → State → Prop
def AX (y : ME) (pc : Nat) (ls : List (Nat × AV)) (st : List AV) (S : ShT) (σ : StT) (rc rs : Nat) (Z : ZT) : Prop :=
  ∀ (p : Program) (l : Launch) (e : Env) (s : State) (m : MethodId) (args : Array Value) (below : List Frame) (meth : Method) (c : Code) (H : Heap) (locs : List Loc) (cells slots mc ms : Nat) (K : CX) (L : Array Slot),
    Cn y p s m args meth c → ((∀ q ∈ locs, K.2.1 ≤ q.base) ∧ l.stackTraces = false ∧ cells + rc ≤ mc ∧ slots + rs ≤ ms) → HR K s S σ H → (∀ q ∈ ls, okV q.2) → (∀ v ∈ st, okV v) → lv_has L (me_l y) (ls.map fun q => (q.1, cv K q.2)) → EX K s c →
    W p l e ({ frames := me_f y, cells := mc, slots := ms, locals := me_w y }) s m args below meth c H locs cells slots (Z K below args s mc ms) (F0 m pc L (st.map (cv K)))
section XROWS
variable {y : ME} {pc : Nat} {ls : List (Nat × AV)} {st : List AV} {S : ShT} {σ : StT} {rc rs : Nat} {Q : ZT}
theorem xx_iconst {n : Int} (hd : decode (me_c y) pc = .ok (.iconst n, 1)) (hn : inR n) (k : AX y (pc + 1) ls (vI n :: st) S σ rc rs Q) : AX y pc ls st S σ rc rs Q := by
  intro p l e s m args below meth c H locs cells slots mc ms K L C B hH hl hs hL hE
  exact lv_iconst C.1 C.2.1 hd rfl (k p l e s m args below meth c H locs cells slots mc ms K L C B hH hl (ok_c hn hs) hL hE)
theorem xx_iload_n {z : Int} {k : Fin 4} (hd : decode (me_c y) pc = .ok (.iload_n k, 1)) (hg : lget ls k = some (vI z)) (kk : AX y (pc + 1) ls (vI z :: st) S σ rc rs Q) : AX y pc ls st S σ rc rs Q := by
  intro p l e s m args below meth c H locs cells slots mc ms K L C B hH hl hs hL hE
  exact lv_iload_n C.1 C.2.1 hd rfl (lv_rd hL hg) (kk p l e s m args below meth c H locs cells slots mc ms K L C B hH hl (ok_c (hl _ (lget_mem hg)) hs) hL hE)
theorem xx_aload_n {a : Nat} {k : Fin 4} (hd : decode (me_c y) pc = .ok (.aload_n k, 1)) (hg : lget ls k = some (vR a)) (kk : AX y (pc + 1) ls (vR a :: st) S σ rc rs Q) : AX y pc ls st S σ rc rs Q := by
  intro p l e s m args below meth c H locs cells slots mc ms K L C B hH hl hs hL hE
  exact lv_aload_n C.1 C.2.1 hd rfl (lv_rd hL hg) (kk p l e s m args below meth c H locs cells slots mc ms K L C B hH hl (ok_c trivial hs) hL hE)
theorem xx_istore_n {z : Int} {k : Fin 4} {ls' : List (Nat × AV)} (hd : decode (me_c y) pc = .ok (.istore_n k, 1)) (hn : (k : Nat) < me_l y) (hno : noL ls = true) (hls : lset ls k (vI z) = ls') (kk : AX y (pc + 1) ls' st S σ rc rs Q) : AX y pc ls (vI z :: st) S σ rc rs Q := by
  intro p l e s m args below meth c H locs cells slots mc ms K L C B hH hl hs hL hE
  obtain ⟨hz, hs⟩ := List.forall_mem_cons.mp hs
  refine lv_istore_n C.1 C.2.1 hd rfl hL hn rfl (fun L' hL' => ?_)
  exact kk p l e s m args below meth c H locs cells slots mc ms K L' C B hH (hls ▸ lset_ok hl hz) hs (hls ▸ lv_wr (v := vI z) hL' (noL_cat hno)) hE
theorem xx_if_eq {a off : Int} {tgt : Nat} (hd : decode (me_c y) pc = .ok (.ifCond .eq off, 3)) (ht : (pc : Int) + off = (tgt : Int)) (kt : a = 0 → AX y tgt ls st S σ rc rs Q) (kf : ¬ (a = 0) → AX y (pc + 3) ls st S σ rc rs Q) : AX y pc ls (vI a :: st) S σ rc rs Q := by
  intro p l e s m args below meth c H locs cells slots mc ms K L C B hH hl hs hL hE
  have ha : inR a := ok_h hs
  have iff1 := i_eq ha inR_0
  exact lv_if_eq C.1 C.2.1 hd ht (fun h => (kt (iff1.mp h)) p l e s m args below meth c H locs cells slots mc ms K L C B hH hl (ok_t hs) hL hE) (fun h => (kf (fun q => h (iff1.mpr q))) p l e s m args below meth c H locs cells slots mc ms K L C B hH hl (ok_t hs) hL hE)
theorem xx_icmp_ne {a b off : Int} {tgt : Nat} (hd : decode (me_c y) pc = .ok (.if_icmp .ne off, 3)) (ht : (pc : Int) + off = (tgt : Int)) (kt : ¬ a = b → AX y tgt ls st S σ rc rs Q) (kf : a = b → AX y (pc + 3) ls st S σ rc rs Q) : AX y pc ls (vI b :: vI a :: st) S σ rc rs Q := by
  intro p l e s m args below meth c H locs cells slots mc ms K L C B hH hl hs hL hE
  have hb : inR b := ok_h hs
  have ha : inR a := ok_h (ok_t hs)
  have iff1 := (not_congr (i_eq ha hb))
  exact lv_icmp_ne C.1 C.2.1 hd ht (fun h => (kt (iff1.mp h)) p l e s m args below meth c H locs cells slots mc ms K L C B hH hl (ok_t (ok_t hs)) hL hE) (fun h => (kf ((i_eq ha hb).mp h)) p l e s m args below meth c H locs cells slots mc ms K L C B hH hl (ok_t (ok_t hs)) hL hE)
theorem xx_goto {off : Int} {tgt : Nat} (hd : decode (me_c y) pc = .ok (.goto off, 3)) (ht : (pc : Int) + off = (tgt : Int)) (k : AX y tgt ls st S σ rc rs Q) : AX y pc ls st S σ rc rs Q := by
  intro p l e s m args below meth c H locs cells slots mc ms K L C B hH hl hs hL hE
  exact lv_goto C.1 C.2.1 hd ht (k p l e s m args below meth c H locs cells slots mc ms K L C B hH hl hs hL hE)
theorem xx_getI {o ci k ix : Nat} (hd : decode (me_c y) pc = .ok (.getfield ix, 3)) (hf : FL (me_n y).cls ix ci k) (hty : isRf (clTy ci k) = false) (ho : (S.2.1 o).1 = 10 + ci) (kk : AX y (pc + 3) ls (vI (σ o k) :: st) S σ rc rs Q) : AX y pc ls (vR o :: st) S σ rc rs Q := by
  intro p l e s m args below meth c H locs cells slots mc ms K L C B hH hl hs hL hE
  obtain ⟨q, hq, hk, hw⟩ := hf
  obtain ⟨cell, q1, q2, q3, q4⟩ := (hH.2.2.2.2.2.2.2.2 o).2.2.2.2.2.2 ci q hq ho
  obtain ⟨hS, hfc, kC, hkC, hkind⟩ := hH.1.1.1 ci _ hq
  obtain ⟨cf, kf, fi, f, hi, hsl⟩ := hS k hk
  refine W.getf C.1 C.2.1 C.2.2.2.2.2.1 (C.2.2.2.2.2.2.2 _ hw) hi (u_facts hfc hkC (u_lays C.2.2.2.2.2.2.2 (cl_ok hq).2.2 hk) hi).1 q1 (by rw [q3]; exact fun h => by cases h) (v := .int (Int32.ofInt (σ o k))) ?_ rfl rfl hd (kk p l e s m args below meth c H locs cells slots mc ms K L C B hH hl (ok_c (hH.st o k) (ok_t hs)) hL hE)
  rw [hsl, q4 k hk]
  simp [fv, hty]
theorem xx_getR {o ci k ix : Nat} (hd : decode (me_c y) pc = .ok (.getfield ix, 3)) (hf : FL (me_n y).cls ix ci k) (hty : isRf (clTy ci k) = true) (ho : (S.2.1 o).1 = 10 + ci) (hne : S.2.2 o k ≠ 0) (kk : AX y (pc + 3) ls (vR (S.2.2 o k) :: st) S σ rc rs Q) : AX y pc ls (vR o :: st) S σ rc rs Q := by
  intro p l e s m args below meth c H locs cells slots mc ms K L C B hH hl hs hL hE
  obtain ⟨q, hq, hk, hw⟩ := hf
  obtain ⟨cell, q1, q2, q3, q4⟩ := (hH.2.2.2.2.2.2.2.2 o).2.2.2.2.2.2 ci q hq ho
  obtain ⟨hS, hfc, kC, hkC, hkind⟩ := hH.1.1.1 ci _ hq
  obtain ⟨cf, kf, fi, f, hi, hsl⟩ := hS k hk
  refine W.getf C.1 C.2.1 C.2.2.2.2.2.1 (C.2.2.2.2.2.2.2 _ hw) hi (u_facts hfc hkC (u_lays C.2.2.2.2.2.2.2 (cl_ok hq).2.2 hk) hi).1 q1 (by rw [q3]; exact fun h => by cases h) (v := .ref (adr K (S.2.2 o k))) ?_ rfl rfl hd (kk p l e s m args below meth c H locs cells slots mc ms K L C B hH hl (ok_c (v := vR _) trivial (ok_t hs)) hL hE)
  rw [hsl, q4 k hk]
  simp [fv, hty, fcv, hne]
theorem xx_back {z : ME} {as : List AV} {rc' rs' : Nat} {stk : List AV} {stk' : List Value} {p : Program} {l : Launch} {e : Env} {s : State} {m : MethodId} {args : Array Value} {below : List Frame} {meth : Method} {c : Code} {H : Heap} {locs : List Loc} {cells slots mc ms : Nat} {K : CX} {L : Array Slot} {a : Array Value}
    (C : Cn y p s m args meth c) (B : (∀ q ∈ locs, K.2.1 ≤ q.base) ∧ l.stackTraces = false ∧ cells + (rc' + rc) ≤ mc ∧ slots + (rs' + rs) ≤ ms) (hH : HR K s S σ H) (hl : ∀ q ∈ ls, okV q.2) (hs : ∀ v ∈ st, okV v) (hL : lv_has L (me_l y) (ls.map fun q => (q.1, cv K q.2))) (hE : EX K s c)
    {Qz : Int → ShT → StT → Prop} (hz : ∀ r S' σ', Qz r S' σ' → AX y (pc + 3) ls (prt (me_r z) r st) S' σ' rc rs Q)
    (hr : va_Run p l e ({ frames := me_f y, cells := mc, slots := ms, locals := me_w y }) s m args below meth c H locs cells slots rc' rs' (F0 m pc L stk') (st.map (cv K)) (QC K (me_r z) Qz a) (fun q => K.2.1 ≤ q)) :
    W p l e ({ frames := me_f y, cells := mc, slots := ms, locals := me_w y }) s m args below meth c H locs cells slots (Q K below args s mc ms) (F0 m pc L stk') := by
  intro T hT X
  obtain ⟨v, st₀, t, T', L', h0, X', hL', e1, e2, ⟨r, S', σ', hq, hv, hir, hR⟩, go⟩ := hr T hT X
  cases hv
  have hal : s.vm.Alike t.vm := by rw [← e2]; exact X'.warmed.alike
  have hst : ((rv (me_r z) r).toList ++ st.map (cv K)) = (prt (me_r z) r st).map (cv K) := by
    unfold rv prt
    cases me_r z <;> rfl
  have hok : ∀ v ∈ prt (me_r z) r st, okV v := by
    unfold prt
    cases me_r z
    · exact hs
    · exact ok_c hir hs
  obtain ⟨t2, a1, b1⟩ := hz r S' σ' hq p l e s m args below meth c T'.heap (locs ++ L') (cells + rc') (slots + rs') mc ms K L C ⟨fun q hq => (List.mem_append.mp hq).elim (B.1 q) (hL' q), B.2.1, by omega, by omega⟩ ⟨hH.1, by rw [e1]; exact hR.2.moved hal.symm⟩ hl hok hL hE T' rfl X'
  refine ⟨t2, go t2 ?_, b1⟩
  show Steps p.tables e below (T'.setTop { method := m, pc := pc + 3, locals := L, stack := (rv (me_r z) r).toList ++ st.map (cv K), locked := none }) t2
  rw [hst]
  exact a1
theorem xx_callV {z : ME} {as : List AV} {o ci n ix rc' rs' : Nat} {q : vw_C} (hd : decode (me_c y) pc = .ok (.invokevirtual ix, 3)) (hm : MO z n) (hl : Cond.methodLink (me_n y).cls ix (me_n z) ∈ GB) (hi : Cond.instanceMethod (me_n z) ∈ GB) (hse : Cond.selects (me_n z).cls (me_n z) (me_n z) ∈ GB) (hq : vwCl[ci]? = some q) (hqn : q.1 = (me_n z).cls) (hn : as.length = n) (hR : me_f z + 1 ≤ me_f y ∧ 8 + (me_l z + 11) + me_w z ≤ me_w y) (ho : (S.2.1 o).1 = 10 + ci) (hst : (st.map vcat).sum ≤ 8)
    {Qz : Int → ShT → StT → Prop} (hz : ∀ r S' σ', Qz r S' σ' → AX y (pc + 3) ls (prt (me_r z) r st) S' σ' rc rs Q) (k : WPm z (vR o :: as) S σ rc' rs' Qz) : AX y pc ls (as.reverse ++ vR o :: st) S σ (rc' + rc) (rs' + rs) Q := by
  intro p l e s m args below meth c H locs cells slots mc ms K L C B hH hl' hs hL hE
  have hts := C.2.2.2.2.2.2.2
  obtain ⟨cell, q1, q2, q3, q4⟩ := (hH.2.2.2.2.2.2.2.2 o).2.2.2.2.2.2 ci q hq ho
  obtain ⟨hS, hfc, kC, hkC, hkind⟩ := hH.1.1.1 ci _ hq
  have hs1 : ∀ v ∈ as, okV v := fun v hv => hs v (List.mem_append_left _ (List.mem_reverse.mpr hv))
  have hs2 : ∀ v ∈ st, okV v := fun v hv => hs v (List.mem_append_right _ (List.mem_cons_of_mem _ hv))
  have hstk : (as.reverse ++ vR o :: st).map (cv K) = (as.map (cv K)).reverse ++ .ref (adr K o) :: st.map (cv K) := by simp [cv]
  rw [hstk]
  refine xx_back (z := z) (as := as) (stk := []) C B hH hl' hs2 hL hE hz (va_runV (bytes := me_c z) (maxL := me_l z) (ret := me_r z) (As := as.map (cv K)) (C := (me_n z).cls) (n := n) (ws := wsOf z) ⟨C.1, C.2.1, C.2.2.1, C.2.2.2.2.2.1, hts⟩ (k l K B.2.1) ?_ ?_ rfl (by rw [List.length_map]; exact hn) hL.1 rfl (lv_room (by rw [vcat_sum]; exact hst)) hd ⟨by show cells + rc' ≤ mc; omega, by show slots + rs' ≤ ms; omega⟩)
  · exact ⟨callB_of n hts (gb_good (mo_ws hm)) rfl rfl rfl (hts _ hm.2.1) (hts _ hl) ⟨hm.2.2.1, hm.2.2.2.1, hm.2.2.2.2⟩ hR, hts _ hi, hts _ hse⟩
  · exact ⟨pc_blind, ⟨cell, q1, by rw [q3]; rfl, by rw [q2, ← hqn]; exact hfc⟩, fun U hU hW => ⟨rfl, by rw [hU]; exact hH.warm hW, ok_c (v := vR o) trivial hs1⟩⟩

end XROWS
/-- what a throw leaves -/
def XL (K : CX) (S : ShT) (σ : StT) (P : Prop) : String → State → State → Prop := fun E _ t => E = nsE ∧ P ∧ ∃ H1 : Heap, HC K t S σ H1 ∧ H1.size ≤ t.heap.size ∧ ∀ q : Nat, q < H1.size → t.heap[q]? = H1[q]?
def ZL (t : Option FieldType) (Q : Int → ShT → StT → Prop) (S : ShT) (σ : StT) (P : Prop) : ZT := fun K below args s mc ms => vx_MQ below (QC K t Q) (XL K S σ P) args s mc ms (fun q => K.2.1 ≤ q)
