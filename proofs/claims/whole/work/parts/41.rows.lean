section ROWS
variable {y : ME} {pc : Nat} {ls : List (Nat × AV)} {st : List AV} {S : ShT} {σ : StT} {rc rs : Nat} {Q : Int → ShT → StT → Prop}
theorem ok_c {v : AV} {st : List AV} (h : okV v) (hs : ∀ w ∈ st, okV w) : ∀ w ∈ v :: st, okV w := List.forall_mem_cons.mpr ⟨h, hs⟩
theorem ok_h {v : AV} {st : List AV} (hs : ∀ w ∈ v :: st, okV w) : okV v := (List.forall_mem_cons.mp hs).1
theorem ok_t {v : AV} {st : List AV} (hs : ∀ w ∈ v :: st, okV w) : ∀ w ∈ st, okV w := (List.forall_mem_cons.mp hs).2
theorem r_iconst {n : Int} (hd : decode (me_c y) pc = .ok (.iconst n, 1)) (hn : inR n) (k : AW y (pc + 1) ls (vI n :: st) S σ rc rs Q) : AW y pc ls st S σ rc rs Q := by
  intro p l e s m args below meth c H locs cells slots mc ms K L C B hH hl hs hL
  exact lv_iconst C.1 C.2.1 hd rfl (k p l e s m args below meth c H locs cells slots mc ms K L C B hH hl (ok_c hn hs) hL)
theorem r_bipush {n : Int} (hd : decode (me_c y) pc = .ok (.bipush n, 2)) (hv : (Int8.ofInt n).toInt32 = Int32.ofInt n) (hn : inR n) (k : AW y (pc + 2) ls (vI n :: st) S σ rc rs Q) : AW y pc ls st S σ rc rs Q := by
  intro p l e s m args below meth c H locs cells slots mc ms K L C B hH hl hs hL
  exact lv_bipush C.1 C.2.1 hd hv (k p l e s m args below meth c H locs cells slots mc ms K L C B hH hl (ok_c hn hs) hL)
theorem r_sipush {n : Int} (hd : decode (me_c y) pc = .ok (.sipush n, 3)) (hv : (Int16.ofInt n).toInt32 = Int32.ofInt n) (hn : inR n) (k : AW y (pc + 3) ls (vI n :: st) S σ rc rs Q) : AW y pc ls st S σ rc rs Q := by
  intro p l e s m args below meth c H locs cells slots mc ms K L C B hH hl hs hL
  exact lv_sipush C.1 C.2.1 hd hv (k p l e s m args below meth c H locs cells slots mc ms K L C B hH hl (ok_c hn hs) hL)
theorem r_ldcw {n : Int} {ix : Nat} (hd : decode (me_c y) pc = .ok (.ldc_w ix, 3)) (hc : Cond.constant (me_n y).cls ix (Int32.ofInt n) ∈ GB) (hn : inR n) (k : AW y (pc + 3) ls (vI n :: st) S σ rc rs Q) : AW y pc ls st S σ rc rs Q := by
  intro p l e s m args below meth c H locs cells slots mc ms K L C B hH hl hs hL
  exact lv_ldcw C.1 C.2.1 C.2.2.2.2.2.1 (C.2.2.2.2.2.2.2 _ hc) hd (k p l e s m args below meth c H locs cells slots mc ms K L C B hH hl (ok_c hn hs) hL)
theorem r_iload_n {z : Int} {k : Fin 4} (hd : decode (me_c y) pc = .ok (.iload_n k, 1)) (hg : lget ls k = some (vI z)) (kk : AW y (pc + 1) ls (vI z :: st) S σ rc rs Q) : AW y pc ls st S σ rc rs Q := by
  intro p l e s m args below meth c H locs cells slots mc ms K L C B hH hl hs hL
  exact lv_iload_n C.1 C.2.1 hd rfl (lv_rd hL hg) (kk p l e s m args below meth c H locs cells slots mc ms K L C B hH hl (ok_c (hl _ (lget_mem hg)) hs) hL)
theorem r_iload {z : Int} {i : Nat} (hd : decode (me_c y) pc = .ok (.iload i, 2)) (hg : lget ls i = some (vI z)) (kk : AW y (pc + 2) ls (vI z :: st) S σ rc rs Q) : AW y pc ls st S σ rc rs Q := by
  intro p l e s m args below meth c H locs cells slots mc ms K L C B hH hl hs hL
  exact lv_iload C.1 C.2.1 hd (lv_rd hL hg) (kk p l e s m args below meth c H locs cells slots mc ms K L C B hH hl (ok_c (hl _ (lget_mem hg)) hs) hL)
theorem r_aload_n {a : Nat} {k : Fin 4} (hd : decode (me_c y) pc = .ok (.aload_n k, 1)) (hg : lget ls k = some (vR a)) (kk : AW y (pc + 1) ls (vR a :: st) S σ rc rs Q) : AW y pc ls st S σ rc rs Q := by
  intro p l e s m args below meth c H locs cells slots mc ms K L C B hH hl hs hL
  exact lv_aload_n C.1 C.2.1 hd rfl (lv_rd hL hg) (kk p l e s m args below meth c H locs cells slots mc ms K L C B hH hl (ok_c trivial hs) hL)
theorem r_aload {a : Nat} {i : Nat} (hd : decode (me_c y) pc = .ok (.aload i, 2)) (hg : lget ls i = some (vR a)) (kk : AW y (pc + 2) ls (vR a :: st) S σ rc rs Q) : AW y pc ls st S σ rc rs Q := by
  intro p l e s m args below meth c H locs cells slots mc ms K L C B hH hl hs hL
  exact lv_aload C.1 C.2.1 hd (lv_rd hL hg) (kk p l e s m args below meth c H locs cells slots mc ms K L C B hH hl (ok_c trivial hs) hL)
theorem r_istore_n {z : Int} {k : Fin 4} {ls' : List (Nat × AV)} (hd : decode (me_c y) pc = .ok (.istore_n k, 1)) (hn : (k : Nat) < me_l y) (hno : noL ls = true) (hls : lset ls k (vI z) = ls') (kk : AW y (pc + 1) ls' st S σ rc rs Q) : AW y pc ls (vI z :: st) S σ rc rs Q := by
  intro p l e s m args below meth c H locs cells slots mc ms K L C B hH hl hs hL
  obtain ⟨hz, hs⟩ := List.forall_mem_cons.mp hs
  refine lv_istore_n C.1 C.2.1 hd rfl hL hn rfl (fun L' hL' => ?_)
  exact kk p l e s m args below meth c H locs cells slots mc ms K L' C B hH (hls ▸ lset_ok hl hz) hs (hls ▸ lv_wr (v := vI z) hL' (noL_cat hno))
theorem r_istore {z : Int} {i : Nat} {ls' : List (Nat × AV)} (hd : decode (me_c y) pc = .ok (.istore i, 2)) (hn : i < me_l y) (hno : noL ls = true) (hls : lset ls i (vI z) = ls') (kk : AW y (pc + 2) ls' st S σ rc rs Q) : AW y pc ls (vI z :: st) S σ rc rs Q := by
  intro p l e s m args below meth c H locs cells slots mc ms K L C B hH hl hs hL
  obtain ⟨hz, hs⟩ := List.forall_mem_cons.mp hs
  refine lv_istore C.1 C.2.1 hd  hL hn rfl (fun L' hL' => ?_)
  exact kk p l e s m args below meth c H locs cells slots mc ms K L' C B hH (hls ▸ lset_ok hl hz) hs (hls ▸ lv_wr (v := vI z) hL' (noL_cat hno))
theorem r_astore_n {a : Nat} {k : Fin 4} {ls' : List (Nat × AV)} (hd : decode (me_c y) pc = .ok (.astore_n k, 1)) (hn : (k : Nat) < me_l y) (hno : noL ls = true) (hls : lset ls k (vR a) = ls') (kk : AW y (pc + 1) ls' st S σ rc rs Q) : AW y pc ls (vR a :: st) S σ rc rs Q := by
  intro p l e s m args below meth c H locs cells slots mc ms K L C B hH hl hs hL
  obtain ⟨hz, hs⟩ := List.forall_mem_cons.mp hs
  refine lv_astore_n C.1 C.2.1 hd rfl hL hn rfl (fun L' hL' => ?_)
  exact kk p l e s m args below meth c H locs cells slots mc ms K L' C B hH (hls ▸ lset_ok hl hz) hs (hls ▸ lv_wr (v := vR a) hL' (noL_cat hno))
theorem r_astore {a : Nat} {i : Nat} {ls' : List (Nat × AV)} (hd : decode (me_c y) pc = .ok (.astore i, 2)) (hn : i < me_l y) (hno : noL ls = true) (hls : lset ls i (vR a) = ls') (kk : AW y (pc + 2) ls' st S σ rc rs Q) : AW y pc ls (vR a :: st) S σ rc rs Q := by
  intro p l e s m args below meth c H locs cells slots mc ms K L C B hH hl hs hL
  obtain ⟨hz, hs⟩ := List.forall_mem_cons.mp hs
  refine lv_astore C.1 C.2.1 hd  hL hn rfl (fun L' hL' => ?_)
  exact kk p l e s m args below meth c H locs cells slots mc ms K L' C B hH (hls ▸ lset_ok hl hz) hs (hls ▸ lv_wr (v := vR a) hL' (noL_cat hno))
theorem lget_idx {K : CX} {ls : List (Nat × AV)} {i : Nat} {v : AV} (h : lget ls i = some v) : ∃ k : Nat, (ls.map fun q => (q.1, cv K q.2))[k]? = some (i, cv K v) := by
  obtain ⟨k, hk⟩ := List.getElem?_of_mem (List.mem_map.mpr ⟨(i, v), lget_mem h, rfl⟩ : (i, cv K v) ∈ ls.map fun q => (q.1, cv K q.2))
  exact ⟨k, hk⟩
theorem r_iinc {i : Nat} {n z : Int} {ls' : List (Nat × AV)} (hd : decode (me_c y) pc = .ok (.iinc i n, 3)) (hg : lget ls i = some (vI z)) (hn : i < me_l y) (hno : noL ls = true) (hls : lset ls i (vI (z + n)) = ls') (hr : inR (z + n)) (kk : AW y (pc + 3) ls' st S σ rc rs Q) : AW y pc ls st S σ rc rs Q := by
  intro p l e s m args below meth c H locs cells slots mc ms K L C B hH hl hs hL
  obtain ⟨k, hk⟩ := lget_idx (K := K) hg
  refine lv_iinc C.1 C.2.1 hd hL hk (v := Int32.ofInt (z + n)) (Int32.ofInt_add z n).symm hn rfl (fun L' hL' => ?_)
  exact kk p l e s m args below meth c H locs cells slots mc ms K L' C B hH (hls ▸ lset_ok hl hr) hs (hls ▸ lv_wr (v := vI (z + n)) hL' (noL_cat hno))
theorem r_iadd {a b : Int} (hd : decode (me_c y) pc = .ok (.iadd, 1)) (hr : inR (a + b)) (k : AW y (pc + 1) ls (vI (a + b) :: st) S σ rc rs Q) : AW y pc ls (vI b :: vI a :: st) S σ rc rs Q := by
  intro p l e s m args below meth c H locs cells slots mc ms K L C B hH hl hs hL
  refine lv_iadd C.1 C.2.1 hd ?_
  rw [← Int32.ofInt_add a b]
  exact (k p l e s m args below meth c H locs cells slots mc ms K L C B hH hl (ok_c hr (ok_t (ok_t hs))) hL)
theorem r_isub {a b : Int} (hd : decode (me_c y) pc = .ok (.isub, 1)) (hr : inR (a - b)) (k : AW y (pc + 1) ls (vI (a - b) :: st) S σ rc rs Q) : AW y pc ls (vI b :: vI a :: st) S σ rc rs Q := by
  intro p l e s m args below meth c H locs cells slots mc ms K L C B hH hl hs hL
  refine lv_isub C.1 C.2.1 hd ?_
  rw [← Int32.ofInt_sub a b]
  exact (k p l e s m args below meth c H locs cells slots mc ms K L C B hH hl (ok_c hr (ok_t (ok_t hs))) hL)
theorem r_imul {a b : Int} (hd : decode (me_c y) pc = .ok (.imul, 1)) (hr : inR (a * b)) (k : AW y (pc + 1) ls (vI (a * b) :: st) S σ rc rs Q) : AW y pc ls (vI b :: vI a :: st) S σ rc rs Q := by
  intro p l e s m args below meth c H locs cells slots mc ms K L C B hH hl hs hL
  refine lv_imul C.1 C.2.1 hd ?_
  rw [← Int32.ofInt_mul a b]
  exact (k p l e s m args below meth c H locs cells slots mc ms K L C B hH hl (ok_c hr (ok_t (ok_t hs))) hL)
theorem r_ineg {a : Int} (hd : decode (me_c y) pc = .ok (.ineg, 1)) (hr : inR (-a)) (k : AW y (pc + 1) ls (vI (-a) :: st) S σ rc rs Q) : AW y pc ls (vI a :: st) S σ rc rs Q := by
  intro p l e s m args below meth c H locs cells slots mc ms K L C B hH hl hs hL
  refine lv_ineg C.1 C.2.1 hd ?_
  rw [← Int32.ofInt_neg a]
  exact (k p l e s m args below meth c H locs cells slots mc ms K L C B hH hl (ok_c hr (ok_t hs)) hL)
theorem i_div {a b : Int} (ha : inR a) (hb : inR b) (h0 : 0 ≤ a) (h1 : 0 < b) : Int32.ofInt a / Int32.ofInt b = Int32.ofInt (a / b) ∧ inR (a / b) := by
  have hq : 0 ≤ a / b := Int.ediv_nonneg h0 (Int.le_of_lt h1)
  have hq2 : a / b ≤ a := Int.ediv_le_self b h0
  have hr : inR (a / b) := ⟨by omega, by have := ha.2; omega⟩
  refine ⟨?_, hr⟩
  apply Int32.toInt_inj.mp
  rw [Int32.toInt_div, i_toInt ha, i_toInt hb, i_toInt hr, Int.tdiv_eq_ediv_of_nonneg h0]
  apply Int.bmod_eq_of_le
  · have := hr.1; omega
  · have := hr.2; omega
theorem r_idiv {a b : Int} (hd : decode (me_c y) pc = .ok (.idiv, 1)) (h0 : 0 ≤ a) (h1 : 0 < b) (k : AW y (pc + 1) ls (vI (a / b) :: st) S σ rc rs Q) : AW y pc ls (vI b :: vI a :: st) S σ rc rs Q := by
  intro p l e s m args below meth c H locs cells slots mc ms K L C B hH hl hs hL
  have hb : inR b := ok_h hs
  have ha : inR a := ok_h (ok_t hs)
  obtain ⟨e1, e2⟩ := i_div ha hb h0 h1
  refine lv_idiv C.1 C.2.1 hd (fun q => ?_) ?_
  · have := (i_eq hb inR_0).mp q; omega
  rw [e1]
  exact (k p l e s m args below meth c H locs cells slots mc ms K L C B hH hl (ok_c e2 (ok_t (ok_t hs))) hL)
theorem r_irem {a b : Int} (hd : decode (me_c y) pc = .ok (.irem, 1)) (h0 : 0 ≤ a) (h1 : 0 < b) (k : AW y (pc + 1) ls (vI (a % b) :: st) S σ rc rs Q) : AW y pc ls (vI b :: vI a :: st) S σ rc rs Q := by
  intro p l e s m args below meth c H locs cells slots mc ms K L C B hH hl hs hL
  have hb : inR b := ok_h hs
  have ha : inR a := ok_h (ok_t hs)
  obtain ⟨e1, e2⟩ := i_div ha hb h0 h1
  refine lv_irem C.1 C.2.1 hd (fun q => ?_) ?_
  · have := (i_eq hb inR_0).mp q; omega
  have e3 : Int32.ofInt a - Int32.ofInt a / Int32.ofInt b * Int32.ofInt b = Int32.ofInt (a % b) := by
    rw [e1, ← Int32.ofInt_mul, ← Int32.ofInt_sub, Int.emod_def, Int.mul_comm]
  have h3 : 0 ≤ a % b := Int.emod_nonneg a (by omega)
  have h4 : a % b < b := Int.emod_lt_of_pos a h1
  rw [e3]
  exact (k p l e s m args below meth c H locs cells slots mc ms K L C B hH hl (ok_c ⟨by omega, by have := hb.2; omega⟩ (ok_t (ok_t hs))) hL)
def iAnd (a b : Int) : Int := (Int32.ofInt a &&& Int32.ofInt b).toInt
def iOr (a b : Int) : Int := (Int32.ofInt a ||| Int32.ofInt b).toInt
def iXor (a b : Int) : Int := (Int32.ofInt a ^^^ Int32.ofInt b).toInt
def iShl (a b : Int) : Int := (Int32.ofInt a <<< (Int32.ofInt b &&& 31)).toInt
def iShr (a b : Int) : Int := (Int32.ofInt a >>> (Int32.ofInt b &&& 31)).toInt
theorem r_iand {a b : Int} (hd : decode (me_c y) pc = .ok (.iand, 1)) (k : AW y (pc + 1) ls (vI (iAnd a b) :: st) S σ rc rs Q) : AW y pc ls (vI b :: vI a :: st) S σ rc rs Q := by
  intro p l e s m args below meth c H locs cells slots mc ms K L C B hH hl hs hL
  refine lv_iand C.1 C.2.1 hd ?_
  rw [← Int32.ofInt_toInt (Int32.ofInt a &&& Int32.ofInt b)]
  exact (k p l e s m args below meth c H locs cells slots mc ms K L C B hH hl (ok_c (i_back _) (ok_t (ok_t hs))) hL)
theorem r_ior {a b : Int} (hd : decode (me_c y) pc = .ok (.ior, 1)) (k : AW y (pc + 1) ls (vI (iOr a b) :: st) S σ rc rs Q) : AW y pc ls (vI b :: vI a :: st) S σ rc rs Q := by
  intro p l e s m args below meth c H locs cells slots mc ms K L C B hH hl hs hL
  refine lv_ior C.1 C.2.1 hd ?_
  rw [← Int32.ofInt_toInt (Int32.ofInt a ||| Int32.ofInt b)]
  exact (k p l e s m args below meth c H locs cells slots mc ms K L C B hH hl (ok_c (i_back _) (ok_t (ok_t hs))) hL)
theorem r_ixor {a b : Int} (hd : decode (me_c y) pc = .ok (.ixor, 1)) (k : AW y (pc + 1) ls (vI (iXor a b) :: st) S σ rc rs Q) : AW y pc ls (vI b :: vI a :: st) S σ rc rs Q := by
  intro p l e s m args below meth c H locs cells slots mc ms K L C B hH hl hs hL
  refine lv_ixor C.1 C.2.1 hd ?_
  rw [← Int32.ofInt_toInt (Int32.ofInt a ^^^ Int32.ofInt b)]
  exact (k p l e s m args below meth c H locs cells slots mc ms K L C B hH hl (ok_c (i_back _) (ok_t (ok_t hs))) hL)
theorem r_ishl {a b : Int} (hd : decode (me_c y) pc = .ok (.ishl, 1)) (k : AW y (pc + 1) ls (vI (iShl a b) :: st) S σ rc rs Q) : AW y pc ls (vI b :: vI a :: st) S σ rc rs Q := by
  intro p l e s m args below meth c H locs cells slots mc ms K L C B hH hl hs hL
  refine lv_ishl C.1 C.2.1 hd ?_
  rw [← Int32.ofInt_toInt (Int32.ofInt a <<< (Int32.ofInt b &&& 31))]
  exact (k p l e s m args below meth c H locs cells slots mc ms K L C B hH hl (ok_c (i_back _) (ok_t (ok_t hs))) hL)
theorem r_ishr {a b : Int} (hd : decode (me_c y) pc = .ok (.ishr, 1)) (k : AW y (pc + 1) ls (vI (iShr a b) :: st) S σ rc rs Q) : AW y pc ls (vI b :: vI a :: st) S σ rc rs Q := by
  intro p l e s m args below meth c H locs cells slots mc ms K L C B hH hl hs hL
  refine lv_ishr C.1 C.2.1 hd ?_
  rw [← Int32.ofInt_toInt (Int32.ofInt a >>> (Int32.ofInt b &&& 31))]
  exact (k p l e s m args below meth c H locs cells slots mc ms K L C B hH hl (ok_c (i_back _) (ok_t (ok_t hs))) hL)
theorem cv_cat1 {K : CX} (v : AV) (h : (match v with | .inr (.inr _) => false | _ => true) = true) : (cv K v).category = 1 := by
  rcases v with z | a | z
  · rfl
  · rfl
  · cases h
theorem r_dup {v : AV} (hd : decode (me_c y) pc = .ok (.dup, 1)) (h : (match v with | .inr (.inr _) => false | _ => true) = true) (k : AW y (pc + 1) ls (v :: v :: st) S σ rc rs Q) : AW y pc ls (v :: st) S σ rc rs Q := by
  intro p l e s m args below meth c H locs cells slots mc ms K L C B hH hl hs hL
  exact lv_dup C.1 C.2.1 hd (cv_cat1 v h) (k p l e s m args below meth c H locs cells slots mc ms K L C B hH hl (ok_c (ok_h hs) hs) hL)
theorem r_pop {v : AV} (hd : decode (me_c y) pc = .ok (.pop, 1)) (h : (match v with | .inr (.inr _) => false | _ => true) = true) (k : AW y (pc + 1) ls st S σ rc rs Q) : AW y pc ls (v :: st) S σ rc rs Q := by
  intro p l e s m args below meth c H locs cells slots mc ms K L C B hH hl hs hL
  exact lv_pop C.1 C.2.1 hd (cv_cat1 v h) (k p l e s m args below meth c H locs cells slots mc ms K L C B hH hl (ok_t hs) hL)
theorem r_dup2 {v w : AV} (hd : decode (me_c y) pc = .ok (.dup2, 1)) (h : (match v with | .inr (.inr _) => false | _ => true) = true) (h2 : (match w with | .inr (.inr _) => false | _ => true) = true) (k : AW y (pc + 1) ls (v :: w :: v :: w :: st) S σ rc rs Q) : AW y pc ls (v :: w :: st) S σ rc rs Q := by
  intro p l e s m args below meth c H locs cells slots mc ms K L C B hH hl hs hL
  exact lv_dup2_11 C.1 C.2.1 hd (cv_cat1 v h) (cv_cat1 w h2) (k p l e s m args below meth c H locs cells slots mc ms K L C B hH hl (ok_c (ok_h hs) (ok_c (ok_h (ok_t hs)) hs)) hL)
theorem r_icmp_eq {a b off : Int} {tgt : Nat} (hd : decode (me_c y) pc = .ok (.if_icmp .eq off, 3)) (ht : (pc : Int) + off = (tgt : Int)) (kt : a = b → AW y tgt ls st S σ rc rs Q) (kf : ¬ (a = b) → AW y (pc + 3) ls st S σ rc rs Q) : AW y pc ls (vI b :: vI a :: st) S σ rc rs Q := by
  intro p l e s m args below meth c H locs cells slots mc ms K L C B hH hl hs hL
  have hb : inR b := ok_h hs
  have ha : inR a := ok_h (ok_t hs)
  have iff1 := i_eq ha hb
  exact lv_icmp_eq C.1 C.2.1 hd ht (fun h => (kt (iff1.mp h)) p l e s m args below meth c H locs cells slots mc ms K L C B hH hl (ok_t (ok_t hs)) hL) (fun h => (kf (fun q => h (iff1.mpr q))) p l e s m args below meth c H locs cells slots mc ms K L C B hH hl (ok_t (ok_t hs)) hL)
theorem r_if_eq {a off : Int} {tgt : Nat} (hd : decode (me_c y) pc = .ok (.ifCond .eq off, 3)) (ht : (pc : Int) + off = (tgt : Int)) (kt : a = 0 → AW y tgt ls st S σ rc rs Q) (kf : ¬ (a = 0) → AW y (pc + 3) ls st S σ rc rs Q) : AW y pc ls (vI a :: st) S σ rc rs Q := by
  intro p l e s m args below meth c H locs cells slots mc ms K L C B hH hl hs hL
  have ha : inR a := ok_h hs
  have iff1 := i_eq ha inR_0
  exact lv_if_eq C.1 C.2.1 hd ht (fun h => (kt (iff1.mp h)) p l e s m args below meth c H locs cells slots mc ms K L C B hH hl (ok_t hs) hL) (fun h => (kf (fun q => h (iff1.mpr q))) p l e s m args below meth c H locs cells slots mc ms K L C B hH hl (ok_t hs) hL)
theorem r_icmp_ne {a b off : Int} {tgt : Nat} (hd : decode (me_c y) pc = .ok (.if_icmp .ne off, 3)) (ht : (pc : Int) + off = (tgt : Int)) (kt : ¬ a = b → AW y tgt ls st S σ rc rs Q) (kf : a = b → AW y (pc + 3) ls st S σ rc rs Q) : AW y pc ls (vI b :: vI a :: st) S σ rc rs Q := by
  intro p l e s m args below meth c H locs cells slots mc ms K L C B hH hl hs hL
  have hb : inR b := ok_h hs
  have ha : inR a := ok_h (ok_t hs)
  have iff1 := (not_congr (i_eq ha hb))
  exact lv_icmp_ne C.1 C.2.1 hd ht (fun h => (kt (iff1.mp h)) p l e s m args below meth c H locs cells slots mc ms K L C B hH hl (ok_t (ok_t hs)) hL) (fun h => (kf ((i_eq ha hb).mp h)) p l e s m args below meth c H locs cells slots mc ms K L C B hH hl (ok_t (ok_t hs)) hL)
theorem r_if_ne {a off : Int} {tgt : Nat} (hd : decode (me_c y) pc = .ok (.ifCond .ne off, 3)) (ht : (pc : Int) + off = (tgt : Int)) (kt : ¬ a = 0 → AW y tgt ls st S σ rc rs Q) (kf : a = 0 → AW y (pc + 3) ls st S σ rc rs Q) : AW y pc ls (vI a :: st) S σ rc rs Q := by
  intro p l e s m args below meth c H locs cells slots mc ms K L C B hH hl hs hL
  have ha : inR a := ok_h hs
  have iff1 := (not_congr (i_eq ha inR_0))
  exact lv_if_ne C.1 C.2.1 hd ht (fun h => (kt (iff1.mp h)) p l e s m args below meth c H locs cells slots mc ms K L C B hH hl (ok_t hs) hL) (fun h => (kf ((i_eq ha inR_0).mp h)) p l e s m args below meth c H locs cells slots mc ms K L C B hH hl (ok_t hs) hL)
theorem r_icmp_lt {a b off : Int} {tgt : Nat} (hd : decode (me_c y) pc = .ok (.if_icmp .lt off, 3)) (ht : (pc : Int) + off = (tgt : Int)) (kt : a < b → AW y tgt ls st S σ rc rs Q) (kf : ¬ (a < b) → AW y (pc + 3) ls st S σ rc rs Q) : AW y pc ls (vI b :: vI a :: st) S σ rc rs Q := by
  intro p l e s m args below meth c H locs cells slots mc ms K L C B hH hl hs hL
  have hb : inR b := ok_h hs
  have ha : inR a := ok_h (ok_t hs)
  have iff1 := i_lt ha hb
  exact lv_icmp_lt C.1 C.2.1 hd ht (fun h => (kt (iff1.mp h)) p l e s m args below meth c H locs cells slots mc ms K L C B hH hl (ok_t (ok_t hs)) hL) (fun h => (kf (fun q => h (iff1.mpr q))) p l e s m args below meth c H locs cells slots mc ms K L C B hH hl (ok_t (ok_t hs)) hL)
theorem r_if_lt {a off : Int} {tgt : Nat} (hd : decode (me_c y) pc = .ok (.ifCond .lt off, 3)) (ht : (pc : Int) + off = (tgt : Int)) (kt : a < 0 → AW y tgt ls st S σ rc rs Q) (kf : ¬ (a < 0) → AW y (pc + 3) ls st S σ rc rs Q) : AW y pc ls (vI a :: st) S σ rc rs Q := by
  intro p l e s m args below meth c H locs cells slots mc ms K L C B hH hl hs hL
  have ha : inR a := ok_h hs
  have iff1 := i_lt ha inR_0
  exact lv_if_lt C.1 C.2.1 hd ht (fun h => (kt (iff1.mp h)) p l e s m args below meth c H locs cells slots mc ms K L C B hH hl (ok_t hs) hL) (fun h => (kf (fun q => h (iff1.mpr q))) p l e s m args below meth c H locs cells slots mc ms K L C B hH hl (ok_t hs) hL)
theorem r_icmp_ge {a b off : Int} {tgt : Nat} (hd : decode (me_c y) pc = .ok (.if_icmp .ge off, 3)) (ht : (pc : Int) + off = (tgt : Int)) (kt : b ≤ a → AW y tgt ls st S σ rc rs Q) (kf : ¬ (b ≤ a) → AW y (pc + 3) ls st S σ rc rs Q) : AW y pc ls (vI b :: vI a :: st) S σ rc rs Q := by
  intro p l e s m args below meth c H locs cells slots mc ms K L C B hH hl hs hL
  have hb : inR b := ok_h hs
  have ha : inR a := ok_h (ok_t hs)
  have iff1 := i_le hb ha
  exact lv_icmp_ge C.1 C.2.1 hd ht (fun h => (kt (iff1.mp h)) p l e s m args below meth c H locs cells slots mc ms K L C B hH hl (ok_t (ok_t hs)) hL) (fun h => (kf (fun q => h (iff1.mpr q))) p l e s m args below meth c H locs cells slots mc ms K L C B hH hl (ok_t (ok_t hs)) hL)
theorem r_if_ge {a off : Int} {tgt : Nat} (hd : decode (me_c y) pc = .ok (.ifCond .ge off, 3)) (ht : (pc : Int) + off = (tgt : Int)) (kt : 0 ≤ a → AW y tgt ls st S σ rc rs Q) (kf : ¬ (0 ≤ a) → AW y (pc + 3) ls st S σ rc rs Q) : AW y pc ls (vI a :: st) S σ rc rs Q := by
  intro p l e s m args below meth c H locs cells slots mc ms K L C B hH hl hs hL
  have ha : inR a := ok_h hs
  have iff1 := i_le inR_0 ha
  exact lv_if_ge C.1 C.2.1 hd ht (fun h => (kt (iff1.mp h)) p l e s m args below meth c H locs cells slots mc ms K L C B hH hl (ok_t hs) hL) (fun h => (kf (fun q => h (iff1.mpr q))) p l e s m args below meth c H locs cells slots mc ms K L C B hH hl (ok_t hs) hL)
theorem r_icmp_gt {a b off : Int} {tgt : Nat} (hd : decode (me_c y) pc = .ok (.if_icmp .gt off, 3)) (ht : (pc : Int) + off = (tgt : Int)) (kt : b < a → AW y tgt ls st S σ rc rs Q) (kf : ¬ (b < a) → AW y (pc + 3) ls st S σ rc rs Q) : AW y pc ls (vI b :: vI a :: st) S σ rc rs Q := by
  intro p l e s m args below meth c H locs cells slots mc ms K L C B hH hl hs hL
  have hb : inR b := ok_h hs
  have ha : inR a := ok_h (ok_t hs)
  have iff1 := i_lt hb ha
  exact lv_icmp_gt C.1 C.2.1 hd ht (fun h => (kt (iff1.mp h)) p l e s m args below meth c H locs cells slots mc ms K L C B hH hl (ok_t (ok_t hs)) hL) (fun h => (kf (fun q => h (iff1.mpr q))) p l e s m args below meth c H locs cells slots mc ms K L C B hH hl (ok_t (ok_t hs)) hL)
theorem r_if_gt {a off : Int} {tgt : Nat} (hd : decode (me_c y) pc = .ok (.ifCond .gt off, 3)) (ht : (pc : Int) + off = (tgt : Int)) (kt : 0 < a → AW y tgt ls st S σ rc rs Q) (kf : ¬ (0 < a) → AW y (pc + 3) ls st S σ rc rs Q) : AW y pc ls (vI a :: st) S σ rc rs Q := by
  intro p l e s m args below meth c H locs cells slots mc ms K L C B hH hl hs hL
  have ha : inR a := ok_h hs
  have iff1 := i_lt inR_0 ha
  exact lv_if_gt C.1 C.2.1 hd ht (fun h => (kt (iff1.mp h)) p l e s m args below meth c H locs cells slots mc ms K L C B hH hl (ok_t hs) hL) (fun h => (kf (fun q => h (iff1.mpr q))) p l e s m args below meth c H locs cells slots mc ms K L C B hH hl (ok_t hs) hL)
theorem r_icmp_le {a b off : Int} {tgt : Nat} (hd : decode (me_c y) pc = .ok (.if_icmp .le off, 3)) (ht : (pc : Int) + off = (tgt : Int)) (kt : a ≤ b → AW y tgt ls st S σ rc rs Q) (kf : ¬ (a ≤ b) → AW y (pc + 3) ls st S σ rc rs Q) : AW y pc ls (vI b :: vI a :: st) S σ rc rs Q := by
  intro p l e s m args below meth c H locs cells slots mc ms K L C B hH hl hs hL
  have hb : inR b := ok_h hs
  have ha : inR a := ok_h (ok_t hs)
  have iff1 := i_le ha hb
  exact lv_icmp_le C.1 C.2.1 hd ht (fun h => (kt (iff1.mp h)) p l e s m args below meth c H locs cells slots mc ms K L C B hH hl (ok_t (ok_t hs)) hL) (fun h => (kf (fun q => h (iff1.mpr q))) p l e s m args below meth c H locs cells slots mc ms K L C B hH hl (ok_t (ok_t hs)) hL)
theorem r_if_le {a off : Int} {tgt : Nat} (hd : decode (me_c y) pc = .ok (.ifCond .le off, 3)) (ht : (pc : Int) + off = (tgt : Int)) (kt : a ≤ 0 → AW y tgt ls st S σ rc rs Q) (kf : ¬ (a ≤ 0) → AW y (pc + 3) ls st S σ rc rs Q) : AW y pc ls (vI a :: st) S σ rc rs Q := by
  intro p l e s m args below meth c H locs cells slots mc ms K L C B hH hl hs hL
  have ha : inR a := ok_h hs
  have iff1 := i_le ha inR_0
  exact lv_if_le C.1 C.2.1 hd ht (fun h => (kt (iff1.mp h)) p l e s m args below meth c H locs cells slots mc ms K L C B hH hl (ok_t hs) hL) (fun h => (kf (fun q => h (iff1.mpr q))) p l e s m args below meth c H locs cells slots mc ms K L C B hH hl (ok_t hs) hL)
theorem r_goto {off : Int} {tgt : Nat} (hd : decode (me_c y) pc = .ok (.goto off, 3)) (ht : (pc : Int) + off = (tgt : Int)) (k : AW y tgt ls st S σ rc rs Q) : AW y pc ls st S σ rc rs Q := by
  intro p l e s m args below meth c H locs cells slots mc ms K L C B hH hl hs hL
  exact lv_goto C.1 C.2.1 hd ht (k p l e s m args below meth c H locs cells slots mc ms K L C B hH hl hs hL)
def swAll (z : Int) : Int → List Nat → (Nat → Prop) → Prop
  | _, [], _ => True
  | lo, t :: ts, F => (z = lo → F t) ∧ swAll z (lo + 1) ts F
theorem swAll_at {z : Int} {F : Nat → Prop} : ∀ {ts : List Nat} {lo : Int} {i t : Nat}, swAll z lo ts F → ts[i]? = some t → z = lo + i → F t
  | [], _, _, _, _, h, _ => by simp at h
  | u :: ts, lo, 0, t, h, h1, h2 => by
    rw [List.getElem?_cons_zero] at h1
    cases h1
    exact h.1 (by simpa using h2)
  | u :: ts, lo, i + 1, t, h, h1, h2 => swAll_at h.2 (by rwa [List.getElem?_cons_succ] at h1) (by rw [h2]; omega)
def swOk (pc : Nat) (offs : Array Int) (tg : List Nat) : Bool := tg.length == offs.size && (List.range tg.length).all fun i => match offs[i]?, tg[i]? with
  | some o, some t => (pc : Int) + o == (t : Int)
  | _, _ => false
theorem r_tsw {z d lo hi : Int} {offs : Array Int} {len dt : Nat} (tg : List Nat) (hd : decode (me_c y) pc = .ok (.tableswitch d lo hi offs, len)) (hz : hi = lo + tg.length - 1) (ho : swOk pc offs tg = true) (ht : (pc : Int) + d = (dt : Int)) (kd : (z < lo ∨ hi < z) → AW y dt ls st S σ rc rs Q) (k : swAll z lo tg (fun t => AW y t ls st S σ rc rs Q)) : AW y pc ls (vI z :: st) S σ rc rs Q := by
  intro p l e s m args below meth c H locs cells slots mc ms K L C B hH hl hs hL
  have hz' : inR z := ok_h hs
  by_cases h : z < lo ∨ hi < z
  · exact lv_tableOut C.1 C.2.1 hd (by rw [i_toInt hz']; exact h) ht ((kd h) p l e s m args below meth c H locs cells slots mc ms K L C B hH hl (ok_t hs) hL)
  · have h1 : ¬ z < lo := fun q => h (Or.inl q)
    have h2 : ¬ hi < z := fun q => h (Or.inr q)
    unfold swOk at ho
    rw [Bool.and_eq_true] at ho
    have hi2 : (z - lo).toNat < tg.length := by omega
    have h3 := List.all_eq_true.mp ho.2 _ (List.mem_range.mpr hi2)
    split at h3
    next o t e1 e2 =>
      refine lv_tableIn C.1 C.2.1 hd (by rw [i_toInt hz']; exact h1) (by rw [i_toInt hz']; exact h2) (by rw [i_toInt hz']; exact e1) (by simpa using h3) ?_
      exact ((swAll_at k e2 (by omega)) p l e s m args below meth c H locs cells slots mc ms K L C B hH hl (ok_t hs) hL)
    next => cases h3
theorem r_iret {z : Int} (hd : decode (me_c y) pc = .ok (.ireturn, 1)) (hr : me_r y = some .int) (hq : Q z S σ) : AW y pc ls [vI z] S σ rc rs Q := by
  intro p l e s m args below meth c H locs cells slots mc ms K L C B hH hl hs hL
  have hz : inR z := ok_h hs
  refine W.widen (k := mc) (n := ms) (by omega) (by omega) ?_
  exact W.iret C.1 C.2.1 (C.2.2.2.1.trans hr) (fun t ht hW => ⟨z, S, σ, hq, by rw [hr]; rfl, hz, by rw [ht]; exact hH.warm hW⟩) B.1 hd C.2.2.2.2.1
theorem r_zret {z : Int} (hd : decode (me_c y) pc = .ok (.ireturn, 1)) (hr : me_r y = some .boolean) (h01 : z = 0 ∨ z = 1) (hq : Q z S σ) : AW y pc ls [vI z] S σ rc rs Q := by
  intro p l e s m args below meth c H locs cells slots mc ms K L C B hH hl hs hL
  have hz : inR z := ok_h hs
  refine W.widen (k := mc) (n := ms) (by omega) (by omega) ?_
  exact W.zret C.1 C.2.1 (C.2.2.2.1.trans hr) (by rcases h01 with rfl | rfl <;> rfl) (fun t ht hW => ⟨z, S, σ, hq, by rw [hr]; rfl, hz, by rw [ht]; exact hH.warm hW⟩) B.1 hd C.2.2.2.2.1
theorem r_vret (hd : decode (me_c y) pc = .ok (.return_, 1)) (hr : me_r y = none) (hq : Q 0 S σ) : AW y pc ls [] S σ rc rs Q := by
  intro p l e s m args below meth c H locs cells slots mc ms K L C B hH hl hs hL
  refine W.widen (k := mc) (n := ms) (by omega) (by omega) ?_
  exact W.vret C.1 C.2.1 (C.2.2.2.1.trans hr) (fun t ht hW => ⟨0, S, σ, hq, by rw [hr]; rfl, inR_0, by rw [ht]; exact hH.warm hW⟩) B.1 hd C.2.2.2.2.1
end ROWS
