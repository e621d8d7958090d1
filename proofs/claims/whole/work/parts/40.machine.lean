/-! the machine in its own words: ints are integers, cells have numbers, a method's meaning is what its W says -/
abbrev AV : Type := Int ⊕ (Nat ⊕ Int)
abbrev vI (z : Int) : AV := Sum.inl z
abbrev vR (a : Nat) : AV := Sum.inr (Sum.inl a)
abbrev vL (z : Int) : AV := Sum.inr (Sum.inr z)
/-- how many cells; each cell's kind and length; its references -/
abbrev ShT : Type := Nat × (Nat → Nat × Nat) × (Nat → Nat → Nat)
abbrev StT : Type := Nat → Nat → Int
/-- classes and slots; the heap's size at the law's start; addresses of old cells; that heap -/
abbrev CX : Type := va_G × Nat × (Nat → Nat) × Heap
def BIG : Nat := 1000000000
def inR (z : Int) : Prop := -2147483648 ≤ z ∧ z ≤ 2147483647
def okV (v : AV) : Prop := match v with
  | .inl z => inR z
  | .inr (.inl _) => True
  | .inr (.inr z) => inR z
def adr (K : CX) (a : Nat) : Nat := if a < BIG then K.2.1 + a - 1 else K.2.2.1 a
def cv (K : CX) (v : AV) : Value := match v with
  | .inl z => .int (Int32.ofInt z)
  | .inr (.inl a) => .ref (adr K a)
  | .inr (.inr z) => .long (Int64.ofInt z)
def fcv (K : CX) (a : Nat) : Value := if a = 0 then .null else .ref (adr K a)
def isRf (t : FieldType) : Bool := match t with
  | .object _ => true
  | .array _ => true
  | _ => false
def clTy (ci : Nat) : Nat → FieldType := match ci with
  | 0 => tyX0
  | 1 => tyX1
  | 2 => tyX2
  | 3 => tyX3
  | 4 => tyX4
  | 5 => tyX5
  | 6 => tyX6
  | 7 => tyX7
  | 8 => tyX8
  | 9 => tyX9
  | 10 => tyX10
  | _ => tyX11
def fv (K : CX) (S : ShT) (σ : StT) (a ci k : Nat) : Value := if isRf (clTy ci k) = true then fcv K (S.2.2 a k) else .int (Int32.ofInt (σ a k))
def arC (U : State) (ty : FieldType) (H : Heap) (p n : Nat) (f : Nat → Value) : Prop := ∃ cell : Cell, H[p]? = some cell ∧ U.isArrayOf cell ty ∧ cell.vm ≠ .unknown ∧ cell.slots.size = n ∧ ∀ j : Nat, j < n → cell.slots[j]? = some (f j)
/-- an array of references: its class's component too -/
def arQ (U : State) (C : String) (H : Heap) (p n : Nat) (f : Nat → Value) : Prop := ∃ (cell : Cell) (kA : Class) (comp : ClassId), H[p]? = some cell ∧ cell.vm = .none ∧ U.vm.classes[cell.cls]? = some kA ∧ kA.kind = .array comp (.object C) ∧ U.vm.findClass C = some comp ∧ cell.slots.size = n ∧ ∀ j : Nat, j < n → cell.slots[j]? = some (f j)
def CR (K : CX) (U : State) (S : ShT) (σ : StT) (H : Heap) (a : Nat) : Prop :=
  ((S.2.1 a).1 = 1 → arC U .int H (adr K a) (S.2.1 a).2 (fun j => .int (Int32.ofInt (σ a j)))) ∧
  ((S.2.1 a).1 = 2 → arC U .boolean H (adr K a) (S.2.1 a).2 (fun j => .int (Int32.ofInt (σ a j)))) ∧
  ((S.2.1 a).1 = 3 → arC U .long H (adr K a) (S.2.1 a).2 (fun j => .long (Int64.ofInt (σ a j)))) ∧
  ((S.2.1 a).1 = 4 → arQ U RX0 H (adr K a) (S.2.1 a).2 (fun j => fcv K (S.2.2 a j))) ∧
  ((S.2.1 a).1 = 5 → arQ U RX5 H (adr K a) (S.2.1 a).2 (fun j => fcv K (S.2.2 a j))) ∧
  ((S.2.1 a).1 = 7 → arC U .int H (adr K a) (S.2.1 a).2 (fun j => .int (Int32.ofInt (σ a j)))) ∧
  ∀ (ci : Nat) (q : vw_C), vwCl[ci]? = some q → (S.2.1 a).1 = 10 + ci → t_OB (adr K a) (K.1.1 ci) q.2.2 (K.1.2 ci) H (fv K S σ a ci)
/-- the string constants: owner, place in its pool, text -/
def strTab : List (String × Nat × String) := [(RX6, 67, "sheet"), (RX6, 76, "stroke"), (RX6, 78, "home"), (RX6, 80, "pace"), (RX6, 91, "size"), (RX6, 105, "join"), (RX11, 183, "sheet"), (RX11, 189, "stroke"), (RX11, 194, "home"), (RX11, 199, "pace"), (RX11, 169, "size"), (RX11, 175, "join"), (RX10, 355, "no such loose meeting")]
/-- their letters -/
def strCh (i : Nat) : List Int := match i % 6 with
  | 0 => [115, 104, 101, 101, 116]
  | 1 => [115, 116, 114, 111, 107, 101]
  | 2 => [104, 111, 109, 101]
  | 3 => [112, 97, 99, 101]
  | 4 => [115, 105, 122, 101]
  | _ => [106, 111, 105, 110]
def strAt (K : CX) (U : State) (i : Nat) : Prop := va_O "java/lang/String" (K.2.2.1 (BIG + 1 + i)) (fun q => K.2.1 ≤ q) U K.2.2.2 ∧ va_OF "java/lang/String" "coder" "B" (.int 0) (K.2.2.1 (BIG + 1 + i)) (fun q => K.2.1 ≤ q) U K.2.2.2 ∧
  va_OF "java/lang/String" "value" "[B" (.ref (K.2.2.1 (BIG + 101 + i))) (K.2.2.1 (BIG + 1 + i)) (fun q => K.2.1 ≤ q) U K.2.2.2 ∧ va_T .byte (K.2.2.1 (BIG + 101 + i)) (strCh i).length (fun j => .int (Int32.ofInt ((strCh i).getD j 0))) (fun q => K.2.1 ≤ q) U K.2.2.2
def nestTab : List (String × Nat × MethodName × String) := [(RX10, 11, yX7_init, RX10), (RX10, 18, yX0_init, RX10), (RX3, 11, yX1_init, RX10), (RX2, 28, yX0_init, RX10)]
abbrev nsE : String := "java/util/NoSuchElementException"
def TF (K : CX) (U : State) : Prop := va_K K.1 vwCl [] U ∧ (∀ i : Nat, i < 12 → strAt K U i) ∧ (∀ (i : Nat) (q : String × Nat × String), strTab[i]? = some q → vk_R q.1 q.2.1 q.2.2 (K.2.2.1 (BIG + 1 + i)) U) ∧
  (∀ (i : Nat) (q : String × Nat × MethodName × String), nestTab[i]? = some q → va_Nw (.methodLinkNest q.1 q.2.1 q.2.2.1 q.2.2.2) U) ∧ (va_Nw (.castable nsE nsE) U ∧ va_AO RX0 U ∧ va_AO RX5 U) ∧
  vx_Zq Bundle.tN "UNASSIGNED_STACK" Bundle.steD (fun q => K.2.1 ≤ q) U K.2.2.2 ∧ vx_Zq Bundle.tN "SUPPRESSED_SENTINEL" Bundle.listD (fun q => K.2.1 ≤ q) U K.2.2.2 ∧
  va_Z "java/lang/String" "COMPACT_STRINGS" "Z" (.int 1) (fun q => K.2.1 ≤ q) U K.2.2.2 ∧ va_Zq "jdk/internal/util/Preconditions" "SIOOBE_FORMATTER" "Ljava/util/function/BiFunction;" (fun q => K.2.1 ≤ q) U K.2.2.2
def HC (K : CX) (U : State) (S : ShT) (σ : StT) (H : Heap) : Prop :=
  K.2.2.2.size = K.2.1 ∧ 1 ≤ S.1 ∧ S.1 < BIG ∧ H.size = K.2.1 + S.1 - 1 ∧ (∀ q : Nat, q < K.2.1 → H[q]? = K.2.2.2[q]?) ∧ (∀ a i : Nat, inR (σ a i)) ∧
  (∀ a : Nat, (S.2.1 a).1 ≠ 0 → 1 ≤ a ∧ (a < S.1 ∨ (BIG ≤ a ∧ (S.2.1 a).1 = 7 ∧ K.2.2.1 a < K.2.1))) ∧ ∀ a : Nat, CR K U S σ H a
def HR (K : CX) (U : State) (S : ShT) (σ : StT) (H : Heap) : Prop := TF K U ∧ HC K U S σ H
def rv (t : Option FieldType) (r : Int) : Option Value := match t with
  | none => none
  | some _ => some (.int (Int32.ofInt r))
def prt (t : Option FieldType) (r : Int) (st : List AV) : List AV := match t with
  | none => st
  | some _ => vI r :: st
def QC (K : CX) (t : Option FieldType) (Q : Int → ShT → StT → Prop) : Array Value → State → Outcome → State → Prop := fun _ _ o u =>
  ∃ (r : Int) (S : ShT) (σ : StT), Q r S σ ∧ o = .returned (rv t r) ∧ inR r ∧ HR K u S σ u.heap
def PC (K : CX) (as : List AV) (S : ShT) (σ : StT) : Array Value → State → Prop := fun v U => v = (as.map (cv K)).toArray ∧ HR K U S σ U.heap ∧ ∀ w ∈ as, okV w
def wsOf (y : ME) : List Cond := .code (me_n y) (me_c y) (me_l y) (me_r y) :: GB
/-- a method's meaning -/
def WPm (y : ME) (as : List AV) (S : ShT) (σ : StT) (rc rs : Nat) (Q : Int → ShT → StT → Prop) : Prop :=
  ∀ (l : Launch) (K : CX), l.stackTraces = false → Met l (me_n y) (wsOf y) ({ frames := me_f y, cells := rc, slots := rs, locals := me_w y }) (PC K as S σ) (QC K (me_r y) Q) rc rs (fun q => K.2.1 ≤ q)
def Cn (y : ME) (p : Program) (s : State) (m : MethodId) (args : Array Value) (meth : Method) (c : Code) : Prop :=
  p.tables.exec = Jvm.exec ∧ c.code = me_c y ∧ c.maxLocals = me_l y ∧ meth.sig.returnType = me_r y ∧ meth.locks = false ∧ s.vm.findClass (me_n y).cls = some m.cls ∧ meth.name = (me_n y).name ∧ ∀ w ∈ GB, w.before args s = true
/-- a place in a method's code, with its locals and its stack: what comes of it -/
def AW (y : ME) (pc : Nat) (ls : List (Nat × AV)) (st : List AV) (S : ShT) (σ : StT) (rc rs : Nat) (Q : Int → ShT → StT → Prop) : Prop :=
  ∀ (p : Program) (l : Launch) (e : Env) (s : State) (m : MethodId) (args : Array Value) (below : List Frame) (meth : Method) (c : Code) (H : Heap) (locs : List Loc) (cells slots mc ms : Nat) (K : CX) (L : Array Slot),
    Cn y p s m args meth c → ((∀ q ∈ locs, K.2.1 ≤ q.base) ∧ l.stackTraces = false ∧ cells + rc ≤ mc ∧ slots + rs ≤ ms) → HR K s S σ H → (∀ q ∈ ls, okV q.2) → (∀ v ∈ st, okV v) → lv_has L (me_l y) (ls.map fun q => (q.1, cv K q.2)) →
    W p l e ({ frames := me_f y, cells := mc, slots := ms, locals := me_w y }) s m args below meth c H locs cells slots (MQ below (QC K (me_r y) Q) args s mc ms (fun q => K.2.1 ≤ q)) (F0 m pc L (st.map (cv K)))
-- numbers
theorem i_toInt {z : Int} (h : inR z) : (Int32.ofInt z).toInt = z := Int32.toInt_ofInt_of_le (by have := h.1; omega) (by have := h.2; omega)
theorem i_lt {a b : Int} (ha : inR a) (hb : inR b) : (Int32.ofInt a < Int32.ofInt b) ↔ a < b := by rw [Int32.lt_iff_toInt_lt, i_toInt ha, i_toInt hb]
theorem i_le {a b : Int} (ha : inR a) (hb : inR b) : (Int32.ofInt a ≤ Int32.ofInt b) ↔ a ≤ b := by rw [Int32.le_iff_toInt_le, i_toInt ha, i_toInt hb]
theorem i_eq {a b : Int} (ha : inR a) (hb : inR b) : (Int32.ofInt a = Int32.ofInt b) ↔ a = b := by rw [← Int32.toInt_inj, i_toInt ha, i_toInt hb]
theorem i_0 : (0 : Int32) = Int32.ofInt 0 := rfl
theorem inR_0 : inR 0 := ⟨by decide, by decide⟩
theorem i_cl {z : Int} (h : inR z) : (Int32.ofInt z).toNatClampNeg = z.toNat := Int32.toNatClampNeg_ofInt_of_le (by have := h.1; omega) (by have := h.2; omega)
theorem i_of (x : Int32) : ∃ z : Int, inR z ∧ x = Int32.ofInt z := ⟨x.toInt, ⟨by have := x.le_toInt; omega, by have := x.toInt_lt; omega⟩, (Int32.ofInt_toInt x).symm⟩
theorem i_back (x : Int32) : inR x.toInt := ⟨by have := x.le_toInt; omega, by have := x.toInt_lt; omega⟩
-- locals
def lget : List (Nat × AV) → Nat → Option AV
  | [], _ => none
  | q :: t, k => if q.1 = k then some q.2 else lget t k
def lset : List (Nat × AV) → Nat → AV → List (Nat × AV)
  | [], k, v => [(k, v)]
  | q :: t, k, v => if q.1 = k then (k, v) :: t.filter (fun r => !(r.1 == k)) else q :: lset t k v
theorem lget_mem {ls : List (Nat × AV)} {k : Nat} {v : AV} (h : lget ls k = some v) : (k, v) ∈ ls := by
  induction ls with
  | nil => cases h
  | cons q t ih =>
    unfold lget at h
    split at h
    next e => cases h; subst e; exact List.mem_cons_self
    next e => exact List.mem_cons_of_mem _ (ih h)
theorem lset_mem {ls : List (Nat × AV)} {k : Nat} {v : AV} {q : Nat × AV} (h : q ∈ lset ls k v) : q = (k, v) ∨ (q ∈ ls ∧ q.1 ≠ k) := by
  induction ls with
  | nil => exact Or.inl (List.mem_singleton.mp h)
  | cons r t ih =>
    unfold lset at h
    split at h
    next e =>
      rcases List.mem_cons.mp h with h | h
      · exact Or.inl h
      · obtain ⟨h1, h2⟩ := List.mem_filter.mp h
        exact Or.inr ⟨List.mem_cons_of_mem _ h1, by simpa using h2⟩
    next e =>
      rcases List.mem_cons.mp h with h | h
      · exact Or.inr ⟨h ▸ List.mem_cons_self, by rw [h]; exact e⟩
      · rcases ih h with h | ⟨h1, h2⟩
        · exact Or.inl h
        · exact Or.inr ⟨List.mem_cons_of_mem _ h1, h2⟩
theorem lv_more {L : Array Slot} {n : Nat} {l l' : List (Nat × Value)} (h : lv_has L n l) (hs : ∀ q ∈ l', q ∈ l) : lv_has L n l' := ⟨h.1, h.2.1, fun q hq => h.2.2 q (hs q hq)⟩
theorem lv_rd {K : CX} {L : Array Slot} {n k : Nat} {ls : List (Nat × AV)} {v : AV} (h : lv_has L n (ls.map fun q => (q.1, cv K q.2))) (hg : lget ls k = some v) : L[k]? = some (.val (cv K v)) := h.2.2 (k, cv K v) (List.mem_map.mpr ⟨(k, v), lget_mem hg, rfl⟩)
theorem lv_wr {K : CX} {L : Array Slot} {n k : Nat} {ls : List (Nat × AV)} {v : AV} (h : lv_has L n ((k, cv K v) :: (ls.map fun q => (q.1, cv K q.2)).filter (fun q => !(q.1 == k) && !(q.1 + 1 == k && q.2.category == 2)))) (hc : ∀ q ∈ ls, (cv K q.2).category = 1) : lv_has L n ((lset ls k v).map fun q => (q.1, cv K q.2)) := by
  refine lv_more h fun q hq => ?_
  obtain ⟨r, hr, rfl⟩ := List.mem_map.mp hq
  rcases lset_mem hr with rfl | ⟨h1, h2⟩
  · exact List.mem_cons_self
  · refine List.mem_cons_of_mem _ (List.mem_filter.mpr ⟨List.mem_map.mpr ⟨r, h1, rfl⟩, ?_⟩)
    have := hc r h1
    simp [h2, this]
theorem lset_ok {ls : List (Nat × AV)} {k : Nat} {v : AV} (h : ∀ q ∈ ls, okV q.2) (hv : okV v) : ∀ q ∈ lset ls k v, okV q.2 := by
  intro q hq
  rcases lset_mem hq with rfl | ⟨h1, -⟩
  · exact hv
  · exact h q h1
/-- no local is a long -/
def noL (ls : List (Nat × AV)) : Bool := ls.all fun q => match q.2 with
  | .inr (.inr _) => false
  | _ => true
theorem noL_cat {K : CX} {ls : List (Nat × AV)} (h : noL ls = true) : ∀ q ∈ ls, (cv K q.2).category = 1 := by
  intro q hq
  have h1 := List.all_eq_true.mp h q hq
  obtain ⟨k, v⟩ := q
  rcases v with z | a | z
  · rfl
  · rfl
  · cases h1
-- worlds move
theorem TF.warm {K : CX} {s U : State} (hW : s.WarmedH U.vm) (h : TF K s) : TF K U :=
  ⟨va_K.moved hW.alike h.1, fun i hi => by
    obtain ⟨h1, h2, h3, h4⟩ := h.2.1 i hi
    exact ⟨va_O.moved hW.alike h1, va_OF.moved hW.alike h2, va_OF.moved hW.alike h3, va_T.moved hW.alike h4⟩, fun i q hq => vk_R.warm hW (h.2.2.1 i q hq), fun i q hq => va_Nw.warmM hW (h.2.2.2.1 i q hq), ⟨va_Nw.warmC hW h.2.2.2.2.1.1, va_AO.moved hW.alike h.2.2.2.2.1.2.1, va_AO.moved hW.alike h.2.2.2.2.1.2.2⟩, h.2.2.2.2.2.1.moved hW.alike, h.2.2.2.2.2.2.1.moved hW.alike, h.2.2.2.2.2.2.2.1.moved hW.alike, h.2.2.2.2.2.2.2.2.moved hW.alike⟩
theorem TF.same {K : CX} {s U : State} (hv : U.vm = s.vm) (h : TF K s) : TF K U := by
  have hA : s.vm.Alike U.vm := by rw [hv]; exact Vm.Alike.refl _
  exact ⟨va_K.moved hA h.1, fun i hi => by
    obtain ⟨h1, h2, h3, h4⟩ := h.2.1 i hi
    exact ⟨va_O.moved hA h1, va_OF.moved hA h2, va_OF.moved hA h3, va_T.moved hA h4⟩, fun i q hq => vk_R.same hv (h.2.2.1 i q hq), fun i q hq => va_Nw.same rfl hv.symm (h.2.2.2.1 i q hq), ⟨va_Nw.same rfl hv.symm h.2.2.2.2.1.1, va_AO.moved hA h.2.2.2.2.1.2.1, va_AO.moved hA h.2.2.2.2.1.2.2⟩, h.2.2.2.2.2.1.moved hA, h.2.2.2.2.2.2.1.moved hA, h.2.2.2.2.2.2.2.1.moved hA, h.2.2.2.2.2.2.2.2.moved hA⟩
theorem arC.moved {u U : State} (hvm : u.vm.Alike U.vm) {ty : FieldType} {H : Heap} {p n : Nat} {f : Nat → Value} (h : arC u ty H p n f) : arC U ty H p n f := by
  obtain ⟨cell, h1, h2, h3⟩ := h
  exact ⟨cell, h1, State.isArrayOf_alike hvm h2, h3⟩
theorem arC.kept {U : State} {ty : FieldType} {H H' : Heap} {p n : Nat} {f f' : Nat → Value} (h : arC U ty H p n f) (hq : H'[p]? = H[p]?) (hf : ∀ j, f' j = f j) : arC U ty H' p n f' := by
  obtain ⟨cell, h1, h2, h3, h4, h5⟩ := h
  exact ⟨cell, hq.trans h1, h2, h3, h4, fun j hj => by rw [hf j]; exact h5 j hj⟩
theorem arQ.moved {u U : State} (hvm : u.vm.Alike U.vm) {C : String} {H : Heap} {p n : Nat} {f : Nat → Value} (h : arQ u C H p n f) : arQ U C H p n f := by
  obtain ⟨cell, kA, comp, h1, h2, h3, h4, h5, h6⟩ := h
  obtain ⟨k', hk', he⟩ := hvm.2.2 _ _ h3
  exact ⟨cell, k', comp, h1, h2, hk', by rw [he]; exact h4, by rw [hvm.findClass]; exact h5, h6⟩
theorem arQ.kept {U : State} {C : String} {H H' : Heap} {p n : Nat} {f f' : Nat → Value} (h : arQ U C H p n f) (hq : H'[p]? = H[p]?) (hf : ∀ j, f' j = f j) : arQ U C H' p n f' := by
  obtain ⟨cell, kA, comp, h1, h2, h3, h4, h5, h6, h7⟩ := h
  exact ⟨cell, kA, comp, hq.trans h1, h2, h3, h4, h5, h6, fun j hj => by rw [hf j]; exact h7 j hj⟩
theorem CR.moved {K : CX} {u U : State} (hvm : u.vm.Alike U.vm) {S : ShT} {σ : StT} {H : Heap} {a : Nat} (h : CR K u S σ H a) : CR K U S σ H a :=
  ⟨fun e => (h.1 e).moved hvm, fun e => (h.2.1 e).moved hvm, fun e => (h.2.2.1 e).moved hvm, fun e => (h.2.2.2.1 e).moved hvm, fun e => (h.2.2.2.2.1 e).moved hvm, fun e => (h.2.2.2.2.2.1 e).moved hvm, h.2.2.2.2.2.2⟩
theorem CR.kept {K : CX} {U : State} {S S' : ShT} {σ σ' : StT} {H H' : Heap} {a : Nat} (h : CR K U S σ H a) (hk : S'.2.1 a = S.2.1 a) (hr : ∀ j, S'.2.2 a j = S.2.2 a j) (hs : ∀ j, σ' a j = σ a j) (hq : H'[adr K a]? = H[adr K a]?) : CR K U S' σ' H' a := by
  unfold CR
  rw [hk]
  refine ⟨fun e => (h.1 e).kept hq (fun j => by rw [hs j]), fun e => (h.2.1 e).kept hq (fun j => by rw [hs j]), fun e => (h.2.2.1 e).kept hq (fun j => by rw [hs j]), fun e => (h.2.2.2.1 e).kept hq (fun j => by rw [hr j]), fun e => (h.2.2.2.2.1 e).kept hq (fun j => by rw [hr j]), fun e => (h.2.2.2.2.2.1 e).kept hq (fun j => by rw [hs j]), fun ci q hc e => ?_⟩
  refine ((h.2.2.2.2.2.2 ci q hc e).kept hq).to (fun k hk => ?_)
  unfold fv
  rw [hr k, hs k]
theorem HC.moved {K : CX} {u U : State} (hvm : u.vm.Alike U.vm) {S : ShT} {σ : StT} {H : Heap} (h : HC K u S σ H) : HC K U S σ H :=
  ⟨h.1, h.2.1, h.2.2.1, h.2.2.2.1, h.2.2.2.2.1, h.2.2.2.2.2.1, h.2.2.2.2.2.2.1, fun a => (h.2.2.2.2.2.2.2 a).moved hvm⟩
theorem HR.warm {K : CX} {s U : State} (hW : s.WarmedH U.vm) {S : ShT} {σ : StT} {H : Heap} (h : HR K s S σ H) : HR K U S σ H := ⟨h.1.warm hW, h.2.moved hW.alike⟩
theorem HR.st {K : CX} {U : State} {S : ShT} {σ : StT} {H : Heap} (h : HR K U S σ H) (a i : Nat) : inR (σ a i) := h.2.2.2.2.2.2.1 a i
theorem HR.new {K : CX} {U : State} {S : ShT} {σ : StT} {H : Heap} (h : HR K U S σ H) {a : Nat} (h0 : (S.2.1 a).1 ≠ 0) (h7 : (S.2.1 a).1 ≠ 7) : 1 ≤ a ∧ a < S.1 ∧ adr K a = K.2.1 + a - 1 ∧ K.2.1 ≤ adr K a := by
  obtain ⟨h1, h2⟩ := h.2.2.2.2.2.2.2.1 a h0
  rcases h2 with h2 | ⟨-, h2, -⟩
  · have h3 : a < BIG := Nat.lt_trans h2 h.2.2.2.1
    have h4 : adr K a = K.2.1 + a - 1 := by unfold adr; rw [if_pos h3]
    exact ⟨h1, h2, h4, by omega⟩
  · exact absurd h2 h7
/-- a cell is written -/
theorem HR.set {K : CX} {U : State} {S : ShT} {σ σ' : StT} {rf : Nat → Nat → Nat} {H H' : Heap} {o : Nat} (h : HR K U S σ H) (h0 : (S.2.1 o).1 ≠ 0) (h7 : (S.2.1 o).1 ≠ 7) (hz : H'.size = H.size) (hq : ∀ q : Nat, q ≠ adr K o → H'[q]? = H[q]?)
    (hs : ∀ b i, b ≠ o → σ' b i = σ b i) (hr : ∀ b i, b ≠ o → rf b i = S.2.2 b i) (hR : ∀ i, inR (σ' o i)) (hc : CR K U (S.1, S.2.1, rf) σ' H' o) : HR K U (S.1, S.2.1, rf) σ' H' := by
  obtain ⟨hT, k1, k2, k3, k4, k5, k6, k7, k8⟩ := h
  obtain ⟨n1, n2, n3, n4⟩ := HR.new ⟨hT, k1, k2, k3, k4, k5, k6, k7, k8⟩ h0 h7
  refine ⟨hT, k1, k2, k3, by rw [hz]; exact k4, fun q h => ?_, fun a i => ?_, k7, fun a => ?_⟩
  · rw [hq q (by omega)]; exact k5 q h
  · by_cases e : a = o
    · rw [e]; exact hR i
    · rw [hs a i e]; exact k6 a i
  · by_cases e : a = o
    · rw [e]; exact hc
    · by_cases z : (S.2.1 a).1 = 0
      · have z' : ((S.1, S.2.1, rf) : ShT).2.1 a = S.2.1 a := rfl
        unfold CR
        rw [z']
        refine ⟨fun w => ?_, fun w => ?_, fun w => ?_, fun w => ?_, fun w => ?_, fun w => ?_, fun ci q _ w => ?_⟩ <;> exfalso <;> omega
      · refine (k8 a).kept rfl (fun j => hr a j e) (fun j => hs a j e) (hq _ ?_)
        intro hh
        obtain ⟨m1, m2⟩ := k7 a z
        rcases m2 with m2 | ⟨m2, -, m3⟩
        · have : adr K a = K.2.1 + a - 1 := by unfold adr; rw [if_pos (Nat.lt_trans m2 k3)]
          omega
        · have : adr K a = K.2.2.1 a := by unfold adr; rw [if_neg (by omega)]
          omega
/-- a cell comes -/
theorem HR.push {K : CX} {U : State} {S : ShT} {σ : StT} {kd : Nat × Nat} {H H' : Heap} (h : HR K U S σ H) (h7 : kd.1 ≠ 7) (hb : S.1 + 1 < BIG) (hz : H'.size = H.size + 1) (hq : ∀ q : Nat, q < H.size → H'[q]? = H[q]?)
    (hc : CR K U (S.1 + 1, (fun b => if b = S.1 then kd else S.2.1 b), fun b i => if b = S.1 then 0 else S.2.2 b i) (fun b i => if b = S.1 then 0 else σ b i) H' S.1) : HR K U (S.1 + 1, (fun b => if b = S.1 then kd else S.2.1 b), fun b i => if b = S.1 then 0 else S.2.2 b i) (fun b i => if b = S.1 then 0 else σ b i) H' := by
  obtain ⟨hT, k1, k2, k3, k4, k5, k6, k7, k8⟩ := h
  refine ⟨hT, k1, by show 1 ≤ S.1 + 1; omega, hb, by show H'.size = K.2.1 + (S.1 + 1) - 1; omega, fun q h => ?_, fun a i => ?_, fun a ha => ?_, fun a => ?_⟩
  · rw [hq q (by omega)]; exact k5 q h
  · show inR (if a = S.1 then 0 else σ a i)
    split
    · exact inR_0
    · exact k6 a i
  · by_cases e : a = S.1
    · exact ⟨by omega, Or.inl (by show a < S.1 + 1; omega)⟩
    · simp only [if_neg e] at ha ⊢
      obtain ⟨m1, m2⟩ := k7 a ha
      refine ⟨m1, ?_⟩
      rcases m2 with m2 | m2
      · exact Or.inl (by omega)
      · exact Or.inr m2
  · by_cases e : a = S.1
    · rw [e]; exact hc
    · by_cases z : (S.2.1 a).1 = 0
      · unfold CR
        simp only [if_neg e]
        refine ⟨fun w => ?_, fun w => ?_, fun w => ?_, fun w => ?_, fun w => ?_, fun w => ?_, fun ci q _ w => ?_⟩ <;> exfalso <;> omega
      · refine (k8 a).kept (by simp [e]) (fun j => by simp [e]) (fun j => by simp [e]) (hq _ ?_)
        obtain ⟨m1, m2⟩ := k7 a z
        rcases m2 with m2 | ⟨m2, -, m3⟩
        · have : adr K a = K.2.1 + a - 1 := by unfold adr; rw [if_pos (Nat.lt_trans m2 k3)]
          omega
        · have : adr K a = K.2.2.1 a := by unfold adr; rw [if_neg (by omega)]
          omega
def up2 (σ : StT) (a i : Nat) (v : Int) : StT := fun b j => if b = a ∧ j = i then v else σ b j
def upR (S : ShT) (a i v : Nat) : ShT := (S.1, S.2.1, fun b j => if b = a ∧ j = i then v else S.2.2 b j)
def pushC (S : ShT) (kd : Nat × Nat) : ShT := (S.1 + 1, (fun b => if b = S.1 then kd else S.2.1 b), fun b i => if b = S.1 then 0 else S.2.2 b i)
def pushZ (σ : StT) (n : Nat) : StT := fun b i => if b = n then 0 else σ b i
