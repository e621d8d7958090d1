/-! methods as entries; words -/
/-- a method: name, bytes, locals, what it returns, frames and locals' words that its calls need -/
abbrev ME : Type := (MethodName × ByteArray) × (Nat × Option FieldType) × (Nat × Nat)
abbrev me_n (y : ME) : MethodName := y.1.1
abbrev me_c (y : ME) : ByteArray := y.1.2
abbrev me_l (y : ME) : Nat := y.2.1.1
abbrev me_r (y : ME) : Option FieldType := y.2.1.2
abbrev me_f (y : ME) : Nat := y.2.2.1
abbrev me_w (y : ME) : Nat := y.2.2.2
def GB : List Cond := lw_tbl.filter goodWord
theorem gb_in {w : Cond} (h : w ∈ lw_tbl) (g : goodWord w = true) : w ∈ GB := List.mem_filter.mpr ⟨h, g⟩
theorem gb_good {ws : List Cond} (h : ∀ w ∈ ws, w ∈ GB) : GoodIn GB ws := fun w hw => ⟨h w hw, good_of_word (List.mem_filter.mp (h w hw)).2⟩
def FL (own : String) (ix ci k : Nat) : Prop := ∃ q : vw_C, vwCl[ci]? = some q ∧ k < q.2.2 ∧ Cond.fieldLink own ix (q.2.1 k).1 (q.2.1 k).2.1 (q.2.1 k).2.2.1 ∈ GB
/-- what a method's words are: its code, and how it may be called; its class's number -/
def MO (z : ME) (n : Nat) : Prop := Cond.code (me_n z) (me_c z) (me_l z) (me_r z) ∈ GB ∧ Cond.initialized (me_n z).cls ∈ GB ∧ (me_n z).cls ≠ "java/lang/invoke/MethodHandle" ∧ (me_n z).cls ≠ "java/lang/invoke/VarHandle" ∧ (parseMethodDescriptor (me_n z).desc).map (fun d => d.parameters.length) = some n
/-- calls, by what a method's words are and what a link's are -/
def MV (z : ME) (n ci : Nat) : Prop := MO z n ∧ Cond.instanceMethod (me_n z) ∈ GB ∧ Cond.selects (me_n z).cls (me_n z) (me_n z) ∈ GB ∧ ∃ q : vw_C, vwCl[ci]? = some q ∧ q.1 = (me_n z).cls
def MS (z : ME) (n : Nat) : Prop := MO z n ∧ Cond.static (me_n z) ∈ GB
def LK (own : String) (ix : Nat) (z : MethodName) : Prop := Cond.methodLink own ix z ∈ GB
