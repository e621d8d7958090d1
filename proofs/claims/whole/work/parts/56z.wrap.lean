/-! sums that may go round -/
def wr (z : Int) : Int := (Int32.ofInt z).toInt
theorem wr_id {z : Int} (h : inR z) : wr z = z := i_toInt h
theorem wr_in (z : Int) : inR (wr z) := i_back _
section WRAP
variable {y : ME} {pc : Nat} {ls : List (Nat × AV)} {st : List AV} {S : ShT} {σ : StT} {rc rs : Nat} {Q : Int → ShT → StT → Prop}
theorem r_iaddW {a b : Int} (hd : decode (me_c y) pc = .ok (.iadd, 1)) (k : AW y (pc + 1) ls (vI (wr (a + b)) :: st) S σ rc rs Q) : AW y pc ls (vI b :: vI a :: st) S σ rc rs Q := by
  intro p l e s m args below meth c H locs cells slots mc ms K L C B hH hl hs hL
  refine lv_iadd C.1 C.2.1 hd ?_
  rw [← Int32.ofInt_add a b, ← Int32.ofInt_toInt (Int32.ofInt (a + b))]
  exact (k p l e s m args below meth c H locs cells slots mc ms K L C B hH hl (ok_c (i_back _) (ok_t (ok_t hs))) hL)
theorem r_isubW {a b : Int} (hd : decode (me_c y) pc = .ok (.isub, 1)) (k : AW y (pc + 1) ls (vI (wr (a - b)) :: st) S σ rc rs Q) : AW y pc ls (vI b :: vI a :: st) S σ rc rs Q := by
  intro p l e s m args below meth c H locs cells slots mc ms K L C B hH hl hs hL
  refine lv_isub C.1 C.2.1 hd ?_
  rw [← Int32.ofInt_sub a b, ← Int32.ofInt_toInt (Int32.ofInt (a - b))]
  exact (k p l e s m args below meth c H locs cells slots mc ms K L C B hH hl (ok_c (i_back _) (ok_t (ok_t hs))) hL)
theorem r_imulW {a b : Int} (hd : decode (me_c y) pc = .ok (.imul, 1)) (k : AW y (pc + 1) ls (vI (wr (a * b)) :: st) S σ rc rs Q) : AW y pc ls (vI b :: vI a :: st) S σ rc rs Q := by
  intro p l e s m args below meth c H locs cells slots mc ms K L C B hH hl hs hL
  refine lv_imul C.1 C.2.1 hd ?_
  rw [← Int32.ofInt_mul a b, ← Int32.ofInt_toInt (Int32.ofInt (a * b))]
  exact (k p l e s m args below meth c H locs cells slots mc ms K L C B hH hl (ok_c (i_back _) (ok_t (ok_t hs))) hL)
end WRAP
