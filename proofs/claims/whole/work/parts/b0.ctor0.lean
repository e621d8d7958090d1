/-! the making of the objects: shapes as lists -/
def shN (n : Nat) (R : List (List Nat)) (kB : Nat → Nat × Nat) : ShT := (n, (fun a => if a < BIG then (if a < n then KDt.getD a (0, 0) else (0, 0)) else kB a), fun a k => (R.getD a []).getD k 0)
def setAt : List Nat → Nat → Nat → List Nat
  | [], 0, v => [v]
  | [], i + 1, v => 0 :: setAt [] i v
  | _ :: l, 0, v => v :: l
  | x :: l, i + 1, v => x :: setAt l i v
theorem setAt_get : ∀ (l : List Nat) (i v j : Nat), (setAt l i v).getD j 0 = if j = i then v else l.getD j 0
  | [], 0, v, 0 => rfl
  | [], 0, v, j + 1 => rfl
  | [], i + 1, v, 0 => rfl
  | [], i + 1, v, j + 1 => by
    have := setAt_get [] i v j
    show (setAt [] i v).getD j 0 = _
    rw [this]
    by_cases c : j = i
    · rw [if_pos c, if_pos (by omega)]
    · rw [if_neg c, if_neg (by omega)]; rfl
  | x :: l, 0, v, 0 => rfl
  | x :: l, 0, v, j + 1 => rfl
  | x :: l, i + 1, v, 0 => rfl
  | x :: l, i + 1, v, j + 1 => by
    have := setAt_get l i v j
    show (setAt l i v).getD j 0 = _
    rw [this]
    by_cases c : j = i
    · rw [if_pos c, if_pos (by omega)]
    · rw [if_neg c, if_neg (by omega)]; rfl
theorem push_N {n : Nat} {R : List (List Nat)} {kB : Nat → Nat × Nat} {kd : Nat × Nat} (hR : R.length = n) (hn : n < BIG) (hk : KDt.getD n (0, 0) = kd) : pushC (shN n R kB) kd = shN (n + 1) (R ++ [[]]) kB := by
  refine Prod.ext rfl (Prod.ext (funext fun b => ?_) (funext fun b => funext fun i => ?_))
  · show (if b = n then kd else if b < BIG then (if b < n then KDt.getD b (0, 0) else (0, 0)) else kB b) = if b < BIG then (if b < n + 1 then KDt.getD b (0, 0) else (0, 0)) else kB b
    by_cases c : b = n
    · rw [if_pos c, if_pos (by omega), if_pos (by omega), c, hk]
    · rw [if_neg c]
      by_cases c2 : b < BIG
      · rw [if_pos c2, if_pos c2]
        by_cases c3 : b < n
        · rw [if_pos c3, if_pos (by omega)]
        · rw [if_neg c3, if_neg (by omega)]
      · rw [if_neg c2, if_neg c2]
  · show (if b = n then 0 else (R.getD b []).getD i 0) = ((R ++ [[]]).getD b []).getD i 0
    by_cases c : b < n
    · rw [if_neg (by omega), gd_l (by omega)]
    · rw [gd_r (by omega)]
      by_cases c2 : b = n
      · rw [if_pos c2, show b - R.length = 0 by omega]; rfl
      · rw [if_neg c2]
        have e1 : R.getD b [] = [] := by rw [List.getD_eq_getElem?_getD, List.getElem?_eq_none (by omega)]; rfl
        have e2 : ([[]] : List (List Nat)).getD (b - R.length) [] = [] := by rw [List.getD_eq_getElem?_getD, List.getElem?_eq_none (by simp; omega)]; rfl
        rw [e1, e2]
theorem up_N {n o i v : Nat} {Rp rest : List (List Nat)} {row : List Nat} {kB : Nat → Nat × Nat} (hR : Rp.length = o) : upR (shN n (Rp ++ row :: rest) kB) o i v = shN n (Rp ++ setAt row i v :: rest) kB := by
  refine Prod.ext rfl (Prod.ext rfl (funext fun b => funext fun j => ?_))
  show (if b = o ∧ j = i then v else ((Rp ++ row :: rest).getD b []).getD j 0) = ((Rp ++ setAt row i v :: rest).getD b []).getD j 0
  by_cases c : b < o
  · rw [if_neg (by omega), gd_l (by omega), gd_l (by omega)]
  · rw [gd_r (by omega), gd_r (by omega)]
    by_cases c2 : b = o
    · rw [show b - Rp.length = 0 by omega]
      show (if b = o ∧ j = i then v else row.getD j 0) = (setAt row i v).getD j 0
      rw [setAt_get]
      by_cases c3 : j = i
      · rw [if_pos ⟨c2, c3⟩, if_pos c3]
      · rw [if_neg (fun q => c3 q.2), if_neg c3]
    · rw [if_neg (fun q => c2 q.1)]
      obtain ⟨k, hk⟩ : ∃ k, b - Rp.length = k + 1 := ⟨b - Rp.length - 1, by omega⟩
      rw [hk]; rfl
theorem gd_set {l : List (List Nat)} {j k : Nat} {x : List Nat} (hj : j < l.length) : (l.set j x).getD k [] = if k = j then x else l.getD k [] := by
  rw [List.getD_eq_getElem?_getD, List.getD_eq_getElem?_getD, List.getElem?_set]
  by_cases c : j = k
  · rw [if_pos c, if_pos c.symm, if_pos hj]; rfl
  · rw [if_neg c, if_neg (fun e => c e.symm)]
theorem up_M {n o j i v : Nat} {Rp rest : List (List Nat)} {row : List Nat} {kB : Nat → Nat × Nat} (hR : Rp.length = o) (hj : j < rest.length) : upR (shN n (Rp ++ row :: rest) kB) (o + 1 + j) i v = shN n (Rp ++ row :: rest.set j (setAt (rest.getD j []) i v)) kB := by
  refine Prod.ext rfl (Prod.ext rfl (funext fun b => funext fun k => ?_))
  show (if b = o + 1 + j ∧ k = i then v else ((Rp ++ row :: rest).getD b []).getD k 0) = ((Rp ++ row :: rest.set j (setAt (rest.getD j []) i v)).getD b []).getD k 0
  by_cases c : b < o
  · rw [if_neg (by omega), gd_l (by omega), gd_l (by omega)]
  · rw [gd_r (by omega), gd_r (by omega)]
    by_cases c2 : b = o
    · rw [if_neg (by omega), show b - Rp.length = 0 by omega]; rfl
    · obtain ⟨t, ht⟩ : ∃ t, b - Rp.length = t + 1 := ⟨b - Rp.length - 1, by omega⟩
      rw [ht]
      show (if b = o + 1 + j ∧ k = i then v else (rest.getD t []).getD k 0) = ((rest.set j (setAt (rest.getD j []) i v)).getD t []).getD k 0
      rw [gd_set hj]
      by_cases c3 : t = j
      · rw [if_pos c3, setAt_get, c3]
        by_cases c4 : k = i
        · rw [if_pos ⟨by omega, c4⟩, if_pos c4]
        · rw [if_neg (fun q => c4 q.2), if_neg c4]
      · rw [if_neg c3, if_neg (by omega)]
theorem kN {n a : Nat} {R : List (List Nat)} {kB : Nat → Nat × Nat} {kd : Nat × Nat} (h1 : a < n) (h2 : n < BIG) (hk : KDt.getD a (0, 0) = kd) : (shN n R kB).2.1 a = kd := by
  show (if a < BIG then (if a < n then KDt.getD a (0, 0) else (0, 0)) else kB a) = kd
  rw [if_pos (by omega), if_pos h1]; exact hk
/-- all that is made begins with nothing, but for what isn't asked -/
def ZI (σ0 σ : StT) (n : Nat) : Prop := (∀ b j, 1 ≤ b → b < n → (b = 30 ∨ (j ≠ 7 ∧ j ≠ 8)) → ¬ (b = 124 ∧ j = 6) → ¬ (b = 125 ∧ j = 3) → σ b j = 0) ∧ ∀ b j, BIG ≤ b → σ b j = σ0 b j
theorem ZI.push {σ0 σ : StT} {n : Nat} (h : ZI σ0 σ n) (hn : n < BIG) : ZI σ0 (pushZ σ n) (n + 1) := by
  refine ⟨fun b j h1 h2 h3 h4 h5 => ?_, fun b j hb => ?_⟩
  · by_cases c : b = n
    · exact if_pos c
    · rw [pushZ_b c]; exact h.1 b j h1 (by omega) h3 h4 h5
  · rw [pushZ_b (by omega)]; exact h.2 b j hb
theorem ZI.put0 {σ0 σ : StT} {n o k : Nat} (h : ZI σ0 σ n) (ho : o < BIG) : ZI σ0 (up2 σ o k 0) n := by
  refine ⟨fun b j h1 h2 h3 h4 h5 => ?_, fun b j hb => ?_⟩
  · by_cases c : b = o ∧ j = k
    · exact if_pos c
    · show (if b = o ∧ j = k then (0 : Int) else σ b j) = 0
      rw [if_neg c]; exact h.1 b j h1 h2 h3 h4 h5
  · rw [up2_a (by omega)]; exact h.2 b j hb
theorem ZI.putx {σ0 σ : StT} {n o k : Nat} {v : Int} (h : ZI σ0 σ n) (ho : o < BIG) (hx : (o ≠ 30 ∧ (k = 7 ∨ k = 8)) ∨ (o = 124 ∧ k = 6) ∨ (o = 125 ∧ k = 3)) : ZI σ0 (up2 σ o k v) n := by
  refine ⟨fun b j h1 h2 h3 h4 h5 => ?_, fun b j hb => ?_⟩
  · have c : ¬ (b = o ∧ j = k) := by omega
    show (if b = o ∧ j = k then v else σ b j) = 0
    rw [if_neg c]; exact h.1 b j h1 h2 h3 h4 h5
  · rw [up2_a (by omega)]; exact h.2 b j hb
section NROW
variable {y : ME} {pc : Nat} {ls : List (Nat × AV)} {st : List AV} {σ : StT} {rc rs : Nat} {Q : Int → ShT → StT → Prop} {Rp rest rest' : List (List Nat)} {row row' : List Nat} {kB : Nat → Nat × Nat} {n o : Nat}
theorem n_len (hR : Rp.length = o) (hn : o + 1 + rest.length = n) : (Rp ++ row :: rest).length = n := by rw [List.length_append, List.length_cons, hR]; omega
theorem n_newI {m : Nat} {z : Int} {t : ArrayType} {kk : Nat} (hR : Rp.length = o) (hn : o + 1 + rest.length = n) (hb : n + 1 < BIG) (hk : KDt.getD n (0, 0) = (kk, m)) (hr : rest ++ [[]] = rest') (hd : decode (me_c y) pc = .ok (.newarray t, 2)) (ht : (t = .int ∧ kk = 1) ∨ (t = .boolean ∧ kk = 2) ∨ (t = .long ∧ kk = 3)) (hw : Cond.arrayClass (newarray.typeOf t) ∈ GB) (hz : z = (m : Int)) (hm : m ≤ 100000)
    (k : AW y (pc + 2) ls (vR n :: st) (shN (n + 1) (Rp ++ row :: rest') kB) (pushZ σ n) rc rs Q) : AW y pc ls (vI z :: st) (shN n (Rp ++ row :: rest) kB) σ (rc + 1) (rs + m) Q := by
  refine r_newI hd ht hw hz hm hb ?_
  rw [push_N (n_len hR hn) (by omega) hk, List.append_assoc, List.cons_append, hr]
  exact k
theorem n_newQ {m ix kk : Nat} {z : Int} {nm : String} (hR : Rp.length = o) (hn : o + 1 + rest.length = n) (hb : n + 1 < BIG) (hkd : KDt.getD n (0, 0) = (kk, m)) (hr : rest ++ [[]] = rest') (hd : decode (me_c y) pc = .ok (.anewarray ix, 3)) (hk : (kk = 4 ∧ nm = RX0) ∨ (kk = 5 ∧ nm = RX5)) (h1 : Cond.classLink (me_n y).cls ix nm ∈ GB) (hz : z = (m : Int)) (hm : m ≤ 100000)
    (k : AW y (pc + 3) ls (vR n :: st) (shN (n + 1) (Rp ++ row :: rest') kB) (pushZ σ n) rc rs Q) : AW y pc ls (vI z :: st) (shN n (Rp ++ row :: rest) kB) σ (rc + 1) (rs + m) Q := by
  refine r_newQ hd hk h1 hz hm hb ?_
  rw [push_N (n_len hR hn) (by omega) hkd, List.append_assoc, List.cons_append, hr]
  exact k
theorem n_new {ci m ix : Nat} {q : vw_C} (hR : Rp.length = o) (hn : o + 1 + rest.length = n) (hb : n + 1 < BIG) (hk : KDt.getD n (0, 0) = (10 + ci, 0)) (hd : decode (me_c y) pc = .ok (.new ix, 3)) (hq : vwCl[ci]? = some q) (h1 : Cond.classLink (me_n y).cls ix q.1 ∈ GB) (h2 : Cond.instantiable q.1 m ∈ GB) (h3 : Cond.initialized q.1 ∈ GB) (hdv : ∀ k, k < q.2.2 → defaultValue (clTy ci k) = if isRf (clTy ci k) = true then .null else .int 0) (hci : ci < 12)
    (k : AW y (pc + 3) ls (vR n :: st) (shN (n + 1) ((Rp ++ row :: rest) ++ [[]]) kB) (pushZ σ n) rc rs Q) : AW y pc ls st (shN n (Rp ++ row :: rest) kB) σ (rc + 1) (rs + m) Q := by
  refine r_new hd hq h1 h2 h3 hdv hci hb ?_
  rw [push_N (n_len hR hn) (by omega) hk]
  exact k
theorem n_as {rows : List (List Nat)} (hr : rest ++ rows = rest') (k : AW y pc ls st (shN n (Rp ++ row :: rest') kB) σ rc rs Q) : AW y pc ls st (shN n ((Rp ++ row :: rest) ++ rows) kB) σ rc rs Q := by
  rw [List.append_assoc, List.cons_append, hr]; exact k
theorem n_putR {ci k ix a : Nat} (hR : Rp.length = o) (hon : o < n) (hb : n < BIG) (hk : KDt.getD o (0, 0) = (10 + ci, 0)) (hr : setAt row k a = row') (hd : decode (me_c y) pc = .ok (.putfield ix, 3)) (hf : FL (me_n y).cls ix ci k) (hfin : ∀ q : vw_C, vwCl[ci]? = some q → (q.2.1 k).2.2.2 = true ∧ (q.2.1 k).1 = (me_n y).cls) (hty : isRf (clTy ci k) = true) (hinit : (me_n y).name = "<init>") (ha : a ≠ 0)
    (kk : AW y (pc + 3) ls st (shN n (Rp ++ row' :: rest) kB) σ rc rs Q) : AW y pc ls (vR a :: vR o :: st) (shN n (Rp ++ row :: rest) kB) σ rc rs Q := by
  refine r_putR hd hf hfin hty hinit (by rw [kN hon hb hk]) ha ?_
  rw [up_N hR, hr]; exact kk
theorem n_putI {ci k ix : Nat} {z : Int} (hon : o < n) (hb : n < BIG) (hk : KDt.getD o (0, 0) = (10 + ci, 0)) (hd : decode (me_c y) pc = .ok (.putfield ix, 3)) (hf : FL (me_n y).cls ix ci k) (hfin : ∀ q : vw_C, vwCl[ci]? = some q → (q.2.1 k).2.2.2 = false) (hty : clTy ci k = .int ∨ (clTy ci k = .boolean ∧ (z = 0 ∨ z = 1)))
    (kk : AW y (pc + 3) ls st (shN n (Rp ++ row :: rest) kB) (up2 σ o k z) rc rs Q) : AW y pc ls (vI z :: vR o :: st) (shN n (Rp ++ row :: rest) kB) σ rc rs Q :=
  r_putI hd hf hfin hty (by rw [kN hon hb hk]) kk
theorem n_getR {ci k ix a : Nat} (hR : Rp.length = o) (hon : o < n) (hb : n < BIG) (hk : KDt.getD o (0, 0) = (10 + ci, 0)) (hv : row.getD k 0 = a) (hne : a ≠ 0) (hd : decode (me_c y) pc = .ok (.getfield ix, 3)) (hf : FL (me_n y).cls ix ci k) (hty : isRf (clTy ci k) = true)
    (kk : AW y (pc + 3) ls (vR a :: st) (shN n (Rp ++ row :: rest) kB) σ rc rs Q) : AW y pc ls (vR o :: st) (shN n (Rp ++ row :: rest) kB) σ rc rs Q := by
  refine r_getRv hd hf hty (kN hon hb hk) ?_ hne kk
  show ((Rp ++ row :: rest).getD o []).getD k 0 = a
  rw [gd_r (by omega), show o - Rp.length = 0 by omega]; exact hv
/-- the same with the new object's row at the end -/
theorem n_getR' {ci k ix a : Nat} {more : List (List Nat)} (hR : Rp.length = o) (hon : o < n) (hb : n < BIG) (hk : KDt.getD o (0, 0) = (10 + ci, 0)) (hv : row.getD k 0 = a) (hne : a ≠ 0) (hd : decode (me_c y) pc = .ok (.getfield ix, 3)) (hf : FL (me_n y).cls ix ci k) (hty : isRf (clTy ci k) = true)
    (kk : AW y (pc + 3) ls (vR a :: st) (shN n ((Rp ++ row :: rest) ++ more) kB) σ rc rs Q) : AW y pc ls (vR o :: st) (shN n ((Rp ++ row :: rest) ++ more) kB) σ rc rs Q := by
  refine r_getRv hd hf hty (kN hon hb hk) ?_ hne kk
  show (((Rp ++ row :: rest) ++ more).getD o []).getD k 0 = a
  rw [List.append_assoc, gd_r (by omega), show o - Rp.length = 0 by omega]; exact hv
theorem n_aast {a m x ci j : Nat} {i : Int} {i' : Nat} (hR : Rp.length = o) (hj : j < rest.length) (ha : a = o + 1 + j) (han : a < n) (hxn : x < n) (hb : n < BIG) (hd : decode (me_c y) pc = .ok (.aastore, 1)) (hk : (KDt.getD a (0, 0) = (4, m) ∧ ci = 0) ∨ (KDt.getD a (0, 0) = (5, m) ∧ ci = 5)) (hx : KDt.getD x (0, 0) = (10 + ci, 0)) (hi : i = (i' : Int)) (h1 : i' < m) (hne : x ≠ 0) (hr : rest.set j (setAt (rest.getD j []) i' x) = rest')
    (kk : AW y (pc + 1) ls st (shN n (Rp ++ row :: rest') kB) σ rc rs Q) : AW y pc ls (vR x :: vI i :: vR a :: st) (shN n (Rp ++ row :: rest) kB) σ rc rs Q := by
  subst hi
  refine r_aast (n := m) (ci := ci) hd ?_ (by rw [kN hxn hb hx]) (by omega) (by omega) hne ?_
  · rcases hk with ⟨q1, q2⟩ | ⟨q1, q2⟩
    · exact Or.inl ⟨kN han hb q1, q2⟩
    · exact Or.inr ⟨kN han hb q1, q2⟩
  · subst ha
    rw [tn_cast, up_M hR hj, hr]; exact kk
end NROW
theorem dv0 (k : Nat) : defaultValue (tyX0 k) = if isRf (tyX0 k) = true then .null else .int 0 := by unfold tyX0; split <;> rfl
theorem dv1 (k : Nat) : defaultValue (tyX1 k) = if isRf (tyX1 k) = true then .null else .int 0 := by unfold tyX1; split <;> rfl
theorem dv2 (k : Nat) : defaultValue (tyX2 k) = if isRf (tyX2 k) = true then .null else .int 0 := by unfold tyX2; split <;> rfl
theorem dv3 (k : Nat) : defaultValue (tyX3 k) = if isRf (tyX3 k) = true then .null else .int 0 := by unfold tyX3; split <;> rfl
theorem dv4 (k : Nat) : defaultValue (tyX4 k) = if isRf (tyX4 k) = true then .null else .int 0 := by unfold tyX4; split <;> rfl
theorem dv5 (k : Nat) : defaultValue (tyX5 k) = if isRf (tyX5 k) = true then .null else .int 0 := by unfold tyX5; split <;> rfl
theorem dv6 (k : Nat) : defaultValue (tyX6 k) = if isRf (tyX6 k) = true then .null else .int 0 := by unfold tyX6; split <;> rfl
theorem dv7 (k : Nat) : defaultValue (tyX7 k) = if isRf (tyX7 k) = true then .null else .int 0 := by unfold tyX7; split <;> rfl
theorem dv8 (k : Nat) : defaultValue (tyX8 k) = if isRf (tyX8 k) = true then .null else .int 0 := by unfold tyX8; split <;> rfl
theorem dv9 (k : Nat) : defaultValue (tyX9 k) = if isRf (tyX9 k) = true then .null else .int 0 := by unfold tyX9; split <;> rfl
theorem dv10 (k : Nat) : defaultValue (tyX10 k) = if isRf (tyX10 k) = true then .null else .int 0 := by unfold tyX10; split <;> rfl
theorem dv11 (k : Nat) : defaultValue (tyX11 k) = if isRf (tyX11 k) = true then .null else .int 0 := by unfold tyX11; split <;> rfl
