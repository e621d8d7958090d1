/-! what the statement gives of the start, in the machine's own words -/
section ENT
variable {args : Array Value} {s : State}
def st_t (i : Nat) : Term := .string (strTab.getD i ("", 0, "")).1 (strTab.getD i ("", 0, "")).2.1
def st_v (i : Nat) : Term := .field (st_t i) "java/lang/String" "value" "[B"
def st_w (i : Nat) : List Cond := [.exactly (st_t i) "java/lang/String", .eq (.field (st_t i) "java/lang/String" "coder" "B") (.int 0), .arrayOf (st_v i) .byte, .eq (.length (st_v i)) (.int (Int32.ofNat (strCh i).length))] ++ (List.range (strCh i).length).map fun j => .eq (.elem (st_v i) (.int (Int32.ofNat j))) (.int (Int32.ofInt ((strCh i).getD j 0)))
abbrev stF : List Cond := flatC (Jvm.Cond.and given_1 narrow_1)
theorem st_in : ((List.range 12).all fun i => (st_w i).all fun w => decide (w ∈ stF)) = true := by decide +kernel
theorem st_in12 : Cond.exactly (st_t 12) "java/lang/String" ∈ stF := by decide +kernel
theorem st_has {i : Nat} (hi : i < 12) {w : Cond} (hw : w ∈ st_w i) : w ∈ stF := of_decide_eq_true (List.all_eq_true.mp (List.all_eq_true.mp st_in i (List.mem_range.mpr hi)) w hw)
theorem st_getD (l : List Int) (j : Nat) : (l.map Int32.ofInt).getD j 0 = Int32.ofInt (l.getD j 0) := by
  rw [List.getD_eq_getElem?_getD, List.getD_eq_getElem?_getD, List.getElem?_map]
  cases l[j]? <;> rfl
theorem st_one {A : Nat → Prop} (h : ∀ w ∈ stF, w.before args s = true) (hA : ∀ a : Nat, a < s.heap.size → ¬ A a) {i : Nat} (hi : i < 12) : ∃ q : Nat × Nat, (st_t i).eval args s none [] s = some (.ref q.1) ∧ va_O "java/lang/String" q.1 A s s.heap ∧ va_OF "java/lang/String" "coder" "B" (.int 0) q.1 A s s.heap ∧ va_OF "java/lang/String" "value" "[B" (.ref q.2) q.1 A s s.heap ∧ va_T .byte q.2 (strCh i).length (fun j => .int (Int32.ofInt ((strCh i).getD j 0))) A s s.heap := by
  have hw : ∀ w ∈ st_w i, w.before args s = true := fun w hw => h w (st_has hi hw)
  have hlen : (strCh i).length < 2 ^ 31 := by
    unfold strCh
    split <;> decide
  obtain ⟨adK, adV, h1, h2⟩ := vk_Sof (args := args) (s := s) (N := 1) (tm := fun _ => st_t i) (len := [(strCh i).length]) (byt := [(strCh i).map Int32.ofInt]) (A := A)
    (fun k hk => by obtain rfl : k = 0 := by omega
                    exact hlen)
    (fun k hk => hw _ (by simp [st_w])) (fun k hk => hw _ (by simp [st_w])) (fun k hk => hw _ (by simp [st_w, st_v]))
    (fun k hk => by obtain rfl : k = 0 := by omega
                    exact hw _ (by simp [st_w, st_v]))
    (fun k hk j hj => by
      obtain rfl : k = 0 := by omega
      have e : (([(strCh i).map Int32.ofInt] : List (List Int32)).getD 0 []).getD j 0 = Int32.ofInt ((strCh i).getD j 0) := st_getD _ _
      rw [e]
      refine hw _ (List.mem_append_right _ (List.mem_map.mpr ⟨j, List.mem_range.mpr hj, rfl⟩)))
    (fun k1 k2 h1 h2 hne => absurd (show k1 = k2 by omega) hne) hA
  obtain ⟨a1, a2, a3, a4⟩ := h1.1 0 (by omega)
  refine ⟨(adK 0, adV 0), h2 0 (by omega), a1, a2, a3, ?_⟩
  have e : (fun j => Value.int ((([(strCh i).map Int32.ofInt] : List (List Int32)).getD 0 []).getD j 0)) = (fun j => Value.int (Int32.ofInt ((strCh i).getD j 0))) := funext fun j => congrArg Value.int (st_getD _ _)
  rw [e] at a4
  exact a4
theorem st_all {A : Nat → Prop} (h : ∀ w ∈ stF, w.before args s = true) (hA : ∀ a : Nat, a < s.heap.size → ¬ A a) : ∃ q : Nat → Nat × Nat, ∀ i : Nat, (i < 13 → (st_t i).eval args s none [] s = some (.ref (q i).1)) ∧ (i < 12 → va_O "java/lang/String" (q i).1 A s s.heap ∧ va_OF "java/lang/String" "coder" "B" (.int 0) (q i).1 A s s.heap ∧ va_OF "java/lang/String" "value" "[B" (.ref (q i).2) (q i).1 A s s.heap ∧ va_T .byte (q i).2 (strCh i).length (fun j => .int (Int32.ofInt ((strCh i).getD j 0))) A s s.heap) := by
  refine Classical.axiomOfChoice (r := fun i (q : Nat × Nat) => (i < 13 → (st_t i).eval args s none [] s = some (.ref q.1)) ∧ (i < 12 → va_O "java/lang/String" q.1 A s s.heap ∧ va_OF "java/lang/String" "coder" "B" (.int 0) q.1 A s s.heap ∧ va_OF "java/lang/String" "value" "[B" (.ref q.2) q.1 A s s.heap ∧ va_T .byte q.2 (strCh i).length (fun j => .int (Int32.ofInt ((strCh i).getD j 0))) A s s.heap)) (fun i => ?_)
  by_cases c : i < 12
  · obtain ⟨q, h1, h2⟩ := st_one h hA c
    exact ⟨q, fun _ => h1, fun _ => h2⟩
  · by_cases c2 : i = 12
    · subst c2
      obtain ⟨a, c0, cA, kA, q1, -⟩ := Cond.exactly_spec (args := args) (first := s) (o := none) (s := s) (idx := []) (t := st_t 12) (cls := "java/lang/String") (h _ st_in12)
      exact ⟨(a, 0), fun _ => q1, fun x => absurd x (by omega)⟩
    · exact ⟨(0, 0), fun x => absurd x (by omega), fun x => absurd x c⟩
theorem cl_inst {ci : Nat} {q : vw_C} (h : vwCl[ci]? = some q) : ∃ n : Nat, Cond.instantiable q.1 n ∈ GB := by
  match ci, h with
  | 0, h => cases h; exact ⟨_, wn_X0⟩
  | 1, h => cases h; exact ⟨_, wn_X1⟩
  | 2, h => cases h; exact ⟨_, wn_X2⟩
  | 3, h => cases h; exact ⟨_, wn_X3⟩
  | 4, h => cases h; exact ⟨_, wn_X4⟩
  | 5, h => cases h; exact ⟨_, wn_X5⟩
  | 6, h => cases h; exact ⟨_, wn_X6⟩
  | 7, h => cases h; exact ⟨_, wn_X7⟩
  | 8, h => cases h; exact ⟨_, wn_X8⟩
  | 9, h => cases h; exact ⟨_, wn_X9⟩
  | 10, h => cases h; exact ⟨_, wn_X10⟩
  | 11, h => cases h; exact ⟨_, wn_X11⟩
  | n + 12, h => cases h
theorem cl_known (hts : ∀ w ∈ GB, w.before args s = true) : ∃ D : va_G, va_K D vwCl [] s := by
  have h0 : ∀ c : Nat, ∃ d : ClassId × (Nat → Nat), ∀ q : vw_C, vwCl[c]? = some q → u_Kn s q.1 q.2.1 q.2.2 d.1 d.2 := by
    intro c
    cases e : vwCl[c]? with
    | none => exact ⟨(0, fun _ => 0), fun q h => by cases h⟩
    | some q =>
      obtain ⟨n, hn⟩ := cl_inst e
      obtain ⟨cC, iS, hk⟩ := u_known (ws := GB) hts (cl_ok e).2.2 (hts _ hn)
      exact ⟨(cC, iS), fun q' h => by cases h; exact hk⟩
  obtain ⟨d, hd⟩ := Classical.axiomOfChoice h0
  exact ⟨(fun c => (d c).1, fun c => (d c).2), fun c q hq => hd c q hq, fun k q h => by cases h⟩
theorem e_str : (strTab.all fun q => decide (Cond.stringRef q.1 q.2.1 q.2.2 ∈ lw_tbl)) = true := by decide +kernel
theorem e_nest : (nestTab.all fun q => decide (Cond.methodLinkNest q.1 q.2.1 q.2.2.1 q.2.2.2 ∈ lw_tbl)) = true := by decide +kernel
theorem e_cast : Cond.castable nsE nsE ∈ lw_tbl := by decide +kernel
theorem e_ao0 : Cond.arrayOver (.object RX0) ∈ lw_tbl := by decide +kernel
theorem e_ao5 : Cond.arrayOver (.object RX5) ∈ lw_tbl := by decide +kernel
theorem e_z1 : Cond.laysStatic Bundle.tN "UNASSIGNED_STACK" Bundle.steD ∈ lw_tbl ∧ Cond.initialized Bundle.tN ∈ lw_tbl ∧ Cond.isRef (.static Bundle.tN "UNASSIGNED_STACK" Bundle.steD) ∈ stF := ⟨by decide +kernel, by decide +kernel, by decide +kernel⟩
theorem e_z2 : Cond.laysStatic Bundle.tN "SUPPRESSED_SENTINEL" Bundle.listD ∈ lw_tbl ∧ Cond.isRef (.static Bundle.tN "SUPPRESSED_SENTINEL" Bundle.listD) ∈ stF := ⟨by decide +kernel, by decide +kernel⟩
theorem e_z3 : Cond.laysStatic "java/lang/String" "COMPACT_STRINGS" "Z" ∈ lw_tbl ∧ Cond.initialized "java/lang/String" ∈ lw_tbl ∧ Cond.eq (.static "java/lang/String" "COMPACT_STRINGS" "Z") (.int 1) ∈ stF := ⟨by decide +kernel, by decide +kernel, by decide +kernel⟩
theorem e_z4 : Cond.laysStatic "jdk/internal/util/Preconditions" "SIOOBE_FORMATTER" "Ljava/util/function/BiFunction;" ∈ lw_tbl ∧ Cond.initialized "jdk/internal/util/Preconditions" ∈ lw_tbl ∧ Cond.isRef (.static "jdk/internal/util/Preconditions" "SIOOBE_FORMATTER" "Ljava/util/function/BiFunction;") ∈ stF := ⟨by decide +kernel, by decide +kernel, by decide +kernel⟩
/-- the world at the law's entry -/
theorem ent_tf (b : Nat) (hts : ∀ w ∈ lw_tbl, w.before args s = true) (h : ∀ w ∈ stF, w.before args s = true) : ∃ K : CX, K.2.1 = s.heap.size ∧ K.2.2.2 = s.heap ∧ K.2.2.1 BIG = b ∧ TF K s := by
  have hgb : ∀ w ∈ GB, w.before args s = true := fun w hw => hts w (List.mem_filter.mp hw).1
  obtain ⟨D, hD⟩ := cl_known hgb
  have hA : ∀ a : Nat, a < s.heap.size → ¬ (s.heap.size ≤ a) := fun a ha => by omega
  obtain ⟨q, hq⟩ := st_all (A := fun a => s.heap.size ≤ a) h hA
  refine ⟨(D, s.heap.size, (fun a => if a = BIG then b else if a < BIG + 101 then (q (a - (BIG + 1))).1 else (q (a - (BIG + 101))).2), s.heap), rfl, rfl, (by show (if BIG = BIG then b else if BIG < BIG + 101 then (q (BIG - (BIG + 1))).1 else (q (BIG - (BIG + 101))).2) = b; exact if_pos rfl), hD, fun i hi => ?_, fun i r hr => ?_, fun i r hr => ?_, ⟨va_Nw.of rfl (hts _ e_cast), va_AO.of (hts _ e_ao0), va_AO.of (hts _ e_ao5)⟩, vx_Zqof (hts _ e_z1.1) (hts _ e_z1.2.1) (h _ e_z1.2.2) hA, vx_Zqof (hts _ e_z2.1) (hts _ e_z1.2.1) (h _ e_z2.2) hA, va_Zof (hts _ e_z3.1) (hts _ e_z3.2.1) (va_eqt (h _ e_z3.2.2)) hA, va_Zqof (hts _ e_z4.1) (hts _ e_z4.2.1) (h _ e_z4.2.2) hA⟩
  · have e1 : (if BIG + 1 + i = BIG then b else if BIG + 1 + i < BIG + 101 then (q (BIG + 1 + i - (BIG + 1))).1 else (q (BIG + 1 + i - (BIG + 101))).2) = (q i).1 := by
      rw [if_neg (by omega), if_pos (by omega), show BIG + 1 + i - (BIG + 1) = i by omega]
    have e2 : (if BIG + 101 + i = BIG then b else if BIG + 101 + i < BIG + 101 then (q (BIG + 101 + i - (BIG + 1))).1 else (q (BIG + 101 + i - (BIG + 101))).2) = (q i).2 := by
      rw [if_neg (by omega), if_neg (by omega), show BIG + 101 + i - (BIG + 101) = i by omega]
    have := (hq i).2 hi
    unfold strAt
    dsimp only
    rw [e1, e2]
    exact this
  · have hi : i < 13 := (List.getElem?_eq_some_iff.mp hr).1
    have e1 : (if BIG + 1 + i = BIG then b else if BIG + 1 + i < BIG + 101 then (q (BIG + 1 + i - (BIG + 1))).1 else (q (BIG + 1 + i - (BIG + 101))).2) = (q i).1 := by
      rw [if_neg (by omega), if_pos (by omega), show BIG + 1 + i - (BIG + 1) = i by omega]
    have e3 : strTab.getD i ("", 0, "") = r := by rw [List.getD_eq_getElem?_getD, hr]; rfl
    have h1 := (hq i).1 hi
    unfold st_t at h1
    rw [e3] at h1
    dsimp only
    rw [e1]
    exact vk_R.of (hts _ (of_decide_eq_true (List.all_eq_true.mp e_str r (List.mem_of_getElem? hr)))) h1
  · exact va_Nw.of rfl (hts _ (of_decide_eq_true (List.all_eq_true.mp e_nest r (List.mem_of_getElem? hr))))
end ENT
