/-! trails: the runs of strokes in the walks -/
abbrev Tr : Type := List (Nat × List (Nat × Nat))
def extT : Tr → Nat × Nat → Tr
  | [], _ => []
  | [a], q => [(a.1, a.2 ++ [q])]
  | a :: b :: T, q => a :: extT (b :: T) q
theorem extT_sn (a : Nat × List (Nat × Nat)) (q : Nat × Nat) : ∀ T : Tr, extT (T ++ [a]) q = T ++ [(a.1, a.2 ++ [q])]
  | [] => rfl
  | [b] => rfl
  | b :: c :: T => by
    show b :: extT (c :: T ++ [a]) q = b :: (c :: T ++ [(a.1, a.2 ++ [q])])
    rw [extT_sn a q (c :: T)]
def flat (T : Tr) : List (Nat × Nat) := (T.map (fun a => a.2)).flatten
theorem flat_app (T U : Tr) : flat (T ++ U) = flat T ++ flat U := by unfold flat; simp
theorem flat_one (a : Nat × List (Nat × Nat)) : flat [a] = a.2 := by unfold flat; simp
def isS (q : Nat × Nat) : Bool := decide (q.2 < 24)
def tstep (p : Nat) (st : Tr × Bool) (q : Nat × Nat) : Tr × Bool := if isS q = true then (if st.2 = true then (extT st.1 q, true) else (st.1 ++ [(p, [q])], true)) else (st.1, false)
def tpart (p : Nat) (T : Tr) (W : List (Nat × Nat)) : Tr × Bool := W.foldl (tstep p) (T, false)
noncomputable def TR (G : Geo) : Nat → Tr
  | 0 => []
  | p + 1 => (tpart p (TR G p) (wkW G p)).1
noncomputable def tk (G : Geo) (p k : Nat) : Tr × Bool := tpart p (TR G p) ((wkW G p).take k)
theorem take_sn {α : Type} {d : α} {l : List α} {k : Nat} (h : k < l.length) : l.take (k + 1) = l.take k ++ [l.getD k d] := by
  rw [List.take_succ, List.getD_eq_getElem?_getD, List.getElem?_eq_getElem h]; rfl
theorem tk_0 (G : Geo) (p : Nat) : tk G p 0 = (TR G p, false) := rfl
theorem tk_s {G : Geo} {p k : Nat} (h : k < (wkW G p).length) : tk G p (k + 1) = tstep p (tk G p k) ((wkW G p).getD k (0, 0)) := by
  unfold tk tpart
  rw [take_sn (d := (0, 0)) h, List.foldl_append]; rfl
theorem tk_end (G : Geo) (p : Nat) : TR G (p + 1) = (tk G p (wkW G p).length).1 := by
  unfold tk; rw [List.take_length]; rfl
/-- open: there is a last trail, of this part -/
def opT (p : Nat) (st : Tr × Bool) : Prop := st.2 = true → ∃ T l, st.1 = T ++ [(p, l)] ∧ l ≠ []
theorem tk_op {G : Geo} {p : Nat} : ∀ {k : Nat}, k ≤ (wkW G p).length → opT p (tk G p k)
  | 0, _ => fun h => by rw [tk_0] at h; cases h
  | k + 1, h => by
    intro h2
    have ih := tk_op (G := G) (p := p) (k := k) (by omega)
    rw [tk_s (by omega)] at h2 ⊢
    unfold tstep at h2 ⊢
    by_cases c : isS ((wkW G p).getD k (0, 0)) = true
    · rw [if_pos c]
      by_cases o : (tk G p k).2 = true
      · rw [if_pos o]
        obtain ⟨T, l, e, -⟩ := ih o
        refine ⟨T, l ++ [(wkW G p).getD k (0, 0)], ?_, by simp⟩
        show extT (tk G p k).1 _ = _
        rw [e, extT_sn]
      · rw [if_neg o]; exact ⟨(tk G p k).1, [(wkW G p).getD k (0, 0)], rfl, by simp⟩
    · rw [if_neg c] at h2; cases h2
/-- all steps of a part's walks so far, of all parts -/
noncomputable def WA (G : Geo) : Nat → List (Nat × Nat)
  | 0 => []
  | p + 1 => WA G p ++ wkW G p
theorem flat_tk {G : Geo} {p : Nat} : ∀ {k : Nat}, k ≤ (wkW G p).length → flat (tk G p k).1 = flat (TR G p) ++ ((wkW G p).take k).filter isS
  | 0, _ => by rw [tk_0]; simp
  | k + 1, h => by
    have ih := flat_tk (G := G) (p := p) (k := k) (by omega)
    have op := tk_op (G := G) (p := p) (k := k) (by omega)
    rw [tk_s (by omega), take_sn (d := (0, 0)) (by omega), List.filter_append, ← List.append_assoc, ← ih]
    unfold tstep
    by_cases c : isS ((wkW G p).getD k (0, 0)) = true
    · rw [if_pos c, List.filter_cons_of_pos c, List.filter_nil]
      by_cases o : (tk G p k).2 = true
      · rw [if_pos o]
        obtain ⟨T, l, e, -⟩ := op o
        show flat (extT (tk G p k).1 _) = _
        rw [e, extT_sn, flat_app, flat_app, flat_one, flat_one, List.append_assoc]
      · rw [if_neg o]
        show flat ((tk G p k).1 ++ _) = _
        rw [flat_app, flat_one]
    · rw [if_neg c, List.filter_cons_of_neg c, List.filter_nil, List.append_nil]
theorem flat_TR (G : Geo) : ∀ P, flat (TR G P) = (WA G P).filter isS
  | 0 => rfl
  | p + 1 => by
    rw [tk_end, flat_tk (Nat.le_refl _), List.take_length, flat_TR G p]
    show _ = (WA G p ++ wkW G p).filter isS
    rw [List.filter_append]
theorem WA_mem {G : Geo} {q : Nat × Nat} : ∀ {P : Nat}, q ∈ WA G P → ∃ p, p < P ∧ q ∈ wkW G p
  | 0, h => by cases h
  | P + 1, h => by
    rcases List.mem_append.mp h with h | h
    · obtain ⟨p, p1, p2⟩ := WA_mem h; exact ⟨p, by omega, p2⟩
    · exact ⟨P, by omega, h⟩
theorem eX_uniq {G : Geo} {p q e : Nat} (h : eX G p e = true) (k : eX G q e = true) : p = q := by
  by_cases c : e < 24
  · exact (eX_st h c).2.symm.trans (eX_st k c).2
  · obtain ⟨i, rfl⟩ : ∃ i, e = 24 + i := ⟨e - 24, by omega⟩
    obtain ⟨a1, a2, -⟩ := eX_hp h
    obtain ⟨b1, b2, -⟩ := eX_hp k
    rcases Nat.lt_trichotomy p q with d | d | d
    · have := PN_mono G (show p + 1 ≤ q by omega); omega
    · exact d
    · have := PN_mono G (show q + 1 ≤ p by omega); omega
theorem WA_nodup {G : Geo} (hn : G.1 ≤ 24) : ∀ {P : Nat}, P ≤ pcn G → (eds (WA G P)).Nodup
  | 0, _ => List.nodup_nil
  | P + 1, h => by
    have ih := WA_nodup (G := G) hn (P := P) (by omega)
    have h5 := (wk_ok hn (show P < pcn G by omega)).1.2.2.2.2.1
    show ((WA G P ++ wkW G P).map _).Nodup
    rw [List.map_append, List.nodup_append]
    refine ⟨ih, h5, fun a ha b hb e => ?_⟩
    subst e
    obtain ⟨x, hx, rfl⟩ := List.mem_map.mp ha
    obtain ⟨q, q1, q2⟩ := WA_mem hx
    have k1 := ((wk_eds (e := x.2) hn (show q < pcn G by omega)).mp (List.mem_map.mpr ⟨x, q2, rfl⟩)).1
    have k2 := ((wk_eds (e := x.2) hn (show P < pcn G by omega)).mp hb).1
    have := eX_uniq k1 k2
    omega
theorem WA_lt {G : Geo} {P e : Nat} (hn : G.1 ≤ 24) (hP : P ≤ pcn G) (h : e ∈ eds (WA G P)) : e < 48 ∧ ∃ p, p < P ∧ eX G p e = true := by
  obtain ⟨x, hx, rfl⟩ := List.mem_map.mp h
  obtain ⟨q, q1, q2⟩ := WA_mem hx
  have k1 := (wk_eds (e := x.2) hn (show q < pcn G by omega)).mp (List.mem_map.mpr ⟨x, q2, rfl⟩)
  exact ⟨k1.2, q, q1, k1.1⟩
theorem WA_len {G : Geo} {P : Nat} (hn : G.1 ≤ 24) (hP : P ≤ pcn G) : (WA G P).length ≤ 48 := by
  have := nodup_le (l := List.range 48) (WA_nodup hn hP) (fun x hx => List.mem_range.mpr (WA_lt hn hP hx).1)
  simpa using this
theorem flat_len {G : Geo} {P : Nat} (hn : G.1 ≤ 24) (hP : P ≤ pcn G) : (flat (TR G P)).length ≤ G.1 ∧ ((flat (TR G P)).map (fun q => q.2)).Nodup := by
  have h1 : ((flat (TR G P)).map (fun q => q.2)).Nodup := by
    rw [flat_TR]
    exact (List.Sublist.map _ List.filter_sublist).nodup (WA_nodup hn hP)
  refine ⟨?_, h1⟩
  have := nodup_le (l := List.range G.1) h1 (fun x hx => by
    rw [flat_TR] at hx
    obtain ⟨q, hq, rfl⟩ := List.mem_map.mp hx
    obtain ⟨hq1, hq2⟩ := List.mem_filter.mp hq
    obtain ⟨-, p, -, h⟩ := WA_lt hn hP (List.mem_map.mpr ⟨q, hq1, rfl⟩)
    exact List.mem_range.mpr (eX_st h (by simpa [isS] using hq2)).1)
  simpa using this
theorem TR_le {G : Geo} (hn : G.1 ≤ 24) {p k : Nat} (hp : p < pcn G) (hk : k ≤ (wkW G p).length) : (flat (tk G p k).1).length ≤ G.1 := by
  have h1 := (flat_len (G := G) (P := p + 1) hn (by omega)).1
  rw [tk_end, flat_tk (Nat.le_refl _), List.take_length] at h1
  rw [flat_tk hk]
  simp only [List.length_append] at h1 ⊢
  have := (List.Sublist.filter isS (List.take_sublist k (wkW G p))).length_le
  omega
/-- trails have strokes: no more of them than of these -/
def okT (T : Tr) : Prop := ∀ a ∈ T, a.2 ≠ []
theorem okT_len {T : Tr} (h : okT T) : T.length ≤ (flat T).length := by
  induction T with
  | nil => exact Nat.le_refl _
  | cons a T ih =>
    have h1 : a.2 ≠ [] := h a List.mem_cons_self
    have := List.length_pos_iff.mpr h1
    have ih := ih (fun b hb => h b (List.mem_cons_of_mem _ hb))
    show T.length + 1 ≤ (flat ([a] ++ T)).length
    rw [flat_app, flat_one, List.length_append]; omega
theorem okT_step {p : Nat} {st : Tr × Bool} {q : Nat × Nat} (h : okT st.1) (ho : opT p st) : okT (tstep p st q).1 := by
  unfold tstep
  by_cases c : isS q = true
  · rw [if_pos c]
    by_cases o : st.2 = true
    · rw [if_pos o]
      obtain ⟨T, l, e, -⟩ := ho o
      intro a ha
      replace ha : a ∈ extT st.1 q := ha
      rw [e, extT_sn] at ha
      rcases List.mem_append.mp ha with ha | ha
      · exact h a (by rw [e]; exact List.mem_append_left _ ha)
      · rw [List.mem_singleton.mp ha]; simp
    · rw [if_neg o]
      intro a ha
      rcases List.mem_append.mp ha with ha | ha
      · exact h a ha
      · rw [List.mem_singleton.mp ha]; simp
  · rw [if_neg c]; exact h
theorem okT_tk {G : Geo} {p : Nat} (h : okT (TR G p)) : ∀ {k : Nat}, k ≤ (wkW G p).length → okT (tk G p k).1
  | 0, _ => h
  | k + 1, hk => by rw [tk_s (by omega)]; exact okT_step (okT_tk h (by omega)) (tk_op (by omega))
theorem okT_TR (G : Geo) : ∀ P, okT (TR G P)
  | 0 => fun a ha => by cases ha
  | p + 1 => by rw [tk_end]; exact okT_tk (okT_TR G p) (Nat.le_refl _)
