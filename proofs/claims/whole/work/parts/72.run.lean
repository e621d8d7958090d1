/-! a whole run: it fits, begins and ends where it must, goes over each edge once and leaves none at its spots -/
theorem ring_go {g : Gr} : ∀ {l : List Nat} {go go' : Nat → Bool} {m m' : Nat}, isRing g go m l go' m' → (∀ e, go' e = (go e || decide (e ∈ l))) ∧ l.Nodup ∧ ∀ e ∈ l, go e = false ∧ g.1 e = true ∧ e < 48
  | [], go, go', m, m', h => ⟨fun e => by rw [h.1]; simp, List.nodup_nil, fun e he => by cases he⟩
  | e :: l, go, go', m, m', h => by
    obtain ⟨h1, h2, h3⟩ := ring_go h.2
    obtain ⟨k1, k2, k3, -⟩ := nx_ok h.1
    refine ⟨fun x => ?_, List.nodup_cons.mpr ⟨fun q => ?_, h2⟩, fun x hx => ?_⟩
    · rw [h1 x]
      unfold mk1
      by_cases q : x = e
      · subst q; simp
      · simp [q]
    · have := (h3 e q).1
      simp [mk1] at this
    · rcases List.mem_cons.mp hx with q | q
      · subst q; exact ⟨k3, k2, k1⟩
      · obtain ⟨a, b⟩ := h3 x q
        simp [mk1] at a
        exact ⟨a.1, b⟩
theorem rfr_snd (g : Gr) : ∀ (m : Nat) (l : List Nat), (rfr g m l).map (fun q => q.2) = l
  | _, [] => rfl
  | m, e :: l => by show e :: (rfr g _ l).map _ = e :: l; rw [rfr_snd g]
abbrev eds (W : List (Nat × Nat)) : List Nat := W.map (fun q => q.2)
theorem insW_eds {g : Gr} {W : List (Nat × Nat)} {m k : Nat} {l : List Nat} : eds (insW W (rfr g m l) k) = (eds W).take k ++ l ++ (eds W).drop k := by
  unfold eds insW
  rw [List.map_append, List.map_append, rfr_snd, List.map_take, List.map_drop]
theorem mem_ins {W : List Nat} {l : List Nat} {k e : Nat} : e ∈ W.take k ++ l ++ W.drop k ↔ e ∈ W ∨ e ∈ l := by
  have h : e ∈ W ↔ e ∈ W.take k ∨ e ∈ W.drop k := by rw [← List.mem_append, List.take_append_drop]
  rw [h]
  simp only [List.mem_append]
  constructor
  · rintro ((h | h) | h)
    · exact Or.inl (Or.inl h)
    · exact Or.inr h
    · exact Or.inl (Or.inr h)
  · rintro ((h | h) | h)
    · exact Or.inl (Or.inl h)
    · exact Or.inr h
    · exact Or.inl (Or.inr h)
theorem nodup_ins {W l : List Nat} {k : Nat} (hW : W.Nodup) (hl : l.Nodup) (hd : ∀ e ∈ l, e ∉ W) : (W.take k ++ l ++ W.drop k).Nodup := by
  have h : (W.take k ++ W.drop k).Nodup := by rw [List.take_append_drop]; exact hW
  rw [List.nodup_append] at h
  obtain ⟨h1, h2, h3⟩ := h
  have mt : ∀ e, e ∈ W.take k → e ∈ W := fun e he => List.mem_of_mem_take he
  have md : ∀ e, e ∈ W.drop k → e ∈ W := fun e he => List.mem_of_mem_drop he
  rw [List.nodup_append, List.nodup_append]
  refine ⟨⟨h1, hl, fun a ha b hb e => hd b hb (e ▸ mt a ha)⟩, h2, fun a ha b hb e => ?_⟩
  rcases List.mem_append.mp ha with q | q
  · exact h3 a q b hb e
  · exact hd a q (e ▸ md b hb)
/-- what holds behind the first ring -/
def rinv (g : Gr) (go0 go : Nat → Bool) (W : List (Nat × Nat)) (sp : List Nat) (st en : Nat) : Prop :=
  chn g W sp ∧ sp.getD 0 0 = st ∧ sp.getD W.length 0 = en ∧ (∀ x, deg g go x % 2 = 0) ∧ (eds W).Nodup ∧ (∀ e, go e = (go0 e || decide (e ∈ eds W))) ∧ ∀ e ∈ eds W, go0 e = false ∧ g.1 e = true ∧ e < 48
theorem rinv_ins {g : Gr} {go0 go go' : Nat → Bool} {W : List (Nat × Nat)} {sp l : List Nat} {st en k m' : Nat} (h : rinv g go0 go W sp st en) (hk : k ≤ W.length) (hr : isRing g go (sp.getD k 0) l go' m') : rinv g go0 go' (insW W (rfr g (sp.getD k 0) l) k) (insS sp (rsp g (sp.getD k 0) l) k) st en := by
  obtain ⟨h1, h2, h3, h4, h5, h6, h7⟩ := h
  obtain ⟨c1, c2⟩ := ring_close hr h4
  obtain ⟨r1, r2, r3⟩ := ring_go hr
  have hk1 : k + 1 ≤ sp.length := by have := h1.1; omega
  have lf := rfr_len g (sp.getD k 0) l
  have ls := rsp_len g (sp.getD k 0) l
  refine ⟨chn_ins h1 hk hr (fun _ => c1), ?_, ?_, c2, ?_, fun e => ?_, fun e he => ?_⟩
  · rw [insS_get hk1, if_pos (by omega)]; exact h2
  · rw [insW_len hk, lf, insS_get hk1, ls]
    by_cases q : W.length + l.length < k + 1
    · rw [if_pos q]
      have : l.length = 0 := by omega
      rw [this]; exact h3
    · rw [if_neg q]
      by_cases q2 : W.length + l.length < k + 1 + l.length
      · rw [if_pos q2]
        have e1 := (ring_chn hr).2
        obtain ⟨z, hz⟩ : ∃ z, l.length = z + 1 := ⟨l.length - 1, by omega⟩
        rw [hz] at e1
        have e2 : (rsp g (sp.getD k 0) l).getD z 0 = m' := e1
        rw [show W.length + l.length - (k + 1) = z by omega, e2, c1, show k = W.length by omega]
        exact h3
      · rw [if_neg q2, show W.length + l.length - l.length = W.length by omega]; exact h3
  · rw [insW_eds]
    refine nodup_ins h5 r2 (fun e he q => ?_)
    have := (r3 e he).1
    rw [h6 e, decide_eq_true q, Bool.or_true] at this
    cases this
  · rw [r1 e, h6 e, insW_eds, Bool.or_assoc]
    congr 1
    have hm := mem_ins (W := eds W) (l := l) (k := k) (e := e)
    by_cases a : e ∈ eds W
    · rw [decide_eq_true a, decide_eq_true (hm.mpr (Or.inl a)), Bool.true_or]
    · by_cases b : e ∈ l
      · rw [decide_eq_true b, decide_eq_true (hm.mpr (Or.inr b)), Bool.or_true]
      · rw [decide_eq_false a, decide_eq_false b, decide_eq_false (fun z => (hm.mp z).elim a b)]; rfl
  · rw [insW_eds] at he
    rcases mem_ins.mp he with q | q
    · exact h7 e q
    · obtain ⟨a, b⟩ := r3 e q
      refine ⟨?_, b⟩
      rw [h6 e] at a
      simp at a
      exact a.1
theorem run_inv {g : Gr} {go0 : Nat → Bool} {st en : Nat} : ∀ {r : Nat} {go goF : Nat → Bool} {W WF : List (Nat × Nat)} {sp spF : List Nat}, isRun g r go W sp goF WF spF → rinv g go0 go W sp st en → rinv g go0 goF WF spF st en ∧ (∀ k, k ≤ WF.length → nx g goF (spF.getD k 0) = none) ∧ W.length ≤ WF.length
  | 0, go, goF, W, WF, sp, spF, h, hi => by
    obtain ⟨h1, rfl, rfl, rfl⟩ := h
    exact ⟨hi, h1, Nat.le_refl _⟩
  | r + 1, go, goF, W, WF, sp, spF, h, hi => by
    obtain ⟨k, l, go', m', k1, k2, k3, k4, k5⟩ := h
    obtain ⟨a, b, c⟩ := run_inv k5 (rinv_ins hi k1 k4)
    rw [insW_len k1] at c
    exact ⟨a, b, by omega⟩
theorem run_ok {g : Gr} {r st en : Nat} {go0 goF : Nat → Bool} {WF : List (Nat × Nat)} {spF : List Nat} (h : isRun g r go0 [] [st] goF WF spF) (hne : nx g go0 st ≠ none) (hp : (en = st ∧ ∀ x, deg g go0 x % 2 = 0) ∨ (st ≠ en ∧ ∀ x, deg g go0 x % 2 = if x = st ∨ x = en then 1 else 0)) : rinv g go0 goF WF spF st en ∧ (∀ k, k ≤ WF.length → nx g goF (spF.getD k 0) = none) ∧ 0 < WF.length := by
  cases r with
  | zero => exact absurd (h.1 0 (Nat.le_refl _)) hne
  | succ r =>
    obtain ⟨k, l, go', m', k1, k2, k3, k4, k5⟩ := h
    have hk0 : k = 0 := by simpa using k1
    subst hk0
    have e0 : ([st] : List Nat).getD 0 0 = st := rfl
    rw [e0] at k4 k5
    obtain ⟨r1, r2, r3⟩ := ring_go k4
    obtain ⟨c1, c2⟩ := ring_chn k4
    have hm : m' = en ∧ ∀ x, deg g go' x % 2 = 0 := by
      rcases hp with ⟨p1, p2⟩ | ⟨p1, p2⟩
      · rw [p1]; exact ring_close k4 p2
      · exact ring_open k4 p1 p2
    have eW : insW [] (rfr g st l) 0 = rfr g st l := by simp [insW]
    have eS : insS [st] (rsp g st l) 0 = st :: rsp g st l := by simp [insS]
    rw [eW, eS] at k5
    have hi : rinv g go0 go' (rfr g st l) (st :: rsp g st l) st en := by
      refine ⟨c1, rfl, by rw [rfr_len, c2]; exact hm.1, hm.2, by unfold eds; rw [rfr_snd]; exact r2, fun e => by unfold eds; rw [rfr_snd]; exact r1 e, fun e he => by unfold eds at he; rw [rfr_snd] at he; exact r3 e he⟩
    obtain ⟨a, b, c⟩ := run_inv k5 hi
    rw [rfr_len] at c
    have := List.length_pos_iff.mpr k3
    exact ⟨a, b, by omega⟩
