/-! how many trails a part has -/
/-- two pairs of a part have no meeting in common -/
theorem sm_two {f : Nat → Nat} {i j : Nat} : ∀ {n : Nat}, i < n → j < n → i ≠ j → f i + f j ≤ sm f n
  | 0, h, _, _ => by omega
  | n + 1, hi, hj, hne => by
    show f i + f j ≤ sm f n + f n
    by_cases a : i = n
    · subst a
      have : ∀ {m : Nat}, j < m → f j ≤ sm f m := by
        intro m
        induction m with
        | zero => intro h; omega
        | succ m ih =>
          intro h
          show f j ≤ sm f m + f m
          by_cases e : j = m
          · subst e; omega
          · have := ih (by omega); omega
      have := this (show j < i by omega); omega
    · by_cases b : j = n
      · subst b
        have : ∀ {m : Nat}, i < m → f i ≤ sm f m := by
          intro m
          induction m with
          | zero => intro h; omega
          | succ m ih =>
            intro h
            show f i ≤ sm f m + f m
            by_cases e : i = m
            · subst e; omega
            · have := ih (by omega); omega
        have := this (show i < j by omega); omega
      · have := sm_two (f := f) (i := i) (j := j) (n := n) (by omega) (by omega) hne; omega
theorem apr_dis {G : Geo} {p i j x : Nat} (hp : p < pcn G) (h1 : PN G p ≤ i) (h2 : i < PN G (p + 1)) (k1 : PN G p ≤ j) (k2 : j < PN G (p + 1)) (hi : (apr G i).1 = x ∨ (apr G i).2 = x) (hj : (apr G j).1 = x ∨ (apr G j).2 = x) : i = j := by
  by_cases hne : i = j
  · exact hne
  exfalso
  have hPN : PN G (p + 1) = PN G p + ocn G p / 2 := rfl
  have hl : (PL G p).length = ocn G p / 2 := PL_len G p
  have hc := PL_cov G p x
  have hs := sm_list (P := PL G p) (x := x)
  have t2 := sm_two (f := fun t => hit ((PL G p).getD t (0, 0)) x) (i := i - PN G p) (j := j - PN G p) (n := (PL G p).length) (by omega) (by omega) (by omega)
  have e1 := apr_get (G := G) (p := p) (t := i - PN G p) hp (by omega)
  have e2 := apr_get (G := G) (p := p) (t := j - PN G p) hp (by omega)
  rw [show PN G p + (i - PN G p) = i by omega] at e1
  rw [show PN G p + (j - PN G p) = j by omega] at e2
  have z1 : 1 ≤ hit (apr G i) x := by unfold hit; rcases hi with q | q <;> rw [q] <;> simp
  have z2 : 1 ≤ hit (apr G j) x := by unfold hit; rcases hj with q | q <;> rw [q] <;> simp
  rw [e1] at z1
  rw [e2] at z2
  have hc1 : cv2 (PL G p) x ≤ 1 := by rw [hc]; split <;> omega
  have t3 : hit ((PL G p).getD (i - PN G p) (0, 0)) x + hit ((PL G p).getD (j - PN G p) (0, 0)) x ≤ sm (fun t => hit ((PL G p).getD t (0, 0)) x) (PL G p).length := t2
  omega
/-- a hop's two meetings -/
theorem hop_ends {G : Geo} {p k : Nat} (hn : G.1 ≤ 24) (hp : p < pcn G) (hk : k < (wkW G p).length) (hh : isS ((wkW G p).getD k (0, 0)) = false) : ∃ i, ((wkW G p).getD k (0, 0)).2 = 24 + i ∧ PN G p ≤ i ∧ i < PN G (p + 1) ∧ (i : Int) ≠ cutI G p ∧ ((apr G i).1 = (wkS G p).getD k 0 ∨ (apr G i).2 = (wkS G p).getD k 0) ∧ ((apr G i).1 = (wkS G p).getD (k + 1) 0 ∨ (apr G i).2 = (wkS G p).getD (k + 1) 0) := by
  obtain ⟨⟨⟨c1, c2⟩, h2, h3, h4, h5, h6, h7⟩, -, -⟩ := wk_ok hn hp
  obtain ⟨a1, a2, a3⟩ := c2 k hk
  have hx : eX G p ((wkW G p).getD k (0, 0)).2 = true := (h7 _ (gd_eds hk)).2.1
  have h24 : ¬ ((wkW G p).getD k (0, 0)).2 < 24 := by unfold isS at hh; simpa using hh
  obtain ⟨i, hi⟩ : ∃ i, ((wkW G p).getD k (0, 0)).2 = 24 + i := ⟨((wkW G p).getD k (0, 0)).2 - 24, by omega⟩
  rw [hi] at hx a2 a3
  obtain ⟨x1, x2, x3⟩ := eX_hp hx
  have ea : (gP G p).2.1 (24 + i) = (apr G i).1 := by
    show eA G (24 + i) = _
    unfold eA; rw [if_neg (by omega), show 24 + i - 24 = i by omega]
  have eb : (gP G p).2.2 (24 + i) = (apr G i).2 := by
    show eB G (24 + i) = _
    unfold eB; rw [if_neg (by omega), show 24 + i - 24 = i by omega]
  rw [ea, eb] at a3
  refine ⟨i, hi, x1, x2, x3, a3, ?_⟩
  rw [a2]
  unfold oe
  rw [ea, eb]
  split
  · exact Or.inr rfl
  · exact Or.inl rfl
theorem eds_ne {G : Geo} {p j k : Nat} (hn : G.1 ≤ 24) (hp : p < pcn G) (hj : j < (wkW G p).length) (hk : k < (wkW G p).length) (h : ((wkW G p).getD j (0, 0)).2 = ((wkW G p).getD k (0, 0)).2) : j = k := by
  have h5 := (wk_ok hn hp).1.2.2.2.2.1
  have hj' : j < (eds (wkW G p)).length := by unfold eds; simpa using hj
  have hk' : k < (eds (wkW G p)).length := by unfold eds; simpa using hk
  refine (List.getElem_inj (h₀ := hj') (h₁ := hk') h5).mp ?_
  have g : ∀ x (hx : x < (eds (wkW G p)).length), (eds (wkW G p))[x] = ((wkW G p).getD x (0, 0)).2 := fun x hx => by
    have hx' : x < (wkW G p).length := by unfold eds at hx; simpa using hx
    unfold eds
    rw [List.getElem_map, List.getD_eq_getElem?_getD, List.getElem?_eq_getElem hx']; rfl
  rw [g j hj', g k hk', h]
theorem hop_adj {G : Geo} {p k : Nat} (hn : G.1 ≤ 24) (hp : p < pcn G) (hk : k + 1 < (wkW G p).length) (h1 : isS ((wkW G p).getD k (0, 0)) = false) (h2 : isS ((wkW G p).getD (k + 1) (0, 0)) = false) : False := by
  obtain ⟨i, i1, i2, i3, -, -, i4⟩ := hop_ends hn hp (by omega) h1
  obtain ⟨j, j1, j2, j3, -, j4, -⟩ := hop_ends hn hp hk h2
  have := apr_dis hp i2 i3 j2 j3 i4 j4
  subst this
  have := eds_ne hn hp (show k < _ by omega) hk (i1.trans j1.symm)
  omega
theorem hop_first {G : Geo} {p : Nat} (hn : G.1 ≤ 24) (hp : p < pcn G) (hk : 0 < (wkW G p).length) : isS ((wkW G p).getD 0 (0, 0)) = true := by
  cases h1 : isS ((wkW G p).getD 0 (0, 0)) with
  | true => rfl
  | false =>
    exfalso
    obtain ⟨i, i1, i2, i3, i4, i5, -⟩ := hop_ends hn hp hk h1
    have hst := (wk_ok hn hp).1.2.1
    have hPN : PN G (p + 1) = PN G p + ocn G p / 2 := rfl
    have hc := cutI_in G p
    rw [hst] at i5
    unfold stG at i5
    rw [if_neg (by omega)] at i5
    have := apr_dis (j := (cutI G p).toNat) hp i2 i3 (by omega) (by omega) i5 (Or.inl rfl)
    omega
theorem hop_last {G : Geo} {p : Nat} (hn : G.1 ≤ 24) (hp : p < pcn G) (hk : 0 < (wkW G p).length) : isS ((wkW G p).getD ((wkW G p).length - 1) (0, 0)) = true := by
  cases h1 : isS ((wkW G p).getD ((wkW G p).length - 1) (0, 0)) with
  | true => rfl
  | false =>
    exfalso
    obtain ⟨i, i1, i2, i3, i4, -, i5⟩ := hop_ends hn hp (by omega) h1
    have hen := (wk_ok hn hp).1.2.2.1
    have hPN : PN G (p + 1) = PN G p + ocn G p / 2 := rfl
    have hc := cutI_in G p
    rw [show (wkW G p).length - 1 + 1 = (wkW G p).length by omega, hen] at i5
    unfold enG at i5
    rw [if_neg (by omega)] at i5
    have := apr_dis (j := (cutI G p).toNat) hp i2 i3 (by omega) (by omega) i5 (Or.inr rfl)
    omega
/-- the hops among the first k steps -/
noncomputable def hk (G : Geo) (p k : Nat) : Nat := (((wkW G p).take k).filter (fun q => !isS q)).length
theorem hk_s {G : Geo} {p k : Nat} (h : k < (wkW G p).length) : hk G p (k + 1) = hk G p k + if isS ((wkW G p).getD k (0, 0)) = true then 0 else 1 := by
  unfold hk
  rw [take_sn (d := (0, 0)) h, List.filter_append, List.length_append]
  cases c : isS ((wkW G p).getD k (0, 0)) with
  | false => rw [List.filter_cons_of_pos (by rw [c]; rfl), List.filter_nil]; rfl
  | true => rw [List.filter_cons_of_neg (by rw [c]; simp), List.filter_nil]; rfl
theorem tk_num {G : Geo} {p : Nat} (hn : G.1 ≤ 24) (hp : p < pcn G) : ∀ k, k < (wkW G p).length → (tk G p (k + 1)).2 = isS ((wkW G p).getD k (0, 0)) ∧ (tk G p (k + 1)).1.length = (TR G p).length + hk G p (k + 1) + (if isS ((wkW G p).getD k (0, 0)) = true then 1 else 0)
  | 0, h => by
    have h0 := hop_first hn hp h
    rw [tk_s h, hk_s h, tk_0]
    unfold tstep
    rw [if_pos h0, if_neg (by simp), h0]
    refine ⟨rfl, ?_⟩
    show ((TR G p) ++ [_]).length = _
    simp [hk]
  | k + 1, h => by
    obtain ⟨a1, a2⟩ := tk_num hn hp k (by omega)
    have op := tk_op (G := G) (p := p) (k := k + 1) (by omega)
    rw [tk_s h, hk_s h]
    unfold tstep
    cases c : isS ((wkW G p).getD (k + 1) (0, 0)) with
    | false =>
      have c0 : isS ((wkW G p).getD k (0, 0)) = true := by
        cases d : isS ((wkW G p).getD k (0, 0)) with
        | true => rfl
        | false => exact absurd (hop_adj hn hp h d c) (by simp)
      rw [c0] at a2
      rw [if_neg (by simp)]
      exact ⟨rfl, by rw [a2]; simp; omega⟩
    | true =>
      rw [if_pos rfl]
      cases d : isS ((wkW G p).getD k (0, 0)) with
      | true =>
        rw [d] at a1 a2
        rw [if_pos a1]
        refine ⟨rfl, ?_⟩
        obtain ⟨T, l, e, -⟩ := op a1
        show (extT (tk G p (k + 1)).1 _).length = _
        rw [e] at a2 ⊢
        rw [extT_sn]
        simp at a2 ⊢
        exact a2
      | false =>
        rw [d] at a1 a2
        rw [if_neg (by rw [a1]; simp)]
        refine ⟨rfl, ?_⟩
        show ((tk G p (k + 1)).1 ++ [_]).length = _
        rw [List.length_append, a2]
        simp
/-- all hops of a part's walk -/
theorem hk_all {G : Geo} {p : Nat} (hn : G.1 ≤ 24) (hp : p < pcn G) : hk G p (wkW G p).length + 1 = max 1 (ocn G p / 2) := by
  have hPN : PN G (p + 1) = PN G p + ocn G p / 2 := rfl
  have h24 := PN_24 (G := G) hn (p := p + 1) (by omega)
  have hc := cutI_in G p
  have h5 := (wk_ok hn hp).1.2.2.2.2.1
  have he : hk G p (wkW G p).length = (((wkW G p).filter (fun q => !isS q)).map (fun q => q.2)).length := by
    unfold hk; rw [List.take_length, List.length_map]
  have hnd : (((wkW G p).filter (fun q => !isS q)).map (fun q => q.2)).Nodup := (List.Sublist.map _ List.filter_sublist).nodup h5
  have hm : ∀ e, e ∈ ((wkW G p).filter (fun q => !isS q)).map (fun q => q.2) ↔ ∃ i, e = 24 + i ∧ PN G p ≤ i ∧ i < PN G (p + 1) ∧ (i : Int) ≠ cutI G p := by
    intro e
    constructor
    · intro h
      obtain ⟨q, hq, rfl⟩ := List.mem_map.mp h
      obtain ⟨q1, q2⟩ := List.mem_filter.mp hq
      have hx := ((wk_eds (e := q.2) hn hp).mp (List.mem_map.mpr ⟨q, q1, rfl⟩)).1
      have h24' : ¬ q.2 < 24 := by unfold isS at q2; simpa using q2
      obtain ⟨i, hi⟩ : ∃ i, q.2 = 24 + i := ⟨q.2 - 24, by omega⟩
      rw [hi] at hx
      exact ⟨i, hi, eX_hp hx⟩
    · rintro ⟨i, rfl, i1, i2, i3⟩
      have hx : eX G p (24 + i) = true := by
        unfold eX; rw [if_neg (by omega), show 24 + i - 24 = i by omega]; simp [i1, i2, i3]
      obtain ⟨q, q1, q2⟩ := List.mem_map.mp ((wk_eds (e := 24 + i) hn hp).mpr ⟨hx, by omega⟩)
      refine List.mem_map.mpr ⟨q, List.mem_filter.mpr ⟨q1, ?_⟩, q2⟩
      unfold isS
      have q2' : q.2 = 24 + i := q2
      rw [q2']; simp
  rw [he]
  generalize ((wkW G p).filter (fun q => !isS q)).map (fun q => q.2) = L at hnd hm
  by_cases h0 : ocn G p / 2 = 0
  · have : L = [] := by
      cases L with
      | nil => rfl
      | cons a L =>
        obtain ⟨i, -, i1, i2, -⟩ := (hm a).mp List.mem_cons_self
        omega
    rw [this, h0]; rfl
  · have hc1 : (PN G p : Int) ≤ cutI G p ∧ cutI G p < PN G (p + 1) := by omega
    obtain ⟨c, hcc⟩ := nat_of (show 0 ≤ cutI G p by omega)
    have hnd2 : ((24 + c) :: L).Nodup := List.nodup_cons.mpr ⟨fun q => by
      obtain ⟨i, i0, -, -, i3⟩ := (hm _).mp q
      omega, hnd⟩
    have l1 := nodup_le (l := (List.range (ocn G p / 2)).map (fun t => 24 + PN G p + t)) hnd2 (fun x hx => by
      rcases List.mem_cons.mp hx with q | q
      · exact List.mem_map.mpr ⟨c - PN G p, List.mem_range.mpr (by omega), by omega⟩
      · obtain ⟨i, i0, i1, i2, i3⟩ := (hm _).mp q
        exact List.mem_map.mpr ⟨i - PN G p, List.mem_range.mpr (by omega), by omega⟩)
    have hnd3 : ((List.range (ocn G p / 2)).map (fun t => 24 + PN G p + t)).Nodup := by
      rw [List.nodup_iff_pairwise_ne, List.pairwise_map]
      exact (List.nodup_iff_pairwise_ne.mp List.nodup_range).imp (fun h e => h (by omega))
    have l2 := nodup_le (l := (24 + c) :: L) hnd3 (fun x hx => by
      obtain ⟨t, ht, rfl⟩ := List.mem_map.mp hx
      have ht := List.mem_range.mp ht
      by_cases e : PN G p + t = c
      · rw [show 24 + PN G p + t = 24 + c by omega]; exact List.mem_cons_self
      · exact List.mem_cons_of_mem _ ((hm _).mpr ⟨PN G p + t, by omega, by omega, by omega, by omega⟩))
    simp at l1 l2
    omega
/-- how many trails a part has -/
noncomputable def nTr (G : Geo) (p : Nat) : Nat := max 1 (ocn G p / 2)
theorem TR_num {G : Geo} {p : Nat} (hn : G.1 ≤ 24) (hp : p < pcn G) : (TR G (p + 1)).length = (TR G p).length + nTr G p := by
  obtain ⟨-, -, h0⟩ := wk_ok hn hp
  have h1 := (tk_num hn hp ((wkW G p).length - 1) (by omega)).2
  rw [show (wkW G p).length - 1 + 1 = (wkW G p).length by omega, hop_last hn hp h0] at h1
  have h2 := hk_all hn hp
  rw [tk_end, h1]
  unfold nTr
  rw [← h2]; simp; omega
theorem TR_all {G : Geo} (hn : G.1 ≤ 24) : ∀ {P : Nat}, P ≤ pcn G → (TR G P).length = sm (nTr G) P
  | 0, _ => rfl
  | p + 1, h => by
    rw [TR_num hn (by omega), TR_all hn (by omega)]; rfl
/-- the trails of a part -/
theorem tk_new {G : Geo} {p : Nat} : ∀ {k : Nat}, k ≤ (wkW G p).length → ∃ U : Tr, (tk G p k).1 = TR G p ++ U ∧ (∀ a ∈ U, a.1 = p) ∧ ((tk G p k).2 = true → U ≠ [])
  | 0, _ => ⟨[], by rw [tk_0, List.append_nil], fun a ha => (by cases ha), fun h => (by rw [tk_0] at h; cases h)⟩
  | k + 1, h => by
    obtain ⟨U, u1, u2, u3⟩ := tk_new (G := G) (p := p) (k := k) (by omega)
    have op := tk_op (G := G) (p := p) (k := k) (by omega)
    rw [tk_s (by omega)]
    unfold tstep
    by_cases c : isS ((wkW G p).getD k (0, 0)) = true
    · rw [if_pos c]
      by_cases o : (tk G p k).2 = true
      · rw [if_pos o]
        obtain ⟨V, a, rfl⟩ : ∃ V a, U = V ++ [a] := ⟨U.dropLast, U.getLast (u3 o), (List.dropLast_concat_getLast (u3 o)).symm⟩
        refine ⟨V ++ [(a.1, a.2 ++ [(wkW G p).getD k (0, 0)])], ?_, fun b hb => ?_, fun _ => by simp⟩
        · show extT (tk G p k).1 _ = _
          rw [u1, ← List.append_assoc, extT_sn, List.append_assoc]
        · rcases List.mem_append.mp hb with hb | hb
          · exact u2 b (List.mem_append_left _ hb)
          · rw [List.mem_singleton.mp hb]; exact u2 a (by simp)
      · rw [if_neg o]
        refine ⟨U ++ [(p, [(wkW G p).getD k (0, 0)])], ?_, fun b hb => ?_, fun _ => by simp⟩
        · show (tk G p k).1 ++ _ = _
          rw [u1, List.append_assoc]
        · rcases List.mem_append.mp hb with hb | hb
          · exact u2 b hb
          · rw [List.mem_singleton.mp hb]
    · rw [if_neg c]; exact ⟨U, u1, u2, fun h => by cases h⟩
