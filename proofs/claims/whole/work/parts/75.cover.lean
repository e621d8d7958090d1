/-! the walk of a part, and that it goes over all of it -/
theorem wk_has (G : Geo) (p : Nat) : ∃ (q : (Nat → Bool) × List (Nat × Nat) × List Nat), ∃ r, isRun (gP G p) r noG [] [stG G p] q.1 q.2.1 q.2.2 := by
  obtain ⟨r, a, b, c, h⟩ := run_has (gP G p) (lft (gP G p) noG + 1) noG [] [stG G p] (by omega)
  exact ⟨(a, b, c), r, h⟩
/-- its steps: from which meeting, which edge; its spots -/
noncomputable def wkW (G : Geo) (p : Nat) : List (Nat × Nat) := (Classical.choose (wk_has G p)).2.1
noncomputable def wkS (G : Geo) (p : Nat) : List Nat := (Classical.choose (wk_has G p)).2.2
noncomputable def wkG (G : Geo) (p : Nat) : Nat → Bool := (Classical.choose (wk_has G p)).1
theorem wk_run (G : Geo) (p : Nat) : ∃ r, isRun (gP G p) r noG [] [stG G p] (wkG G p) (wkW G p) (wkS G p) := Classical.choose_spec (wk_has G p)
theorem wk_eq {G : Geo} {p r : Nat} {goF : Nat → Bool} {WF : List (Nat × Nat)} {spF : List Nat} (h : isRun (gP G p) r noG [] [stG G p] goF WF spF) : goF = wkG G p ∧ WF = wkW G p ∧ spF = wkS G p := by
  obtain ⟨r2, h2⟩ := wk_run G p
  exact h.uniq h2
/-- a meeting of the part has a stroke -/
theorem has_st {G : Geo} {x : Nat} (hn : G.1 ≤ 24) (hx : x < mcn G) : ∃ s, s < G.1 ∧ eX G (pt G x) s = true ∧ (eA G s = x ∨ eB G s = x) := by
  obtain ⟨h1, h2⟩ := fe_ok hx
  have hs : fe G x / 2 < G.1 := by omega
  refine ⟨fe G x / 2, hs, ?_, ?_⟩
  · unfold eX
    rw [if_pos (by omega)]
    have : pt G (mt G (2 * (fe G x / 2))) = pt G x := by
      by_cases e : fe G x % 2 = 0
      · rw [show 2 * (fe G x / 2) = fe G x by omega, h2]
      · rw [pt_kr hs, show 2 * (fe G x / 2) + 1 = fe G x by omega, h2]
    simp [hs, this]
  · unfold eA eB
    rw [if_pos (by omega), if_pos (by omega)]
    by_cases e : fe G x % 2 = 0
    · left; rw [show 2 * (fe G x / 2) = fe G x by omega, h2]
    · right; rw [show 2 * (fe G x / 2) + 1 = fe G x by omega, h2]
theorem st_ok {G : Geo} {p : Nat} (hp : p < pcn G) : stG G p < mcn G ∧ pt G (stG G p) = p := by
  unfold stG
  by_cases q : cutI G p = -1
  · rw [if_pos q]; exact fm_ok hp
  · rw [if_neg q]
    have hin : 0 < ocn G p / 2 ∧ (PN G p : Int) ≤ cutI G p ∧ cutI G p < (PN G (p + 1) : Int) := (cutI_in G p).resolve_left (fun z => q z.2)
    have h := OL_mem.mp (apr_ok (i := (cutI G p).toNat) hp (by omega) (by omega)).1
    exact ⟨h.1, h.2.2⟩
theorem nx_st {G : Geo} {p : Nat} (hn : G.1 ≤ 24) (hp : p < pcn G) : nx (gP G p) noG (stG G p) ≠ none := by
  intro h
  obtain ⟨h1, h2⟩ := st_ok hp
  obtain ⟨s, k1, k2, k3⟩ := has_st hn h1
  rw [h2] at k2
  have := deg_none' (g := gP G p) (e := s) h (by omega) k2 k3
  cases this
theorem wk_ok {G : Geo} {p : Nat} (hn : G.1 ≤ 24) (hp : p < pcn G) : rinv (gP G p) noG (wkG G p) (wkW G p) (wkS G p) (stG G p) (enG G p) ∧ (∀ k, k ≤ (wkW G p).length → nx (gP G p) (wkG G p) ((wkS G p).getD k 0) = none) ∧ 0 < (wkW G p).length := by
  obtain ⟨r, h⟩ := wk_run G p
  exact run_ok h (nx_st hn hp) (par_ok hn hp)
theorem eX_pt {G : Geo} {p e : Nat} (hp : p < pcn G) (h : eX G p e = true) : (eA G e < mcn G ∧ pt G (eA G e) = p) ∧ (eB G e < mcn G ∧ pt G (eB G e) = p) := by
  unfold eX at h
  unfold eA eB
  by_cases a : e < 24
  · rw [if_pos a] at h ⊢
    rw [if_pos a]
    simp at h
    have hk := pt_kr h.1
    exact ⟨⟨mt_lt (by omega), h.2⟩, mt_lt (by omega), by rw [← hk]; exact h.2⟩
  · rw [if_neg a] at h ⊢
    rw [if_neg a]
    simp at h
    obtain ⟨k1, k2⟩ := apr_ok (i := e - 24) hp h.1.1 h.1.2
    have m1 := OL_mem.mp k1
    have m2 := OL_mem.mp k2
    exact ⟨⟨m1.1, m1.2.2⟩, m2.1, m2.2.2⟩
theorem gd_eds {W : List (Nat × Nat)} {k : Nat} (h : k < W.length) : (W.getD k (0, 0)).2 ∈ eds W := by
  rw [List.getD_eq_getElem?_getD, List.getElem?_eq_getElem h]
  exact List.mem_map.mpr ⟨_, List.getElem_mem h, rfl⟩
theorem eds_gd {W : List (Nat × Nat)} {e : Nat} (h : e ∈ eds W) : ∃ k, k < W.length ∧ (W.getD k (0, 0)).2 = e := by
  obtain ⟨q, hq, rfl⟩ := List.mem_map.mp h
  obtain ⟨k, hk⟩ := List.getElem?_of_mem hq
  refine ⟨k, (List.getElem?_eq_some_iff.mp hk).1, ?_⟩
  rw [List.getD_eq_getElem?_getD, hk]; rfl
/-- all spots are in the part -/
theorem wk_pt {G : Geo} {p : Nat} (hn : G.1 ≤ 24) (hp : p < pcn G) : ∀ k, k ≤ (wkW G p).length → (wkS G p).getD k 0 < mcn G ∧ pt G ((wkS G p).getD k 0) = p := by
  obtain ⟨⟨⟨c1, c2⟩, h2, h3, h4, h5, h6, h7⟩, -, -⟩ := wk_ok hn hp
  intro k
  induction k with
  | zero => intro _; rw [h2]; exact st_ok hp
  | succ k ih =>
    intro hk
    obtain ⟨a1, a2, a3⟩ := c2 k (by omega)
    obtain ⟨x1, x2⟩ := eX_pt hp (h7 _ (gd_eds (show k < (wkW G p).length by omega))).2.1
    rw [a2]
    unfold oe
    split
    · exact x2
    · exact x1
/-- both ends of an edge that is gone are spots -/
theorem wk_ends {G : Geo} {p e : Nat} (hn : G.1 ≤ 24) (hp : p < pcn G) (he : e ∈ eds (wkW G p)) : (∃ k, k ≤ (wkW G p).length ∧ (wkS G p).getD k 0 = eA G e) ∧ ∃ k, k ≤ (wkW G p).length ∧ (wkS G p).getD k 0 = eB G e := by
  obtain ⟨⟨⟨c1, c2⟩, -⟩, -, -⟩ := wk_ok hn hp
  obtain ⟨k, hk, rfl⟩ := eds_gd he
  obtain ⟨a1, a2, a3⟩ := c2 k hk
  unfold oe at a2
  by_cases q : (gP G p).2.1 ((wkW G p).getD k (0, 0)).2 = (wkS G p).getD k 0
  · rw [if_pos q] at a2
    exact ⟨⟨k, by omega, q.symm⟩, k + 1, by omega, a2⟩
  · rw [if_neg q] at a2
    exact ⟨⟨k + 1, by omega, a2⟩, k, by omega, (a3.resolve_left q).symm⟩
/-- every meeting of the part is a spot -/
theorem wk_all {G : Geo} {p x : Nat} (hn : G.1 ≤ 24) (hp : p < pcn G) (hx : x < mcn G) (hxp : pt G x = p) : ∃ k, k ≤ (wkW G p).length ∧ (wkS G p).getD k 0 = x := by
  obtain ⟨⟨hc, h2, h3, h4, h5, h6, h7⟩, hnone, -⟩ := wk_ok hn hp
  have gone : ∀ e, eX G p e = true → e < 48 → ((∃ k, k ≤ (wkW G p).length ∧ (wkS G p).getD k 0 = eA G e) ∨ ∃ k, k ≤ (wkW G p).length ∧ (wkS G p).getD k 0 = eB G e) → e ∈ eds (wkW G p) := by
    intro e he he48 hor
    have hg : wkG G p e = true := by
      rcases hor with ⟨k, k1, k2⟩ | ⟨k, k1, k2⟩
      · exact deg_none' (g := gP G p) (hnone k k1) he48 he (Or.inl k2.symm)
      · exact deg_none' (g := gP G p) (hnone k k1) he48 he (Or.inr k2.symm)
    rw [h6 e] at hg
    simpa [noG] using hg
  have hinv := (hdM_ok G).2.2 (fun y => if ∃ k, k ≤ (wkW G p).length ∧ (wkS G p).getD k 0 = y then 1 else 0) (fun a b _ _ hR => by
    obtain ⟨s, hs, rfl, rfl⟩ := hR
    have eAs : eA G s = mt G (2 * s) := by unfold eA; rw [if_pos (by omega)]
    have eBs : eB G s = mt G (2 * s + 1) := by unfold eB; rw [if_pos (by omega)]
    have hk := pt_kr hs
    by_cases q : pt G (mt G (2 * s)) = p
    · have hx : eX G p s = true := by unfold eX; rw [if_pos (by omega)]; simp [hs, q]
      have iff1 : (∃ k, k ≤ (wkW G p).length ∧ (wkS G p).getD k 0 = mt G (2 * s)) ↔ ∃ k, k ≤ (wkW G p).length ∧ (wkS G p).getD k 0 = mt G (2 * s + 1) := by
        rw [← eAs, ← eBs]
        exact ⟨fun z => (wk_ends hn hp (gone s hx (by omega) (Or.inl z))).2, fun z => (wk_ends hn hp (gone s hx (by omega) (Or.inr z))).1⟩
      by_cases z : ∃ k, k ≤ (wkW G p).length ∧ (wkS G p).getD k 0 = mt G (2 * s)
      · rw [if_pos z, if_pos (iff1.mp z)]
      · rw [if_neg z, if_neg (fun y => z (iff1.mpr y))]
    · rw [if_neg (fun ⟨k, k1, k2⟩ => q (by rw [← k2]; exact (wk_pt hn hp k k1).2)), if_neg (fun ⟨k, k1, k2⟩ => q (by rw [hk, ← k2]; exact (wk_pt hn hp k k1).2))])
  obtain ⟨s1, s2⟩ := st_ok hp
  have e1 := hinv x hx
  have e2 := hinv (stG G p) s1
  have hsame : hdM G x = hdM G (stG G p) := by
    have a1 := nth_rk (f := hdM G) (n := mcn G) (a := hdM G x) (by have := (hdM_ok G).1 x hx; omega) ((hdM_ok G).idem hx)
    have a2 := nth_rk (f := hdM G) (n := mcn G) (a := hdM G (stG G p)) (by have := (hdM_ok G).1 _ s1; omega) ((hdM_ok G).idem s1)
    have b1 : rk (hdM G) (hdM G x) = p := hxp
    have b2 : rk (hdM G) (hdM G (stG G p)) = p := s2
    rw [b1] at a1
    rw [b2] at a2
    exact a1.symm.trans a2
  have est : (if ∃ k, k ≤ (wkW G p).length ∧ (wkS G p).getD k 0 = stG G p then 1 else 0) = 1 := if_pos ⟨0, by omega, h2⟩
  rw [est, ← hsame, e1] at e2
  by_cases z : ∃ k, k ≤ (wkW G p).length ∧ (wkS G p).getD k 0 = x
  · exact z
  · rw [if_neg z] at e2; cases e2
/-- the walk of a part goes over just its edges -/
theorem wk_eds {G : Geo} {p e : Nat} (hn : G.1 ≤ 24) (hp : p < pcn G) : e ∈ eds (wkW G p) ↔ eX G p e = true ∧ e < 48 := by
  obtain ⟨⟨hc, h2, h3, h4, h5, h6, h7⟩, hnone, -⟩ := wk_ok hn hp
  constructor
  · intro h; exact (h7 e h).2
  · intro ⟨h, h48⟩
    obtain ⟨⟨x1, x2⟩, -⟩ := eX_pt hp h
    obtain ⟨k, k1, k2⟩ := wk_all hn hp x1 x2
    have hg := deg_none' (g := gP G p) (hnone k k1) h48 h (Or.inl k2.symm)
    rw [h6 e] at hg
    simpa [noG] using hg
