/-! the class's calls: more queries -/
theorem WA_sub {G : Geo} {q : Nat × Nat} {p : Nat} : ∀ {P : Nat}, p < P → q ∈ wkW G p → q ∈ WA G P
  | 0, h, _ => by omega
  | P + 1, h, hq => by
    show q ∈ WA G P ++ wkW G P
    by_cases e : p = P
    · subst e; exact List.mem_append_right _ hq
    · exact List.mem_append_left _ (WA_sub (by omega) hq)
/-- every stroke lies in a trail -/
theorem in_flat {G : Geo} {s : Nat} (hn : G.1 ≤ 24) (hs : s < G.1) : ∃ q ∈ flat (TR G (pcn G)), q.2 = s := by
  have hm := mt_lt (G := G) (e := 2 * s) (by omega)
  have hp := pt_lt hm
  have hx : eX G (pt G (mt G (2 * s))) s = true := by unfold eX; rw [if_pos (by omega)]; simp [hs]
  have := (wk_eds hn hp).mpr ⟨hx, by omega⟩
  obtain ⟨q, q1, q2⟩ := List.mem_map.mp this
  refine ⟨q, ?_, q2⟩
  rw [flat_TR]
  refine List.mem_filter.mpr ⟨WA_sub hp q1, ?_⟩
  unfold isS
  have q2' : q.2 = s := q2
  rw [q2']; simp; omega
theorem in_tg {T : Tr} {q : Nat × Nat} (h : q ∈ flat T) : ∃ t k, t < T.length ∧ k < (tg T t).2.length ∧ (tg T t).2.getD k (0, 0) = q := by
  unfold flat at h
  obtain ⟨l, hl, hq⟩ := List.mem_flatten.mp h
  obtain ⟨a, ha, rfl⟩ := List.mem_map.mp hl
  obtain ⟨t, ht, rfl⟩ := List.getElem_of_mem ha
  obtain ⟨k, hk, rfl⟩ := List.getElem_of_mem hq
  have e : tg T t = T[t] := by unfold tg; rw [List.getD_eq_getElem?_getD, List.getElem?_eq_getElem ht]; rfl
  refine ⟨t, k, ht, by rw [e]; exact hk, ?_⟩
  rw [e, List.getD_eq_getElem?_getD, List.getElem?_eq_getElem hk]; rfl
/-- the trail of a stroke: by the class's row -/
theorem toS_is {σ : StT} {G : Geo} {T : Tr} {s : Nat} (h : atT σ G T) (hi : ∃ q ∈ flat T, q.2 = s) : ∃ t, toS T s = some t ∧ t < T.length ∧ σ 46 s = t := by
  have all : ∀ t k, t < T.length → k < (tg T t).2.length → σ 46 ((tg T t).2.getD k (0, 0)).2 = t := fun t k ht hk => by
    obtain ⟨off, -, -, -, -, -, -, a6⟩ := h.at ht
    exact (a6 k hk).2
  obtain ⟨q, hq, rfl⟩ := hi
  obtain ⟨t, k, ht, hk, e⟩ := in_tg hq
  have e46 := all t k ht hk
  rw [e] at e46
  refine ⟨t, ?_, ht, e46⟩
  unfold toS
  refine fst1_is ht ?_ (fun y hy => ?_)
  · exact List.any_eq_true.mpr ⟨q, by rw [← e]; exact gd_mem hk, by simp⟩
  · cases c : (tg T y).2.any (fun x => decide (x.2 = q.2)) with
    | false => rfl
    | true =>
      obtain ⟨x, hx, hxq⟩ := List.any_eq_true.mp c
      obtain ⟨j, hj, rfl⟩ := List.getElem_of_mem hx
      have e2 := all y j (by omega) hj
      rw [List.getD_eq_getElem?_getD, List.getElem?_eq_getElem hj] at e2
      have hxq : (tg T y).2[j].2 = q.2 := by simpa using hxq
      have e2 : σ 46 ((tg T y).2[j]).2 = y := e2
      rw [hxq, e46] at e2
      omega
section TOPC
variable {S : ShT} {σ : StT} {Q : Int → StT → Prop} {M : Ms}
theorem cT.d (h : cT σ M) (c : σ 1 12 ≠ 0) : M.dr = true := by
  by_cases d : M.dr = true
  · exact d
  · exact absurd (h.dr0 (dr_f d)) c
theorem cT.nd (h : cT σ M) (c : σ 1 12 = 0) : ¬ M.dr = true := fun d => h.dr1 d c
theorem c_meeting {m w : Int} (hS : SHP S) : CS S mX10_meeting [vR 1, vI m, vI w] M (A_meeting M m w) := fun σ Q h hQ => by
  unfold A_meeting at hQ
  have ref : ¬ (M.dr = true ∧ 0 ≤ m ∧ m < mcn M.g ∧ 0 ≤ w ∧ w ≤ 4) → WPs mX10_refused [vR 1, vI 1] S σ Q := fun z => by
    rw [if_neg z] at hQ; exact c_ref hS h frR.rf (by omega) hQ
  refine e_X10_meeting hS ⟨fun c => ref (fun z => h.nd c z.1), fun c => ⟨fun q => ref (fun z => by omega), fun q => e_X3_count hS isM_a ?_⟩⟩
  have d := h.d c
  have W := h.w d
  have hn := W.2.1.1.g.1
  have hml := mcn_le M.g
  have hml2 : mcn M.g ≤ 48 := by have : M.g.1 ≤ 24 := hn; omega
  have hc : σ (7 + 1) 2 = (mcn M.g : Int) := W.2.2.1.1.1
  rw [hc]
  refine ⟨fun q1 => ?_, fun q1 => ref (fun z => by omega)⟩
  have sm : okS M.g m := Or.inr ⟨by omega, by omega⟩
  obtain ⟨k, rfl⟩ := nat_of (show 0 ≤ m by omega)
  have e18 : σ 18 k = ecn M.g k := W.2.2.1.2.2.1 k (by show k < mcn M.g; omega)
  have e13 : σ (7 + 5 + 1) k = pt M.g k := W.2.2.1.2.1.2.1 k (by show k < mcn M.g; omega)
  have e11 : σ (7 + 1 + 2) k = fe M.g k := W.2.2.1.1.2.2.1 k (by show k < mcn M.g; omega)
  refine ⟨fun q2 => ref (fun z => by omega), fun q2 => ?_, fun q2 => ?_, fun q2 => ⟨⟨by omega, by omega⟩, ?_⟩, fun q2 => e_X3_partOf hS isM_a ⟨⟨by omega, by omega⟩, ?_⟩, fun q2 => e_X3_firstEnd hS isM_a ⟨⟨by omega, by omega⟩, ?_⟩⟩
  all_goals (rw [if_pos ⟨d, by omega, by omega, by omega, by omega⟩] at hQ; subst q2)
  · exact sp_xOf hS W.wP sm (c_told hS h frR.rf hQ)
  · exact sp_yOf hS W.wP sm (c_told hS h frR.rf hQ)
  · rw [tn_cast, e18]; exact c_told hS h frR.rf hQ
  · rw [tn_cast, e13]; exact c_told hS h frR.rf hQ
  · rw [tn_cast, e11]; exact c_told hS h frR.rf hQ
theorem c_part {p w : Int} (hS : SHP S) : CS S mX10_part [vR 1, vI p, vI w] M (A_part M p w) := fun σ Q h hQ => by
  unfold A_part at hQ
  have ref : ¬ (M.dr = true ∧ 0 ≤ p ∧ p < pcn M.g ∧ 0 ≤ w ∧ w ≤ 5) → WPs mX10_refused [vR 1, vI 1] S σ Q := fun z => by
    rw [if_neg z] at hQ; exact c_ref hS h frR.rf (by omega) hQ
  refine e_X10_part hS (c_hasPart hS h (fun d p0 p1 => ⟨fun _ => ?_, fun q => absurd q (by decide)⟩) (fun c => ⟨fun q => absurd rfl q, fun _ => ref (fun z => c ⟨z.1, z.2.1, z.2.2.1⟩)⟩))
  have W := h.w d
  have hn : M.g.1 ≤ 24 := W.2.1.1.g.1
  have hpn := pcn_le_n M.g
  obtain ⟨k, rfl⟩ := nat_of p0
  have e19 : σ 19 k = ocn M.g k := W.2.2.1.2.2.2 k (by show k < pcn M.g; omega)
  have e14 : σ (7 + 5 + 2) k = fm M.g k := W.2.2.1.2.1.2.2 k (by show k < pcn M.g; omega)
  refine ⟨fun q2 => ref (fun z => by omega), fun q2 => ?_, fun q2 => ?_, fun q2 => ⟨⟨by omega, by omega⟩, ?_⟩, fun q2 => ?_, fun q2 => e_X3_firstMeeting hS isM_a ⟨⟨by omega, by omega⟩, ?_⟩, fun q2 => ?_⟩
  all_goals (rw [if_pos ⟨d, by omega, by omega, by omega, by omega⟩] at hQ; subst q2)
  · exact sp_meetingsIn hS isM_a hn W.2.2.1 (c_told hS h frR.rf hQ)
  · exact sp_strokesIn hS isM_a hn W.2.2.1 W.1.1 (c_told hS h frR.rf hQ)
  · rw [tn_cast, e19]; exact c_told hS h frR.rf hQ
  · exact sp_trailsIn hS isM_a hn W.2.2.1 (by show k < pcn M.g; omega) (c_told hS h frR.rf hQ)
  · rw [tn_cast, e14]; exact c_told hS h frR.rf hQ
  · exact sp_gapsIn hS W.2.1.1.g W.2.2.2.1 (by show k < pcn M.g; omega) (c_told hS h frR.rf hQ)
theorem cut_iff {G : Geo} {q i : Nat} (hq : q < pcn G) (h1 : PN G q ≤ i) (h2 : i < PN G (q + 1)) : (∃ p, p < pcn G ∧ (i : Int) = cutI G p) ↔ (i : Int) = cutI G q := by
  constructor
  · rintro ⟨p, hp, e⟩
    have hc := cutI_in G p
    have hPN : PN G (p + 1) = PN G p + ocn G p / 2 := rfl
    have : p = q := by
      rcases Nat.lt_trichotomy p q with d | d | d
      · have := PN_mono G (show p + 1 ≤ q by omega); omega
      · exact d
      · have := PN_mono G (show q + 1 ≤ p by omega); omega
    rw [← this]; exact e
  · intro e; exact ⟨q, hq, e⟩
theorem c_pair {i w : Int} (hS : SHP S) : CS S mX10_pair [vR 1, vI i, vI w] M (A_pair M i w) := fun σ Q h hQ => by
  unfold A_pair at hQ
  have ref : ¬ (M.dr = true ∧ 0 ≤ i ∧ i < PN M.g (pcn M.g) ∧ 0 ≤ w ∧ w ≤ 3) → WPs mX10_refused [vR 1, vI 1] S σ Q := fun z => by
    rw [if_neg z] at hQ; exact c_ref hS h frR.rf (by omega) hQ
  refine e_X10_pair hS ⟨fun c => ref (fun z => h.nd c z.1), fun c => ⟨fun q => ref (fun z => by omega), fun q => ?_⟩⟩
  have d := h.d c
  have W := h.w d
  have hn : M.g.1 ≤ 24 := W.2.1.1.g.1
  have h6 : σ 20 6 = (PN M.g (pcn M.g) : Int) := by rw [W.2.2.2.1.1.1, AP_lenP]; rfl
  have h24 := PN_24 hn (Nat.le_refl (pcn M.g))
  rw [h6]
  refine ⟨fun q1 => ?_, fun q1 => ref (fun z => by omega)⟩
  obtain ⟨k, rfl⟩ := nat_of (show 0 ≤ i by omega)
  have hk : k < PN M.g (pcn M.g) := by omega
  have pr : σ 21 k = (apr M.g k).1 ∧ σ 22 k = (apr M.g k).2 ∧ σ 23 k = gp M.g k := W.2.2.2.1.1.2 k (by rw [AP_lenP]; exact hk)
  obtain ⟨p, p1, p2, p3⟩ := PN_in (G := M.g) (i := k) (pcn M.g) hk
  have e24 : σ 24 k = if (k : Int) = cutI M.g p then 1 else 0 := W.2.2.2.1.2.2.1 p k p1 p2 p3
  have ci := cut_iff p1 p2 p3
  simp only [tn_cast] at hQ ⊢
  rw [pr.1, pr.2.1, pr.2.2]
  refine ⟨fun q2 => ref (fun z => by omega), fun q2 => ⟨⟨by omega, by omega⟩, ?_⟩, fun q2 => ⟨⟨by omega, by omega⟩, ?_⟩, fun q2 => ⟨⟨by omega, by omega⟩, ?_⟩, fun q2 => ⟨⟨by omega, by omega⟩, fun q3 => ?_, fun q3 => ?_⟩⟩
  all_goals (rw [if_pos ⟨d, by omega, by omega, by omega, by omega⟩] at hQ; subst q2)
  · exact c_told hS h frR.rf hQ
  · exact c_told hS h frR.rf hQ
  · exact c_told hS h frR.rf hQ
  · rw [e24] at q3
    have nc : ¬ (k : Int) = cutI M.g p := fun z => by rw [if_pos z] at q3; omega
    rw [if_neg (by decide), if_neg (by decide), if_neg (by decide), if_neg (fun z => nc (ci.mp z))] at hQ
    exact c_told hS h frR.rf hQ
  · rw [e24] at q3
    have nc : (k : Int) = cutI M.g p := by
      by_cases z : (k : Int) = cutI M.g p
      · exact z
      · rw [if_neg z] at q3; exact absurd rfl q3
    rw [if_neg (by decide), if_neg (by decide), if_neg (by decide), if_pos (ci.mpr nc)] at hQ
    exact c_told hS h frR.rf hQ
theorem c_walk {p k : Int} (hS : SHP S) : CS S mX10_walk [vR 1, vI p, vI k] M (A_walk M p k) := fun σ Q h hQ => by
  unfold A_walk at hQ
  have ref : ¬ (M.dr = true ∧ 0 ≤ p ∧ p < pcn M.g ∧ 0 ≤ k) → WPs mX10_refused [vR 1, vI 1] S σ Q := fun z => by
    rw [if_neg z] at hQ; exact c_ref hS h frR.rf (by omega) hQ
  refine e_X10_walk hS (c_hasPart hS h (fun d p0 p1 => ⟨fun q => absurd q (by decide), fun _ => ⟨fun q => ?_, fun q => ref (fun z => by omega)⟩⟩) (fun c => ⟨fun _ => ref (fun z => c ⟨z.1, z.2.1, z.2.2.1⟩), fun q => absurd rfl q⟩))
  have W := h.w d
  have hn : M.g.1 ≤ 24 := W.2.1.1.g.1
  rw [if_pos ⟨d, p0, p1, q⟩] at hQ
  obtain ⟨j, rfl⟩ := nat_of p0
  obtain ⟨x, rfl⟩ := nat_of q
  simp only [tn_cast] at hQ
  refine sp_waysIn hS hn W.2.2.2.2.1 (by show j < pcn M.g; omega) ⟨fun q1 => ?_, fun q1 => ?_⟩
  · rw [if_pos q1] at hQ
    exact sp_wayOf hS hn W.2.2.2.2.1 (by show j < pcn M.g; omega) (by show x < (wkW M.g j).length; omega) (c_told hS h frR.rf hQ)
  · rw [if_neg q1] at hQ
    exact c_told hS h frR.rf hQ
theorem c_trail {i w : Int} (hS : SHP S) : CS S mX10_trail [vR 1, vI i, vI w] M (A_trail M i w) := fun σ Q h hQ => by
  unfold A_trail at hQ
  have ref : ¬ (M.dr = true ∧ 0 ≤ i ∧ i < M.N ∧ 0 ≤ w ∧ w ≤ 6) → WPs mX10_refused [vR 1, vI 1] S σ Q := fun z => by
    rw [if_neg z] at hQ; exact c_ref hS h frR.rf (by omega) hQ
  refine e_X10_trail hS (c_hasPlace hS h (fun d p0 p1 => ⟨fun _ => ?_, fun q => absurd q (by decide)⟩) (fun c => ⟨fun q => absurd rfl q, fun _ => ref (fun z => c ⟨z.1, z.2.1, z.2.2.1⟩)⟩))
  have W := h.w d
  have wp := W.wP
  have pf := W.2.2.2.2.2.2
  have ho := W.2.1.2.2
  have hP : isP 51 := Or.inl rfl
  obtain ⟨k, rfl⟩ := nat_of p0
  have hk : k < M.N := by omega
  have ht := ho.2 k hk
  have hle := wp.le
  obtain ⟨off, -, a1, a2, -, a4, -⟩ := wp.2.2.2.2.1.at ht
  simp only [tn_cast] at hQ
  refine sp_trailAt hS hP pf ho.1 hk ⟨fun q2 => ref (fun z => by omega), fun q2 => ⟨⟨by omega, by omega⟩, ?_⟩, fun q2 => ⟨⟨by omega, by omega⟩, ?_⟩, fun q2 => ?_, fun q2 => ?_, fun q2 => ⟨⟨by omega, by omega⟩, ?_⟩, fun q2 => ?_, fun q2 => ?_⟩
  all_goals (rw [if_pos ⟨d, by omega, by omega, by omega, by omega⟩] at hQ; subst q2)
  · rw [tn_cast, a1]; exact c_told hS h frR.rf hQ
  · rw [tn_cast, a2]; exact c_told hS h frR.rf hQ
  · exact sp_beginOf hS hP wp pf ho hk (c_told hS h frR.rf hQ)
  · exact sp_endOf hS hP wp pf ho hk (c_told hS h frR.rf hQ)
  · rw [tn_cast, a4]; exact c_told hS h frR.rf hQ
  · refine sp_isBackwards hS hP pf ho.1 hk ⟨fun q => ?_, fun q => ?_⟩
    · have e : M.f k % 2 = 0 := by
        by_cases c : M.f k % 2 = 1
        · rw [if_pos c] at q; omega
        · omega
      rw [e] at hQ
      exact c_told hS h frR.rf hQ
    · have e : M.f k % 2 = 1 := by
        by_cases c : M.f k % 2 = 1
        · exact c
        · rw [if_neg c] at q; exact absurd rfl q
      rw [e] at hQ
      exact c_told hS h frR.rf hQ
  · exact c_told hS h frR.rf hQ
theorem c_ride {i k : Int} (hS : SHP S) : CS S mX10_ride [vR 1, vI i, vI k] M (A_ride M i k) := fun σ Q h hQ => by
  unfold A_ride at hQ
  have ref : ¬ (M.dr = true ∧ 0 ≤ i ∧ i < M.N ∧ 0 ≤ k ∧ k < (tg M.T (M.f i.toNat / 2)).2.length) → WPs mX10_refused [vR 1, vI 1] S σ Q := fun z => by
    rw [if_neg z] at hQ; exact c_ref hS h frR.rf (by omega) hQ
  refine e_X10_ride hS (c_hasPlace hS h (fun d p0 p1 => ⟨fun q => absurd q (by decide), fun _ => ⟨fun q => ref (fun z => by omega), fun q => ?_⟩⟩) (fun c => ⟨fun _ => ref (fun z => c ⟨z.1, z.2.1, z.2.2.1⟩), fun q => absurd rfl q⟩))
  have W := h.w d
  have wp := W.wP
  have pf := W.2.2.2.2.2.2
  have ho := W.2.1.2.2
  have hP : isP 51 := Or.inl rfl
  obtain ⟨j, rfl⟩ := nat_of p0
  obtain ⟨x, rfl⟩ := nat_of (show 0 ≤ k by omega)
  have hj : j < M.N := by omega
  have ht := ho.2 j hj
  have hle := wp.le
  simp only [tn_cast] at hQ
  refine sp_trailAt hS hP pf ho.1 hj ⟨⟨by omega, by omega⟩, ?_⟩
  rw [tn_cast, wp.2.2.2.2.1.len ht]
  refine ⟨fun q1 => ?_, fun q1 => ref (fun z => q1 (by have := z.2.2.2.2; rw [tn_cast] at this; exact this))⟩
  rw [if_pos ⟨d, by omega, by omega, by omega, q1⟩] at hQ
  exact sp_strokeAt hS hP wp pf ho hj (by omega) (c_told hS h frR.rf hQ)
end TOPC
