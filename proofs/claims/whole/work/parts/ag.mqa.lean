/-! Model: counts -/
theorem ocn_all (G : Geo) : sm (ocn G) (pcn G) = cnt (odd G) (mcn G) := by
  have key : ∀ k, k ≤ mcn G → sm (fun p => cnt (fun m => odd G m && decide (pt G m = p)) k) (pcn G) = cnt (odd G) k := by
    intro k
    induction k with
    | zero => intro _; show sm (fun _ => 0) (pcn G) = 0; rw [sm_0]
    | succ k ih =>
      intro hk
      have ih := ih (by omega)
      have hp : pt G k < pcn G := pt_lt (by omega)
      have e : sm (fun p => cnt (fun m => odd G m && decide (pt G m = p)) (k + 1)) (pcn G) = sm (fun p => cnt (fun m => odd G m && decide (pt G m = p)) k) (pcn G) + sm (fun p => if p = pt G k then (if odd G k = true then 1 else 0) else 0) (pcn G) := by
        rw [← sm_add]
        refine sm_ext (n := pcn G) (fun p _ => ?_) _ (Nat.le_refl _)
        rw [cnt_s]
        by_cases e : p = pt G k
        · subst e; simp
        · have : ¬ pt G k = p := fun q => e q.symm
          simp [e, this]
      rw [e, sm_one hp, ih, cnt_s]
  exact key (mcn G) (Nat.le_refl _)
def ctT (T : Tr) (p : Nat) : Nat := (T.filter (fun a => decide (a.1 = p))).length
theorem ctT_app (T U : Tr) (p : Nat) : ctT (T ++ U) p = ctT T p + ctT U p := by unfold ctT; rw [List.filter_append, List.length_append]
theorem ctT_all {U : Tr} {p : Nat} (h : ∀ a ∈ U, a.1 = p) : ctT U p = U.length := by
  unfold ctT; rw [List.filter_eq_self.mpr (fun a ha => by simp [h a ha])]
theorem ctT_no {U : Tr} {p q : Nat} (h : ∀ a ∈ U, a.1 = q) (hne : q ≠ p) : ctT U p = 0 := by
  unfold ctT; rw [List.filter_eq_nil_iff.mpr (fun a ha => by simp [h a ha, hne])]; rfl
theorem ctT_TR {G : Geo} {p : Nat} (hn : G.1 ≤ 24) : ∀ {P : Nat}, P ≤ pcn G → ctT (TR G P) p = if p < P then nTr G p else 0
  | 0, _ => by rw [if_neg (by omega)]; rfl
  | P + 1, h => by
    obtain ⟨U, u1, u2, -⟩ := tk_new (G := G) (p := P) (k := (wkW G P).length) (Nat.le_refl _)
    rw [← tk_end] at u1
    have hl := TR_num hn (show P < pcn G by omega)
    rw [u1, List.length_append] at hl
    rw [u1, ctT_app, ctT_TR hn (by omega)]
    by_cases e : P = p
    · subst e
      rw [if_neg (by omega), if_pos (by omega), ctT_all u2]; omega
    · rw [ctT_no u2 e]
      by_cases c : p < P
      · rw [if_pos c, if_pos (by omega)]; rfl
      · rw [if_neg c, if_neg (by omega)]
theorem ctT_cnt (T : Tr) (p : Nat) : ∀ k, k ≤ T.length → cnt (fun t => decide ((tg T t).1 = p)) k = ctT (T.take k) p
  | 0, _ => by simp [ctT, cnt]
  | k + 1, h => by
    rw [cnt_s, ctT_cnt T p k (by omega), take_sn (d := (0, [])) (by omega), ctT_app]
    have : T.getD k (0, []) = tg T k := rfl
    rw [this]
    unfold ctT
    by_cases c : (tg T k).1 = p <;> simp [c]
theorem nTr_cnt {G : Geo} {p : Nat} (hn : G.1 ≤ 24) (hp : p < pcn G) : cnt (fun t => decide ((tg (TR G (pcn G)) t).1 = p)) (TR G (pcn G)).length = nTr G p := by
  rw [ctT_cnt _ _ _ (Nat.le_refl _), List.take_length, ctT_TR hn (Nat.le_refl _), if_pos hp]
section MQA
variable {S : ShT} {σ : StT} {Q : Int → StT → Prop} {D : Dw} {N : Nat} {f : Nat → Nat} {M : Ms}
theorem m_oddAll (hS : SHP S) (h : wQ σ D N f) (hQ : Q (sm (ocn (gG D)) (pcn (gG D)) : Int) σ) : WPs mX11_oddAll [vR 125] S σ Q := by
  have h48 := h.m48
  have e26 := h.2.2.2.1.1
  rw [ocn_all] at hQ
  refine e_X11_oddAll hS ?_
  refine lupg (α := Int) (I := fun i x => 0 ≤ i ∧ i ≤ (mcn (gG D) : Int) ∧ x = (cnt (odd (gG D)) i.toNat : Int)) (W := fun i x => AWs mX11_oddAll 4 [(0, vR 125), (1, vI x), (2, vI i)] [] S σ Q) (mcn (gG D) : Int) ?_ ?_ 0 0 ⟨by omega, by omega, rfl⟩
  · rintro i x ⟨i0, i1, rfl⟩ hge
    have ei : i = (mcn (gG D) : Int) := by omega
    subst ei
    refine t_X11_oddAll_4 hS ?_
    rw [e26, tn_cast]
    exact ⟨fun _ => hQ, fun q => absurd (by omega) q⟩
  · rintro i x ⟨i0, i1, rfl⟩ hlt kk
    obtain ⟨i, rfl⟩ := nat_of i0
    refine t_X11_oddAll_4 hS ?_
    rw [e26, tn_cast]
    have hc := cnt_le (odd (gG D)) i
    refine ⟨fun q => absurd q (by omega), fun _ => m_isOdd (G := gG D) hS (by omega) (h.2.2.2.1.2.2.2 i (by omega)).2.1 ?_⟩
    have hs := cnt_s (odd (gG D)) i
    by_cases c : odd (gG D) i = true
    · rw [if_pos c] at hs
      rw [if_pos c]
      exact ⟨fun q => absurd q (by decide), fun _ => ⟨inR_s (by omega) (by omega), inR_s (by omega) (by omega), kk _ ⟨by omega, by omega, by rw [show ((i : Int) + 1).toNat = i + 1 from rfl]; omega⟩⟩⟩
    · rw [if_neg c] at hs
      rw [if_neg c]
      exact ⟨fun _ => ⟨inR_s (by omega) (by omega), inR_s (by omega) (by omega), kk _ ⟨by omega, by omega, by rw [show ((i : Int) + 1).toNat = i + 1 from rfl]; omega⟩⟩, fun q => absurd rfl q⟩
theorem m_strokesOf {p : Nat} (hS : SHP S) (h : wQ σ D N f) (hQ : Q (cnt (fun s => decide (pt (gG D) (mt (gG D) (2 * s)) = p)) D.n : Int) σ) : WPs mX11_strokesOf [vR 125, vI (p : Int)] S σ Q := by
  have hn : D.n ≤ 24 := h.n
  have h48 := h.m48
  have e2 : σ 127 2 = D.n := h.2.1.2.2.1
  refine e_X11_strokesOf hS ?_
  refine lupg (α := Int) (I := fun i x => 0 ≤ i ∧ i ≤ (D.n : Int) ∧ x = (cnt (fun s => decide (pt (gG D) (mt (gG D) (2 * s)) = p)) i.toNat : Int)) (W := fun i x => AWs mX11_strokesOf 4 [(0, vR 125), (1, vI (p : Int)), (2, vI x), (3, vI i)] [] S σ Q) (D.n : Int) ?_ ?_ 0 0 ⟨by omega, by omega, rfl⟩
  · rintro i x ⟨i0, i1, rfl⟩ hge
    have ei : i = (D.n : Int) := by omega
    subst ei
    refine t_X11_strokesOf_4 hS ?_
    rw [e2, tn_cast]
    exact ⟨fun _ => hQ, fun q => absurd (by omega) q⟩
  · rintro i x ⟨i0, i1, rfl⟩ hlt kk
    obtain ⟨i, rfl⟩ := nat_of i0
    have hi : 2 * i < 2 * (gG D).1 := by show 2 * i < 2 * D.n; omega
    have hmt := mt_lt hi
    refine t_X11_strokesOf_4 hS ?_
    rw [e2, tn_cast, show (2 * (i : Int)).toNat = 2 * i by omega, h.2.2.2.1.2.2.1 (2 * i) hi, tn_cast, (h.2.2.2.1.2.2.2 _ hmt).2.2]
    have hc := cnt_le (fun s => decide (pt (gG D) (mt (gG D) (2 * s)) = p)) i
    have hs := cnt_s (fun s => decide (pt (gG D) (mt (gG D) (2 * s)) = p)) i
    refine ⟨fun q => absurd q (by omega), fun _ => ⟨inR_s (by omega) (by omega), ⟨by omega, by omega⟩, ⟨by omega, by omega⟩, fun q => ?_, fun q => ?_⟩⟩
    · rw [if_neg (by simp; omega)] at hs
      exact ⟨inR_s (by omega) (by omega), inR_s (by omega) (by omega), kk _ ⟨by omega, by omega, by rw [show ((i : Int) + 1).toNat = i + 1 from rfl]; omega⟩⟩
    · rw [if_pos (by simp; omega)] at hs
      exact ⟨inR_s (by omega) (by omega), inR_s (by omega) (by omega), kk _ ⟨by omega, by omega, by rw [show ((i : Int) + 1).toNat = i + 1 from rfl]; omega⟩⟩
theorem m_trailsOf {p : Nat} (hS : SHP S) (h : wQ σ D N f) (hp : p < pcn (gG D)) (hQ : Q (nTr (gG D) p : Int) σ) : WPs mX11_trailsOf [vR 125, vI (p : Int)] S σ Q := by
  have hl := h.1.le
  have e50 : σ 125 50 = (TT D).length := h.2.2.2.2.2.2.2.1
  have hq : nTr (gG D) p = cnt (fun t => decide ((tg (TT D) t).1 = p)) (TT D).length := (nTr_cnt h.n hp).symm
  rw [hq] at hQ
  refine e_X11_trailsOf hS ?_
  refine lupg (α := Int) (I := fun i x => 0 ≤ i ∧ i ≤ ((TT D).length : Int) ∧ x = (cnt (fun t => decide ((tg (TT D) t).1 = p)) i.toNat : Int)) (W := fun i x => AWs mX11_trailsOf 4 [(0, vR 125), (1, vI (p : Int)), (2, vI x), (3, vI i)] [] S σ Q) ((TT D).length : Int) ?_ ?_ 0 0 ⟨by omega, by omega, rfl⟩
  · rintro i x ⟨i0, i1, rfl⟩ hge
    have ei : i = ((TT D).length : Int) := by omega
    subst ei
    refine t_X11_trailsOf_4 hS ?_
    rw [e50, tn_cast]
    exact ⟨fun _ => hQ, fun q => absurd (by omega) q⟩
  · rintro i x ⟨i0, i1, rfl⟩ hlt kk
    obtain ⟨i, rfl⟩ := nat_of i0
    refine t_X11_trailsOf_4 hS ?_
    rw [e50, tn_cast, (h.t (t := i) (by omega)).1]
    have hc := cnt_le (fun t => decide ((tg (TT D) t).1 = p)) i
    have hs := cnt_s (fun t => decide ((tg (TT D) t).1 = p)) i
    refine ⟨fun q => absurd q (by omega), fun _ => ⟨⟨by omega, by omega⟩, fun q => ?_, fun q => ?_⟩⟩
    · rw [if_neg (by simp; omega)] at hs
      exact ⟨inR_s (by omega) (by omega), inR_s (by omega) (by omega), kk _ ⟨by omega, by omega, by rw [show ((i : Int) + 1).toNat = i + 1 from rfl]; omega⟩⟩
    · rw [if_pos (by simp; omega)] at hs
      exact ⟨inR_s (by omega) (by omega), inR_s (by omega) (by omega), kk _ ⟨by omega, by omega, by rw [show ((i : Int) + 1).toNat = i + 1 from rfl]; omega⟩⟩
theorem wQ.P (h : wQ σ D N f) : σ 125 31 = PN (gG D) (pcn (gG D)) ∧ PN (gG D) (pcn (gG D)) ≤ 24 := ⟨by rw [h.2.2.2.2.1.1.1, AP_lenP], PN_24 h.n (Nat.le_refl _)⟩
theorem wQ.pr {i : Nat} (h : wQ σ D N f) (hi : i < PN (gG D) (pcn (gG D))) : (σ 135 i = (apr (gG D) i).1 ∧ σ 136 i = (apr (gG D) i).2) ∧ (apr (gG D) i).1 < mcn (gG D) ∧ (apr (gG D) i).2 < mcn (gG D) := by
  refine ⟨h.2.2.2.2.1.1.2 i (by rw [AP_lenP]; exact hi), ?_⟩
  obtain ⟨z, z1, z2, z3⟩ := PN_in (G := gG D) (i := i) _ hi
  obtain ⟨o1, o2⟩ := apr_ok z1 z2 z3
  rw [OL_mem] at o1 o2
  exact ⟨o1.1, o2.1⟩
theorem m_farOf {i : Nat} (hS : SHP S) (h : wQ σ D N f) (hi : i < PN (gG D) (pcn (gG D))) (hQ : Q (gp (gG D) i) σ) : WPs mX11_farOf [vR 125, vI (i : Int)] S σ Q := by
  have h24 := h.P.2
  obtain ⟨⟨a, b⟩, c, d⟩ := h.pr hi
  refine e_X11_farOf hS ?_
  rw [tn_cast, a, b]
  exact ⟨⟨by omega, by omega⟩, ⟨by omega, by omega⟩, m_mds hS h c d hQ⟩
theorem m_pairsOf {p : Nat} (hS : SHP S) (h : wQ σ D N f) (hp : p < pcn (gG D)) (hQ : Q (si (fun t => gp (gG D) (PN (gG D) p + t)) (ocn (gG D) p / 2)) σ) : WPs mX11_pairsOf [vR 125, vI (p : Int)] S σ Q := by
  obtain ⟨e31, h24⟩ := h.P
  have hPN : PN (gG D) (p + 1) = PN (gG D) p + ocn (gG D) p / 2 := rfl
  have hmo := PN_mono (gG D) (show p + 1 ≤ pcn (gG D) by omega)
  have gin : ∀ t, 0 ≤ gp (gG D) (PN (gG D) p + t) ∧ gp (gG D) (PN (gG D) p + t) ≤ 400 := fun t => mds_in h.1.G _ _
  refine e_X11_pairsOf hS ?_
  refine lupg (α := Int) (I := fun i x => 0 ≤ i ∧ i ≤ (PN (gG D) (pcn (gG D)) : Int) ∧ x = si (fun t => gp (gG D) (PN (gG D) p + t)) (min (i.toNat - PN (gG D) p) (ocn (gG D) p / 2))) (W := fun i x => AWs mX11_pairsOf 4 [(0, vR 125), (1, vI (p : Int)), (2, vI x), (3, vI i)] [] S σ Q) (PN (gG D) (pcn (gG D)) : Int) ?_ ?_ 0 0 ⟨by omega, by omega, ?_⟩
  · rintro i x ⟨i0, i1, rfl⟩ hge
    have ei : i = (PN (gG D) (pcn (gG D)) : Int) := by omega
    subst ei
    refine t_X11_pairsOf_4 hS ?_
    rw [e31, tn_cast, Nat.min_eq_right (by omega)]
    exact ⟨fun _ => hQ, fun q => absurd (by omega) q⟩
  · rintro i x ⟨i0, i1, rfl⟩ hlt kk
    obtain ⟨i, rfl⟩ := nat_of i0
    have hi : i < PN (gG D) (pcn (gG D)) := by omega
    obtain ⟨z, z1, z2, z3⟩ := PN_in (G := gG D) (i := i) _ hi
    have e137 := h.2.2.2.2.1.2.1 z i z1 z2 z3
    have b1 := si_in gin (min (i - PN (gG D) p) (ocn (gG D) p / 2))
    have b2 := Nat.min_le_left (i - PN (gG D) p) (ocn (gG D) p / 2)
    refine t_X11_pairsOf_4 hS ?_
    rw [e31, tn_cast, e137]
    refine ⟨fun q => absurd q (by omega), fun _ => ⟨⟨by omega, by omega⟩, fun q => ?_, fun q => ?_⟩⟩
    · refine ⟨inR_s (by omega) (by omega), inR_s (by omega) (by omega), kk _ ⟨by omega, by omega, ?_⟩⟩
      rw [show ((i : Int) + 1).toNat = i + 1 from rfl, Int.add_zero]
      congr 1
      rcases Nat.lt_or_gt_of_ne (show z ≠ p by omega) with c | c
      · have := PN_mono (gG D) (show z + 1 ≤ p by omega); omega
      · have := PN_mono (gG D) (show p + 1 ≤ z by omega); omega
    · have ez : z = p := by omega
      subst ez
      refine m_farOf hS h hi ?_
      have b3 := gin (i - PN (gG D) z)
      rw [show PN (gG D) z + (i - PN (gG D) z) = i by omega] at b3
      refine ⟨inR_s (by omega) (by omega), inR_s (by omega) (by omega), kk _ ⟨by omega, by omega, ?_⟩⟩
      rw [show ((i : Int) + 1).toNat = i + 1 from rfl, Nat.min_eq_left (by omega), Nat.min_eq_left (by omega), show i + 1 - PN (gG D) z = (i - PN (gG D) z) + 1 by omega]
      show _ = si _ (i - PN (gG D) z) + gp (gG D) (PN (gG D) z + (i - PN (gG D) z))
      rw [show PN (gG D) z + (i - PN (gG D) z) = i by omega]
  · show (0 : Int) = si _ (min (0 - PN (gG D) p) _)
    rw [Nat.zero_sub, Nat.zero_min]; rfl
theorem m_meetingsOf {p : Nat} {w : Int} (hS : SHP S) (h : wQ σ D N f) (hp : p < pcn (gG D)) (hQ : Q (if w = 2 then (fm (gG D) p : Int) else if w = 0 then (cnt (fun m => decide (pt (gG D) m = p)) (mcn (gG D)) : Int) else (ocn (gG D) p : Int)) σ) : WPs mX11_meetingsOf [vR 125, vI (p : Int), vI w] S σ Q := by
  have h48 := h.m48
  have e26 := h.2.2.2.1.1
  obtain ⟨f1, f2⟩ := fm_ok hp
  have f3 : ∀ j, j < mcn (gG D) → pt (gG D) j = p → fm (gG D) p ≤ j := fun j hj e => by
    have := fm_le (G := gG D) (m := j) hj
    rw [e] at this; exact this
  let c0 : Nat → Nat := fun i => if w = 0 then cnt (fun m => decide (pt (gG D) m = p)) i else cnt (fun m => odd (gG D) m && decide (pt (gG D) m = p)) i
  have hc0 : ∀ i, c0 i = if w = 0 then cnt (fun m => decide (pt (gG D) m = p)) i else cnt (fun m => odd (gG D) m && decide (pt (gG D) m = p)) i := fun _ => rfl
  have hcle : ∀ i, c0 i ≤ i := fun i => by
    rw [hc0]; split
    · exact cnt_le _ _
    · exact cnt_le _ _
  have hcs : ∀ i, c0 (i + 1) = c0 i + if pt (gG D) i = p ∧ (w = 0 ∨ odd (gG D) i = true) then 1 else 0 := fun i => by
    rw [hc0, hc0]
    by_cases c : w = 0
    · rw [if_pos c, if_pos c, cnt_s]; simp [c]
    · rw [if_neg c, if_neg c, cnt_s]; simp [c, and_comm]
  clear_value c0
  refine e_X11_meetingsOf hS ?_
  refine lupg (α := Int × Int) (I := fun i x => 0 ≤ i ∧ i ≤ (mcn (gG D) : Int) ∧ x.1 = (c0 i.toNat : Int) ∧ x.2 = if (fm (gG D) p : Int) < i then (fm (gG D) p : Int) else -1) (W := fun i x => AWs mX11_meetingsOf 8 [(0, vR 125), (1, vI (p : Int)), (2, vI w), (3, vI x.1), (4, vI x.2), (5, vI i)] [] S σ Q) (mcn (gG D) : Int) ?_ ?_ 0 (0, -1) ⟨by omega, by omega, ?_, ?_⟩
  · rintro i ⟨x, y⟩ ⟨i0, i1, e1, e2⟩ hge
    simp only at e1 e2
    have ei : i = (mcn (gG D) : Int) := by omega
    subst ei
    refine t_X11_meetingsOf_8 hS ?_
    rw [e26]
    refine ⟨fun _ => ⟨fun q => ?_, fun q => ?_⟩, fun q => absurd (by omega) q⟩
    · rw [if_neg q] at hQ
      rw [tn_cast, hc0] at e1
      show Q x σ
      rw [e1]
      by_cases c : w = 0
      · rw [if_pos c] at hQ; rw [if_pos c]; exact hQ
      · rw [if_neg c] at hQ; rw [if_neg c]; exact hQ
    · rw [if_pos q] at hQ
      show Q y σ
      rw [e2, if_pos (by omega)]; exact hQ
  · rintro i ⟨x, y⟩ ⟨i0, i1, e1, e2⟩ hlt kk
    simp only at e1 e2
    obtain ⟨i, rfl⟩ := nat_of i0
    rw [tn_cast] at e1
    have hs := hcs i
    have hle := hcle i
    obtain ⟨z1, z2, z3⟩ := h.2.2.2.1.2.2.2 i (by omega)
    have fin : ∀ x' y' : Int, x' = (c0 (i + 1) : Int) → y' = (if (fm (gG D) p : Int) < (i : Int) + 1 then (fm (gG D) p : Int) else -1) → inR ((i : Int) + 1) ∧ AWs mX11_meetingsOf 8 [(0, vR 125), (1, vI (p : Int)), (2, vI w), (3, vI x'), (4, vI y'), (5, vI ((i : Int) + 1))] [] S σ Q := fun x' y' q1 q2 => ⟨inR_s (by omega) (by omega), kk (x', y') ⟨by omega, by omega, q1, q2⟩⟩
    have yes : pt (gG D) i = p → ∀ x' : Int, x' = (c0 (i + 1) : Int) → ((¬ y = -1 → inR ((i : Int) + 1) ∧ AWs mX11_meetingsOf 8 [(0, vR 125), (1, vI (p : Int)), (2, vI w), (3, vI x'), (4, vI y), (5, vI ((i : Int) + 1))] [] S σ Q) ∧ (y = -1 → inR ((i : Int) + 1) ∧ AWs mX11_meetingsOf 8 [(0, vR 125), (1, vI (p : Int)), (2, vI w), (3, vI x'), (4, vI (i : Int)), (5, vI ((i : Int) + 1))] [] S σ Q)) := fun q x' q1 => by
      have := f3 i (by omega) q
      refine ⟨fun c => fin x' y q1 ?_, fun c => fin x' i q1 ?_⟩
      · rw [e2]
        by_cases d : (fm (gG D) p : Int) < i
        · rw [if_pos d, if_pos (by omega)]
        · rw [if_neg d] at e2; exact absurd e2 c
      · by_cases d : (fm (gG D) p : Int) < i
        · rw [if_pos d] at e2; omega
        · rw [if_pos (by omega)]; omega
    refine t_X11_meetingsOf_8 hS ?_
    show (σ 125 26 ≤ (i : Int) → _) ∧ _
    rw [e26, tn_cast, z3]
    refine ⟨fun q => absurd q (by omega), fun _ => ⟨⟨by omega, by omega⟩, fun q => ?_, fun q => ?_⟩⟩
    · have hq : ¬ pt (gG D) i = p := by omega
      rw [if_neg (fun c => hq c.1)] at hs
      refine ⟨inR_s (by omega) (by omega), fin _ y (by omega) ?_⟩
      rw [e2]
      by_cases d : (fm (gG D) p : Int) < i
      · rw [if_pos d, if_pos (by omega)]
      · rw [if_neg d, if_neg]
        intro c
        have : fm (gG D) p = i := by omega
        exact hq (by rw [← this]; exact f2)
    · have hq : pt (gG D) i = p := by omega
      refine ⟨fun c => ?_, fun c => m_isOdd (G := gG D) hS (by omega) z2 ?_⟩
      · rw [if_pos ⟨hq, Or.inl c⟩] at hs
        exact ⟨inR_s (by omega) (by omega), yes hq _ (by omega)⟩
      · by_cases o : odd (gG D) i = true
        · rw [if_pos ⟨hq, Or.inr o⟩] at hs
          rw [if_pos o]
          exact ⟨fun q => absurd q (by decide), fun _ => ⟨inR_s (by omega) (by omega), yes hq _ (by omega)⟩⟩
        · have no : ¬ (pt (gG D) i = p ∧ (w = 0 ∨ odd (gG D) i = true)) := fun q => by
            rcases q.2 with a | a
            · exact c a
            · exact o a
          rw [if_neg no] at hs
          rw [if_neg o]
          exact ⟨fun _ => ⟨inR_s (by omega) (by omega), yes hq _ (by omega)⟩, fun q => absurd rfl q⟩
  · show (0 : Int) = (c0 0 : Int)
    have := hcle 0; omega
  · show (-1 : Int) = _
    rw [if_neg (by omega)]
end MQA
