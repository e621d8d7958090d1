/-! Model: what a stroke more or less, or another join, would make -/
section MACT
variable {S : ShT} {σ : StT} {Q : Int → StT → Prop} {M : Ms} {D : Dw} {N : Nat} {f : Nat → Nat}
theorem m_isPoint {x y z : Int} (hS : SHP S) (h0 : σ 127 0 = z) (hQ : Q (if (0 ≤ x ∧ x ≤ z) ∧ (0 ≤ y ∧ y ≤ z) then 1 else 0) σ) : WPs mX11_isPoint [vR 125, vI x, vI y] S σ Q := by
  refine e_X11_isPoint hS ?_
  rw [h0]
  refine m_in hS (fun q => ⟨fun _ => ?_, fun c => absurd rfl c⟩) (fun q => ⟨fun c => absurd c (by decide), fun _ => m_in hS (fun q2 => ⟨fun _ => ?_, fun c => absurd rfl c⟩) (fun q2 => ⟨fun c => absurd c (by decide), fun _ => ?_⟩)⟩)
  · rw [if_neg (fun c => q c.1)] at hQ; exact hQ
  · rw [h0] at q2; rw [if_neg (fun c => q2 c.2)] at hQ; exact hQ
  · rw [h0] at q2; rw [if_pos ⟨q, q2⟩] at hQ; exact hQ
theorem m_strokeWhy {x y u v : Int} (hS : SHP S) (ho : okM M) (h : mT σ M) (hQ : Q (why M x y u v) σ) : WPs mX11_strokeWhy [vR 125, vI x, vI y, vI u, vI v] S σ Q := by
  unfold why at hQ
  refine e_X11_strokeWhy hS ⟨fun q => ?_, fun q => ?_⟩
  · have d := h.d q
    have hn := ho.n d
    obtain ⟨a0, a1, a2, -⟩ := (h.2.2 d).1
    rw [if_neg (by rw [d]; decide)] at hQ
    refine m_isPoint hS a0 ?_
    by_cases c1 : (0 ≤ x ∧ x ≤ M.D.sz) ∧ (0 ≤ y ∧ y ≤ M.D.sz)
    · rw [if_pos c1]
      refine ⟨fun c => absurd c (by decide), fun _ => m_isPoint hS a0 ?_⟩
      by_cases c2 : (0 ≤ u ∧ u ≤ M.D.sz) ∧ (0 ≤ v ∧ v ≤ M.D.sz)
      · rw [if_pos c2]
        have yes : ¬ (x = u ∧ y = v) → AWs mX11_strokeWhy 43 [(0, vR 125)] [] S σ Q := fun c3 => by
          rw [if_pos ⟨⟨c1.1.1, c1.1.2, c1.2⟩, ⟨c2.1.1, c2.1.2, c2.2⟩, c3⟩] at hQ
          refine t_X11_strokeWhy_43 hS ?_
          rw [a2]
          refine ⟨fun q => ?_, fun q => ?_⟩
          · rw [if_pos (by omega)] at hQ; exact hQ
          · rw [if_neg (by omega)] at hQ; exact hQ
        refine ⟨fun c => absurd c (by decide), fun _ => ⟨fun q => yes (fun c => q c.1), fun q => ⟨fun q2 => yes (fun c => q2 c.2), fun q2 => ?_⟩⟩⟩
        rw [if_neg (fun c => c.2.2 ⟨q, q2⟩)] at hQ; exact hQ
      · rw [if_neg c2]
        rw [if_neg (fun c => c2 ⟨⟨c.2.1.1, c.2.1.2.1⟩, c.2.1.2.2⟩)] at hQ
        exact ⟨fun _ => hQ, fun c => absurd rfl c⟩
    · rw [if_neg c1]
      rw [if_neg (fun c => c1 ⟨⟨c.1.1, c.1.2.1⟩, c.1.2.2⟩)] at hQ
      exact ⟨fun _ => hQ, fun c => absurd rfl c⟩
  · have d : M.dr = false := dr_f (fun d => h.dr1 d q)
    rw [if_pos d] at hQ; exact hQ
theorem m_comes {x y u v : Int} (hS : SHP S) (h : eD (σ 127) D) (hn : D.n < 24) (hQ : ∀ σ' : StT, eD (σ' 127) (addD D x y u v) → fr [127] σ σ' → (∀ j, j ≠ 2 → (j < 7 + 4 * D.n ∨ 103 ≤ j) → σ' 127 j = σ 127 j) → Q 0 σ') : WPs mX11_comes [vR 125, vI x, vI y, vI u, vI v] S σ Q := by
  obtain ⟨a0, a1, a2, a3, a4, a5, a6, a7⟩ := h
  refine e_X11_comes hS ?_
  rw [a2]
  refine ⟨inR_s (by omega) (by omega), inR_s (by omega) (by omega), fun z hz => ?_⟩
  subst hz
  rw [show (7 + 4 * (D.n : Int)).toNat = 7 + 4 * D.n by omega, show (7 + 4 * (D.n : Int) + 1).toNat = 8 + 4 * D.n by omega, show (7 + 4 * (D.n : Int) + 2).toNat = 9 + 4 * D.n by omega, show (7 + 4 * (D.n : Int) + 3).toNat = 10 + 4 * D.n by omega]
  have e2 : (up2 (up2 (up2 (up2 σ 127 (7 + 4 * D.n) x) 127 (8 + 4 * D.n) y) 127 (9 + 4 * D.n) u) 127 (10 + 4 * D.n) v) 127 2 = D.n := by rw [up2_i (by omega), up2_i (by omega), up2_i (by omega), up2_i (by omega)]; exact a2
  rw [e2]
  refine ⟨⟨by omega, by omega⟩, inR_s (by omega) (by omega), ⟨by omega, by omega⟩, inR_s (by omega) (by omega), ⟨by omega, by omega⟩, inR_s (by omega) (by omega), ⟨by omega, by omega⟩, inR_s (by omega) (by omega), ?_⟩
  have K : ∀ j, (up2 (up2 (up2 (up2 (up2 σ 127 (7 + 4 * D.n) x) 127 (8 + 4 * D.n) y) 127 (9 + 4 * D.n) u) 127 (10 + 4 * D.n) v) 127 2 ((D.n : Int) + 1)) 127 j = if j = 2 then (D.n : Int) + 1 else if j = 10 + 4 * D.n then v else if j = 9 + 4 * D.n then u else if j = 8 + 4 * D.n then y else if j = 7 + 4 * D.n then x else σ 127 j := fun j => by simp only [up2]; simp
  have F : fr [127] σ (up2 (up2 (up2 (up2 (up2 σ 127 (7 + 4 * D.n) x) 127 (8 + 4 * D.n) y) 127 (9 + 4 * D.n) u) 127 (10 + 4 * D.n) v) 127 2 ((D.n : Int) + 1)) := ((((fr.rf.put (by simp)).put (by simp)).put (by simp)).put (by simp)).put (by simp)
  generalize (up2 (up2 (up2 (up2 (up2 σ 127 (7 + 4 * D.n) x) 127 (8 + 4 * D.n) y) 127 (9 + 4 * D.n) u) 127 (10 + 4 * D.n) v) 127 2 ((D.n : Int) + 1)) = σ1 at K F
  have K2 : ∀ j, j ≠ 2 → (j < 7 + 4 * D.n ∨ 103 ≤ j) → σ1 127 j = σ 127 j := fun j h1 h2 => by rw [K, if_neg h1, if_neg (by omega), if_neg (by omega), if_neg (by omega), if_neg (by omega)]
  refine hQ σ1 ⟨?_, ?_, ?_, ?_, ?_, ?_, ?_, fun e he => ?_⟩ F K2
  · rw [K2 0 (by decide) (by omega)]; exact a0
  · rw [K2 1 (by decide) (by omega)]; exact a1
  · rw [K, if_pos rfl]; rfl
  · rw [K2 3 (by decide) (by omega)]; exact a3
  · rw [K2 4 (by decide) (by omega)]; exact a4
  · rw [K2 5 (by decide) (by omega)]; exact a5
  · rw [K2 6 (by decide) (by omega)]; exact a6
  · have he' : e < 2 * (D.n + 1) := he
    show _ = (if e = 2 * D.n then x else if e = 2 * D.n + 1 then u else D.X e) ∧ _ = (if e = 2 * D.n then y else if e = 2 * D.n + 1 then v else D.Y e)
    by_cases c1 : e = 2 * D.n
    · rw [if_pos c1, if_pos c1]
      refine ⟨?_, ?_⟩
      · rw [K, if_neg (by omega), if_neg (by omega), if_neg (by omega), if_neg (by omega), if_pos (by omega)]
      · rw [K, if_neg (by omega), if_neg (by omega), if_neg (by omega), if_pos (by omega)]
    · rw [if_neg c1, if_neg c1]
      by_cases c2 : e = 2 * D.n + 1
      · rw [if_pos c2, if_pos c2]
        refine ⟨?_, ?_⟩
        · rw [K, if_neg (by omega), if_neg (by omega), if_pos (by omega)]
        · rw [K, if_neg (by omega), if_pos (by omega)]
      · rw [if_neg c2, if_neg c2, K2 _ (by omega) (by omega), K2 _ (by omega) (by omega)]
        exact a7 e (by omega)
theorem m_leaves {s : Nat} (hS : SHP S) (h : eD (σ 127) D) (hn : D.n ≤ 24) (hs : s < D.n) (hQ : ∀ σ' : StT, eD (σ' 127) (dropD D s) → fr [127] σ σ' → (∀ j, 103 ≤ j → σ' 127 j = σ 127 j) → Q 0 σ') : WPs mX11_leaves [vR 125, vI (s : Int)] S σ Q := by
  obtain ⟨a0, a1, a2, a3, a4, a5, a6, a7⟩ := h
  refine e_X11_leaves hS ⟨inR_s (by omega) (by omega), inR_s (by omega) (by omega), ?_⟩
  refine lup (I := fun i σ' => (7 + 4 * s : Int) ≤ i ∧ i ≤ 3 + 4 * D.n ∧ fr [127] σ σ' ∧ (∀ j : Nat, ((j : Int) < 7 + 4 * s ∨ i ≤ j) → σ' 127 j = σ 127 j) ∧ ∀ j : Nat, (7 + 4 * s : Int) ≤ j → (j : Int) < i → σ' 127 j = σ 127 (j + 4)) (W := fun i σ' => AWs mX11_leaves 7 [(0, vR 125), (2, vI i)] [] S σ' Q) (3 + 4 * D.n : Int) ?_ ?_ (7 + 4 * s : Int) σ ⟨by omega, by omega, fr.rf, fun _ _ => rfl, fun j h1 h2 => by omega⟩
  · rintro i σ1 ⟨i0, i1, i2, i3, i4⟩ hge
    have e2 : σ1 127 2 = D.n := by rw [i3 2 (by omega)]; exact a2
    refine t_X11_leaves_7 hS ?_
    rw [e2]
    refine ⟨inR_s (by omega) (by omega), inR_s (by omega) (by omega), inR_s (by omega) (by omega), fun _ => ⟨inR_s (by omega) (by omega), ?_⟩, fun q => absurd (by omega) q⟩
    have K : ∀ j, j ≠ 2 → (j < 7 + 4 * s ∨ 3 + 4 * D.n ≤ j) → (up2 σ1 127 2 ((D.n : Int) - 1)) 127 j = σ 127 j := fun j h1 h2 => by rw [up2_i h1]; exact i3 j (by omega)
    refine hQ _ ⟨?_, ?_, ?_, ?_, ?_, ?_, ?_, fun e he => ?_⟩ (i2.put (by simp)) (fun j hj => K j (by omega) (by omega))
    · rw [K 0 (by decide) (by omega)]; exact a0
    · rw [K 1 (by decide) (by omega)]; exact a1
    · rw [up2_s]; show _ = ((D.n - 1 : Nat) : Int); omega
    · rw [K 3 (by decide) (by omega)]; exact a3
    · rw [K 4 (by decide) (by omega)]; exact a4
    · rw [K 5 (by decide) (by omega)]; exact a5
    · rw [K 6 (by decide) (by omega)]; exact a6
    · have he' : e < 2 * (D.n - 1) := he
      show _ = (if e < 2 * s then D.X e else D.X (e + 2)) ∧ _ = (if e < 2 * s then D.Y e else D.Y (e + 2))
      by_cases c : e < 2 * s
      · rw [if_pos c, if_pos c, K _ (by omega) (by omega), K _ (by omega) (by omega)]
        exact a7 e (by omega)
      · rw [if_neg c, if_neg c, up2_i (by omega), up2_i (by omega), i4 _ (by omega) (by omega), i4 _ (by omega) (by omega), show 7 + 2 * e + 4 = 7 + 2 * (e + 2) by omega, show 8 + 2 * e + 4 = 8 + 2 * (e + 2) by omega]
        exact a7 (e + 2) (by omega)
  · rintro i σ1 ⟨i0, i1, i2, i3, i4⟩ hlt kk
    obtain ⟨i, rfl⟩ := nat_of (show 0 ≤ i by omega)
    have e2 : σ1 127 2 = D.n := by rw [i3 2 (by omega)]; exact a2
    refine t_X11_leaves_7 hS ?_
    rw [e2, tn_cast, show ((i : Int) + 4).toNat = i + 4 by omega]
    refine ⟨inR_s (by omega) (by omega), inR_s (by omega) (by omega), inR_s (by omega) (by omega), fun q => absurd q (by omega), fun _ => ⟨inR_s (by omega) (by omega), ⟨by omega, by omega⟩, ⟨by omega, by omega⟩, inR_s (by omega) (by omega), kk _ ⟨by omega, by omega, i2.put (by simp), fun j hj => ?_, fun j h1 h2 => ?_⟩⟩⟩
    · rw [up2_i (by omega)]; exact i3 j (by omega)
    · by_cases e : j = i
      · subst e; rw [up2_s, i3 (j + 4) (by omega)]
      · rw [up2_i e]; exact i4 j h1 (by omega)
theorem tn_TR {j : Int} (hn : D.n ≤ 24) : (TR (gD D j) (pcn (gD D j))).length = tn D j := TR_all (G := gD D j) hn (Nat.le_refl _)
theorem m_trailsBy {v : Nat} (hS : SHP S) (ho : okDw D) (h : eD (σ 127) D) (hv : v ≤ 50) (hQ : ∀ σ' : StT, fC σ σ' → Q (tn D v : Int) σ') : WPs mX11_trailsBy [vR 125, vI (v : Int)] S σ Q := by
  obtain ⟨a0, a1, a2, a3, a4, a5, a6, a7⟩ := h
  refine e_X11_trailsBy hS ?_
  have hG : rG (up2 σ 127 1 (v : Int)) (gD D v) := by
    refine ⟨?_, up2_s _ _ _ _, fun e he => ?_⟩
    · rw [up2_i (by decide)]; exact a2
    · have he' : e < 2 * D.n := he
      rw [up2_i (by omega), up2_i (by omega)]
      refine ⟨(a7 e he').1.trans ?_, (a7 e he').2.trans ?_⟩
      · show D.X e = if e < 2 * D.n then D.X e else 0
        rw [if_pos he']
      · show D.Y e = if e < 2 * D.n then D.Y e else 0
        rw [if_pos he']
  refine m_reckons (G := gD D v) hS (ho.G (by omega) (by omega)) hG ?_
  intro σ1 z1 c1
  have e50 : σ1 125 50 = tn D v := by rw [z1.2.2.2.2.1, tn_TR ho.1]
  rw [e50]
  refine hQ _ ⟨fun b b1 b2 j => ?_, fun j j1 j2 j3 j4 j5 j6 => ?_⟩
  · by_cases e : b = 127
    · subst e
      by_cases e2 : j = 1
      · subst e2; rw [up2_s]
      · rw [up2_i e2, c1.1 127 (by decide) (by omega), up2_i e2]
    · rw [up2_a e, c1.1 b b1 b2, up2_a e]
  · rw [up2_a (by decide), c1.2 j j1 j2 j3 j4 j5 j6, up2_a (by decide)]
theorem q_nearest (hS : SHP S) : MC S mX11_nearest [vR 125] M (A_nearest M) := fun σ Q ho h hQ => by
  unfold A_nearest at hQ
  refine e_X11_nearest hS (m_ask1 hS ho h (fun d σ' a b => ?_) (fun d σ0 a b c => ?_))
  · rw [if_neg (by rw [d]; decide)] at hQ
    exact ⟨fun c => absurd rfl c, fun _ => hQ σ' a b⟩
  · rw [if_pos d] at hQ
    refine ⟨fun _ => ?_, fun c => absurd c (by decide)⟩
    have hD := b.1.1
    refine lupg (α := Int × Int × StT) (I := fun i x => 0 ≤ i ∧ i ≤ 51 ∧ fC σ0 x.2.2 ∧ ((i = 0 ∧ x.1 = 0 ∧ x.2.1 = 1000000) ∨ (1 ≤ i ∧ x.1 = (fewest (fun v => tn M.D v) (i.toNat - 1) : Int) ∧ x.2.1 = (tn M.D (fewest (fun v => tn M.D v) (i.toNat - 1)) : Int)))) (W := fun i x => AWs mX11_nearest 18 [(0, vR 125), (1, vI x.1), (2, vI x.2.1), (3, vI i)] [] S x.2.2 Q) 51 ?_ ?_ 0 (0, 1000000, σ0) ⟨by omega, by omega, fC.rf, Or.inl ⟨rfl, rfl, rfl⟩⟩
    · rintro i ⟨x, y, σ1⟩ ⟨i0, i1, i2, i3⟩ hge
      simp only at i2 i3
      have ei : i = 51 := by omega
      subst ei
      refine t_X11_nearest_18 hS ⟨fun _ => ?_, fun q => absurd (by omega) q⟩
      rcases i3 with i3 | ⟨-, i3, -⟩
      · exact absurd i3.1 (by decide)
      · show Q x σ1
        rw [i3]
        exact hQ σ1 (a.fC i2) (c.trans i2.R)
    · rintro i ⟨x, y, σ1⟩ ⟨i0, i1, i2, i3⟩ hlt kk
      simp only at i2 i3
      obtain ⟨i, rfl⟩ := nat_of i0
      have b1 : eD (σ1 127) M.D := b.2.1.ext hD.1 (fun k _ => i2.1 127 (by decide) (by omega) k)
      have hle := tn_le (D := M.D) (j := (i : Int)) hD
      refine t_X11_nearest_18 hS ⟨fun q => absurd q (by omega), fun _ => m_trailsBy hS hD b1 (by omega) ?_⟩
      intro σ2 c2
      have C2 := i2.trans c2
      have fin : ∀ x' y' : Int, x' = (fewest (fun v => tn M.D v) i : Int) → y' = (tn M.D (fewest (fun v => tn M.D v) i) : Int) → inR ((i : Int) + 1) ∧ AWs mX11_nearest 18 [(0, vR 125), (1, vI x'), (2, vI y'), (3, vI ((i : Int) + 1))] [] S σ2 Q := fun x' y' h1 h2 => ⟨inR_s (by omega) (by omega), kk (x', y', σ2) ⟨by omega, by omega, C2, Or.inr ⟨by omega, by rw [show ((i : Int) + 1).toNat - 1 = i by omega]; exact h1, by rw [show ((i : Int) + 1).toNat - 1 = i by omega]; exact h2⟩⟩⟩
      show (y ≤ (tn M.D (i : Int) : Int) → (y ≤ (tn M.D (i : Int) : Int) → inR ((i : Int) + 1) ∧ AWs mX11_nearest 18 [(0, vR 125), (1, vI x), (2, vI y), (3, vI ((i : Int) + 1))] [] S σ2 Q) ∧ (¬ y ≤ (tn M.D (i : Int) : Int) → inR ((i : Int) + 1) ∧ AWs mX11_nearest 18 [(0, vR 125), (1, vI x), (2, vI (tn M.D (i : Int) : Int)), (3, vI ((i : Int) + 1))] [] S σ2 Q)) ∧ (¬ y ≤ (tn M.D (i : Int) : Int) → (y ≤ (tn M.D (i : Int) : Int) → inR ((i : Int) + 1) ∧ AWs mX11_nearest 18 [(0, vR 125), (1, vI (i : Int)), (2, vI y), (3, vI ((i : Int) + 1))] [] S σ2 Q) ∧ (¬ y ≤ (tn M.D (i : Int) : Int) → inR ((i : Int) + 1) ∧ AWs mX11_nearest 18 [(0, vR 125), (1, vI (i : Int)), (2, vI (tn M.D (i : Int) : Int)), (3, vI ((i : Int) + 1))] [] S σ2 Q))
      rcases i3 with ⟨e0, e1, e2⟩ | ⟨e0, e1, e2⟩
      · have ei : i = 0 := by omega
        subst ei
        exact ⟨fun q => absurd q (by omega), fun _ => ⟨fun q => absurd q (by omega), fun _ => fin _ _ rfl rfl⟩⟩
      · obtain ⟨j, rfl⟩ : ∃ j, i = j + 1 := ⟨i - 1, by omega⟩
        rw [tn_cast, Nat.add_sub_cancel] at e1 e2
        have hf : fewest (fun v => tn M.D v) (j + 1) = if tn M.D ((j + 1 : Nat) : Int) < tn M.D (fewest (fun v => tn M.D v) j : Int) then j + 1 else fewest (fun v => tn M.D v) j := rfl
        refine ⟨fun q => ⟨fun _ => fin x y ?_ ?_, fun q2 => absurd q q2⟩, fun q => ⟨fun q2 => absurd q2 q, fun _ => fin _ _ ?_ ?_⟩⟩
        · rw [hf, if_neg (by omega)]; exact e1
        · rw [hf, if_neg (by omega)]; exact e2
        · rw [hf, if_pos (by omega)]
        · rw [hf, if_pos (by omega)]
end MACT
