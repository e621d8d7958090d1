/-! the reference: all of laysPairs -/
section MLAYQ
variable {S : ShT} {σ : StT} {Q : Int → StT → Prop} {G : Geo}
theorem ocn_48 (hn : G.1 ≤ 24) (p : Nat) : ocn G p ≤ 48 := by
  have := ocn_le G p
  have := mcn_le G
  omega
/-- neighbours are paired -/
theorem m_neigh {p : Nat} {P : List (Nat × Nat)} (hS : SHP S) (hn : G.1 ≤ 24) (hp : p < 48) (h34 : σ 125 34 = ocn G p) (ho : ∀ i, i < ocn G p → σ 139 i = ol G p i) (hq : mQ σ P) (hl : P.length + ocn G p / 2 ≤ 24) (v2 : Int)
    (hQ : ∀ σ' : StT, mQ σ' (P ++ ((List.range (ocn G p / 2)).map (fun i => (2 * i, 2 * i + 1))).map (fun q => (ol G p q.1, ol G p q.2))) → (∀ i, P.length ≤ i → i < P.length + ocn G p / 2 → σ' 137 i = p) → (∀ i, i < P.length → σ' 137 i = σ 137 i) → fr [125, 135, 136, 137] σ σ' → (∀ j, j ≠ 31 → σ' 125 j = σ 125 j) → AWs mX11_laysPairs 140 [(0, vR 125), (1, vI (p : Int)), (3, vI v2)] [] S (up2 σ' 138 p (-1)) Q) : AWs mX11_laysPairs 90 [(0, vR 125), (1, vI (p : Int)), (2, vI v2), (3, vI 0)] [] S σ Q := by
  have hev := ocn_even G p
  have h48 := ocn_48 hn p
  have key : ∀ (r k : Nat) (σ1 : StT), r + k = ocn G p / 2 → mQ σ1 (P ++ ((List.range k).map (fun i => (2 * i, 2 * i + 1))).map (fun q => (ol G p q.1, ol G p q.2))) → (∀ i, P.length ≤ i → i < P.length + k → σ1 137 i = p) → (∀ i, i < P.length → σ1 137 i = σ 137 i) → fr [125, 135, 136, 137] σ σ1 → (∀ j, j ≠ 31 → σ1 125 j = σ 125 j) → AWs mX11_laysPairs 90 [(0, vR 125), (1, vI (p : Int)), (2, vI v2), (3, vI ((2 * k : Nat) : Int))] [] S σ1 Q := by
    intro r
    induction r with
    | zero =>
      intro k σ1 hk h1 h2 h3 F h4
      refine t_X11_laysPairs_90 hS ?_
      rw [h4 34 (by decide), h34, tn_cast]
      refine ⟨fun _ => ⟨⟨by omega, by omega⟩, hQ σ1 ?_ ?_ h3 F h4⟩, fun q => absurd (by omega) q⟩
      · rw [show ocn G p / 2 = k by omega]; exact h1
      · rw [show ocn G p / 2 = k by omega]; exact h2
    | succ r ih =>
      intro k σ1 hk h1 h2 h3 F h4
      have hPl : (P ++ ((List.range k).map (fun i => (2 * i, 2 * i + 1))).map (fun q => (ol G p q.1, ol G p q.2))).length = P.length + k := by simp
      refine t_X11_laysPairs_90 hS ?_
      rw [h4 34 (by decide), h34, tn_cast, show (((2 * k : Nat) : Int) + 1).toNat = 2 * k + 1 by omega, F 139 (by decide), F 139 (by decide), ho _ (by omega), ho _ (by omega)]
      refine ⟨fun q => absurd q (by omega), fun _ => ⟨⟨by omega, by omega⟩, inR_s (by omega) (by omega), ⟨by omega, by omega⟩, m_pairs (p := p) hS h1 (by rw [hPl]; omega) ?_⟩⟩
      intro σ2 g1 g2 g3 g4 g5
      rw [hPl] at g2 g3
      refine ⟨inR_s (by omega) (by omega), ?_⟩
      rw [show ((2 * k : Nat) : Int) + 2 = ((2 * (k + 1) : Nat) : Int) by omega]
      refine ih (k + 1) σ2 (by omega) (by rw [List.range_succ, List.map_append, List.map_append, ← List.append_assoc]; exact g1) (fun i i1 i2 => ?_) (fun i hi => by rw [g3 i (by omega)]; exact h3 i hi) (F.trans g4) (fun j hj => (g5 j hj).trans (h4 j hj))
      by_cases c : i = P.length + k
      · subst c; exact g2
      · rw [g3 i c]; exact h2 i i1 (by omega)
  exact key (ocn G p / 2) 0 σ (by omega) (by simpa using hq) (fun i h1 h2 => by omega) (fun i _ => rfl) fr.rf (fun j _ => rfl)
theorem m_laysPairs (hS : SHP S) (hok : okG G) (hG : rG σ G) (hM : mM σ G) (hQ : ∀ σ' : StT, mR σ' G → fr [125, 135, 136, 137, 138, 139, 140] σ σ' → (∀ j, j ≠ 31 → j ≠ 34 → σ' 125 j = σ 125 j) → Q 0 σ') : WPs mX11_laysPairs [vR 125] S σ Q := by
  have hn := hok.1
  have hml := mcn_le G
  have hpn := pcn_le_n G
  refine e_X11_laysPairs hS ?_
  refine lup (I := fun p σ' => 0 ≤ p ∧ p ≤ (pcn G : Int) ∧ fr [125, 135, 136, 137, 138, 139, 140] σ σ' ∧ (∀ j, j ≠ 31 → j ≠ 34 → σ' 125 j = σ 125 j) ∧ mQ σ' (AP G p.toNat) ∧ (∀ q i : Nat, (q : Int) < p → PN G q ≤ i → i < PN G (q + 1) → σ' 137 i = q) ∧ ∀ q : Nat, (q : Int) < p → σ' 138 q = cutI G q) (W := fun p σ' => AWs mX11_laysPairs 7 [(0, vR 125), (1, vI p)] [] S σ' Q) (pcn G : Int) ?_ ?_ 0 _ ⟨by omega, by omega, fr.rf.put (by simp), fun j h1 h2 => up2_i h1, ⟨up2_s _ _ _ _, fun i hi => absurd hi (by simp [AP])⟩, fun q i hq => by omega, fun q hq => by omega⟩
  · rintro p σ1 ⟨p0, p1, F, h125, hq, h137, h138⟩ hge
    have ep : p = (pcn G : Int) := by omega
    subst ep
    refine t_X11_laysPairs_7 hS ⟨fun _ => hQ σ1 ⟨hq, fun q i h1 => h137 q i (by omega), fun q h1 => h138 q (by omega)⟩ F h125, fun q => absurd (by rw [h125 27 (by decide) (by decide), hM.2.1]; omega) q⟩
  · rintro p σ1 ⟨p0, p1, F, h125, hq, h137, h138⟩ hlt kk
    obtain ⟨p, rfl⟩ := nat_of p0
    rw [tn_cast] at hq
    have hp : p < pcn G := by omega
    have h24 := PN_24 (G := G) hn (p := p + 1) (by omega)
    have hPN : PN G (p + 1) = PN G p + ocn G p / 2 := rfl
    have hal : (AP G p).length = PN G p := AP_len G p
    have hAPs : AP G (p + 1) = AP G p ++ PL G p := rfl
    have hle : ∀ k, cnt (fun m => odd G m && decide (pt G m = p)) k ≤ k := cnt_le _
    refine t_X11_laysPairs_7 hS ⟨fun q => absurd q (by rw [h125 27 (by decide) (by decide), hM.2.1]; omega), fun _ => ?_⟩
    generalize hPd : (fun m => odd G m && decide (pt G m = p)) = Pd at hle
    have hPv : ∀ m, Pd m = (odd G m && decide (pt G m = p)) := fun m => by rw [← hPd]
    refine lup (I := fun i σ' => 0 ≤ i ∧ i ≤ (mcn G : Int) ∧ σ' 125 34 = ((List.range i.toNat).filter Pd).length ∧ (∀ j, j < ((List.range i.toNat).filter Pd).length → σ' 139 j = ((List.range i.toNat).filter Pd).getD j 0) ∧ fr [125, 139] σ1 σ' ∧ ∀ k, k ≠ 34 → σ' 125 k = σ1 125 k) (W := fun i σ' => AWs mX11_laysPairs 22 [(0, vR 125), (1, vI (p : Int)), (2, vI i)] [] S σ' Q) (mcn G : Int) ?_ ?_ 0 _ ⟨by omega, by omega, up2_s _ _ _ _, fun j hj => absurd hj (by simp), fr.rf.put (by simp), fun k hk => up2_i hk⟩
    · rintro i σ2 ⟨i0, i1, i2, i3, i4, i5⟩ hge2
      have e : i = (mcn G : Int) := by omega
      subst e
      rw [tn_cast] at i2 i3
      have hOL : (List.range (mcn G)).filter Pd = OL G p := by unfold OL; rw [hPd]
      rw [hOL] at i2 i3
      rw [OL_len] at i2
      have i3 : ∀ j, j < ocn G p → σ2 139 j = ol G p j := fun j hj => by rw [i3 j (by rw [OL_len]; exact hj)]; rfl
      have F2 : fr [125, 135, 136, 137, 138, 139, 140] σ σ2 := F.trans (i4.mono (by simp))
      have hG2 : rG σ2 G := hG.ext (fun j => F2 127 (by decide) j)
      have hM2 : ∀ k, k < mcn G → σ2 132 k = fe G k := fun k hk => by rw [F2 132 (by decide)]; exact (hM.2.2.2 k hk).1
      have q2 : mQ σ2 (AP G p) := ⟨by rw [i5 31 (by decide)]; exact hq.1, fun i hi => by rw [i4 135 (by decide), i4 136 (by decide)]; exact hq.2 i hi⟩
      have h31 : σ2 125 31 = (PN G p : Int) := by rw [q2.1, hal]
      -- behind the pairs of the part
      have cont : ∀ σ3 : StT, mQ σ3 (AP G (p + 1)) → (∀ i, PN G p ≤ i → i < PN G (p + 1) → σ3 137 i = p) → (∀ i, i < PN G p → σ3 137 i = σ2 137 i) → fr [125, 135, 136, 137, 140] σ2 σ3 → (∀ j, j ≠ 31 → σ3 125 j = σ2 125 j) → AWs mX11_laysPairs 140 [(0, vR 125), (1, vI (p : Int)), (3, vI (PN G p : Int))] [] S (up2 σ3 138 p (-1)) Q := by
        intro σ3 q3 n1 n2 f3 g3
        refine m_cut hS hok (hG2.ext (fun j => f3 127 (by decide) j)) (fun k hk => by rw [f3 132 (by decide)]; exact hM2 k hk) hp q3 ?_
        intro σ4 c1 c2 f4
        refine kk σ4 ⟨by omega, by omega, (F2.trans (f3.mono (by simp))).trans (f4.mono (by simp)), fun j j1 j2 => ?_, ⟨?_, fun i hi => ?_⟩, fun q i h1 h2 h3 => ?_, fun q h1 => ?_⟩
        · rw [f4 125 (by decide), g3 j j1, i5 j j2]; exact h125 j j1 j2
        · rw [f4 125 (by decide), show ((p : Int) + 1).toNat = p + 1 from rfl]; exact q3.1
        · rw [f4 135 (by decide), f4 136 (by decide)]
          rw [show ((p : Int) + 1).toNat = p + 1 from rfl] at hi ⊢
          exact q3.2 i hi
        · rw [f4 137 (by decide)]
          by_cases e : q = p
          · subst e; exact n1 i h2 h3
          · have := PN_mono G (show q + 1 ≤ p by omega)
            rw [n2 i (by omega), i4 137 (by decide)]; exact h137 q i (by omega) h2 h3
        · by_cases e : q = p
          · subst e; exact c1
          · rw [c2 q e, f3 138 (by decide), i4 138 (by decide)]; exact h138 q (by omega)
      refine t_X11_laysPairs_22 hS ⟨fun _ => ?_, fun q => absurd (by rw [i5 26 (by decide), h125 26 (by decide) (by decide), hM.1]; exact hge2) q⟩
      rw [i2, h31]
      refine ⟨fun q => ?_, fun q => ?_⟩
      · have hL14 : ocn G p ≤ 14 := by omega
        have hev := ocn_even G p
        have hp0 : 0 < (2 : Nat) ^ ocn G p := Nat.pow_pos (by omega)
        refine m_least hS ⟨hG2, hok, hM2, i2, hL14, i3⟩ ?_
        intro σ3 l3 f3
        refine m_find hS (ocn G p / 2) (2 ^ ocn G p - 1) σ3 (AP G p) ⟨hG2.ext (fun j => f3 127 (by decide) j), hok, fun k hk => by rw [f3 132 (by decide)]; exact hM2 k hk, by rw [f3 125 (by decide)]; exact i2, hL14, fun j hj => by rw [f3 139 (by decide)]; exact i3 j hj⟩ (by omega) (by rw [msb_all]; simp; omega) l3 ⟨by rw [f3 125 (by decide)]; exact q2.1, fun i hi => by rw [f3 135 (by decide), f3 136 (by decide)]; exact q2.2 i hi⟩ (by omega) ?_
        intro σ4 q4 n1 n2 f4 g4
        rw [msb_all] at q4
        rw [hal] at n1 n2
        rw [tn_cast]
        refine ⟨⟨by omega, by omega⟩, cont σ4 ?_ (fun i h1 h2 => n1 i h1 (by omega)) (fun i hi => by rw [n2 i hi, f3 137 (by decide)]) ((f3.mono (by simp)).trans (f4.mono (by simp))) (fun j hj => by rw [g4 j hj, f3 125 (by decide)])⟩
        rw [hAPs]
        unfold PL IP
        rw [if_neg (by omega)]; exact q4
      · refine m_neigh hS hn (by omega) i2 i3 q2 (by omega) _ ?_
        intro σ4 q4 n1 n2 f4 g4
        rw [hal] at n1 n2
        refine cont σ4 ?_ (fun i h1 h2 => n1 i h1 (by omega)) n2 (f4.mono (by simp)) g4
        rw [hAPs]
        unfold PL IP
        rw [if_pos (by omega)]; exact q4
    · rintro i σ2 ⟨i0, i1, i2, i3, i4, i5⟩ hlt2 kk2
      obtain ⟨t, rfl⟩ := nat_of i0
      have ht : t < mcn G := by omega
      rw [tn_cast] at i2 i3
      have hl := cnt_filter Pd t
      have hcl := hle t
      have hs : (List.range (t + 1)).filter Pd = if Pd t = true then (List.range t).filter Pd ++ [t] else (List.range t).filter Pd := by
        rw [List.range_succ, List.filter_append]
        cases h : Pd t <;> simp [h]
      have e134 : σ2 134 t = pt G t := by rw [i4 134 (by decide), F 134 (by decide)]; exact (hM.2.2.2 t ht).2.2
      have e133 : σ2 133 t = ecn G t := by rw [i4 133 (by decide), F 133 (by decide)]; exact (hM.2.2.2 t ht).2.1
      refine t_X11_laysPairs_22 hS ⟨fun q => absurd q (by rw [i5 26 (by decide), h125 26 (by decide) (by decide), hM.1]; omega), fun _ => ?_⟩
      rw [tn_cast, e134]
      refine ⟨⟨by omega, by omega⟩, fun q => ⟨inR_s (by omega) (by omega), kk2 σ2 ?_⟩, fun q => ?_⟩
      · have hf : Pd t = false := by rw [hPv]; simp; intro _ z; exact q (by omega)
        rw [show ((t : Int) + 1).toNat = t + 1 from rfl, hs, hf]
        exact ⟨by omega, by omega, i2, i3, i4, i5⟩
      · refine m_isOdd (G := G) hS (by omega) e133 ?_
        have hpt : pt G t = p := by omega
        cases ho : odd G t
        · have hf : Pd t = false := by rw [hPv, ho]; rfl
          refine ⟨fun _ => ⟨inR_s (by omega) (by omega), kk2 σ2 ?_⟩, fun q2 => absurd rfl q2⟩
          rw [show ((t : Int) + 1).toNat = t + 1 from rfl, hs, hf]
          exact ⟨by omega, by omega, i2, i3, i4, i5⟩
        · have hf : Pd t = true := by rw [hPv, ho, hpt]; simp
          rw [i2, tn_cast]
          refine ⟨fun q2 => absurd q2 (by simp), fun _ => ⟨⟨by omega, by omega⟩, inR_s (by omega) (by omega), inR_s (by omega) (by omega), kk2 _ ?_⟩⟩
          rw [show ((t : Int) + 1).toNat = t + 1 from rfl, hs, if_pos hf]
          refine ⟨by omega, by omega, ?_, ?_, (i4.put (by simp)).put (by simp), ?_⟩
          · rw [up2_s, List.length_append]; rfl
          · intro j hj
            rw [up2_a (by decide), gd_snoc]
            rw [List.length_append] at hj
            simp only [List.length_singleton] at hj
            by_cases e : j = ((List.range t).filter Pd).length
            · subst e; rw [up2_s, if_neg (Nat.lt_irrefl _), if_pos rfl]
            · rw [up2_i e, if_pos (by omega)]; exact i3 j (by omega)
          · intro k hk
            rw [up2_i hk, up2_a (by decide)]; exact i5 k hk
end MLAYQ
