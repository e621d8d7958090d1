/-! cuts; the whole of Pairing.gather -/
theorem AP_pre (G : Geo) {p q i : Nat} (h : p ≤ q) (hi : i < PN G p) : pg (AP G q) i = pg (AP G p) i := by
  induction q with
  | zero => have : p = 0 := by omega
            subst this; rfl
  | succ q ih =>
    by_cases e : p = q + 1
    · subst e; rfl
    · have h1 := ih (by omega)
      have h2 := PN_mono G (show p ≤ q by omega)
      show (AP G q ++ PL G q).getD i (0, 0) = _
      rw [gd_app (by rw [AP_len]; omega)]
      exact h1
/-- all pairs; how far; the cut of a part -/
noncomputable def apr (G : Geo) (i : Nat) : Nat × Nat := pg (AP G (pcn G)) i
noncomputable def gp (G : Geo) (i : Nat) : Int := mds G (apr G i).1 (apr G i).2
noncomputable def cutI (G : Geo) (p : Nat) : Int := cutR (gp G) (PN G p) (ocn G p / 2)
theorem cutI_in (G : Geo) (p : Nat) : (ocn G p / 2 = 0 ∧ cutI G p = -1) ∨ (0 < ocn G p / 2 ∧ (PN G p : Int) ≤ cutI G p ∧ cutI G p < (PN G (p + 1) : Int)) := cutR_in _ _ _
/-- what gather leaves -/
def atR (σ : StT) (G : Geo) : Prop := atQ σ G (AP G (pcn G)) ∧ (∀ q, q < pcn G → σ 25 q = PN G q ∧ σ 25 (q + 1) = PN G (q + 1)) ∧ (∀ q i, q < pcn G → PN G q ≤ i → i < PN G (q + 1) → σ 24 i = if (i : Int) = cutI G q then 1 else 0) ∧ ∀ u, u < 4096 → σ 30 u = 0
theorem atR.ext {σ σ' : StT} {G : Geo} (h : atR σ G) (h0 : ∀ b, 20 ≤ b → b < 31 → ∀ j, σ' b j = σ b j) : atR σ' G := by
  refine ⟨h.1.ext (h0 20 (by omega) (by omega) 6) (fun b h1 h2 => h0 b (by omega) (by omega)), fun q hq => by rw [h0 25 (by omega) (by omega), h0 25 (by omega) (by omega)]; exact h.2.1 q hq, fun q i a b c => by rw [h0 24 (by omega) (by omega)]; exact h.2.2.1 q i a b c, fun u hu => by rw [h0 30 (by omega) (by omega)]; exact h.2.2.2 u hu⟩
section PAIR6
variable {S : ShT} {σ : StT} {Q : Int → StT → Prop}
theorem sp_markCut {p a k : Nat} {g : Nat → Int} (hS : SHP S) (hp : p < 24) (h1 : σ 25 p = a) (h2 : σ 25 (p + 1) = ((a + k : Nat) : Int)) (hk : a + k ≤ 24) (hg : ∀ i, a ≤ i → i < a + k → σ 23 i = g i) (hQ : ∀ σ' : StT, (∀ i, a ≤ i → i < a + k → σ' 24 i = if (i : Int) = cutR g a k then 1 else 0) → (∀ i, (i < a ∨ a + k ≤ i) → σ' 24 i = σ 24 i) → fr [24] σ σ' → Q 0 σ') : WPs mX4_markCut [vR 20, vI (p : Int)] S σ Q := by
  refine e_X4_markCut hS ⟨⟨by omega, by omega⟩, ?_⟩
  intro x hx
  rw [tn_cast, h1] at hx
  subst hx
  refine lupg (α := Int × StT) (I := fun i y => (a : Int) ≤ i ∧ i ≤ ((a + k : Nat) : Int) ∧ y.1 = cutR g a (i.toNat - a) ∧ (∀ j : Nat, a ≤ j → (j : Int) < i → y.2 24 j = 0) ∧ (∀ j : Nat, (j < a ∨ i ≤ j) → y.2 24 j = σ 24 j) ∧ fr [24] σ y.2) (W := fun i y => AWs mX4_markCut 9 [(0, vR 20), (1, vI (p : Int)), (2, vI y.1), (3, vI i)] [] S y.2 Q) ((a + k : Nat) : Int) ?_ ?_ (a : Int) (-1, σ) ⟨Int.le_refl _, by omega, by rw [tn_cast, Nat.sub_self]; rfl, fun j h h' => by omega, fun _ _ => rfl, fr.rf⟩
  · intro i ⟨c, σ1⟩ ⟨i1, i2, i3, i4, i5, i6⟩ hge
    simp only at i3 i4 i5 i6 ⊢
    have e : i = ((a + k : Nat) : Int) := by omega
    subst e
    rw [tn_cast, show a + k - a = k by omega] at i3
    have hc := cutR_in g a k
    have h25 : σ1 25 ((p : Int) + 1).toNat = ((a + k : Nat) : Int) := by rw [i6 25 (by decide), show ((p : Int) + 1).toNat = p + 1 from rfl]; exact h2
    refine t_X4_markCut_9 hS ⟨inR_s (by omega) (by omega), ⟨by omega, by omega⟩, ?_⟩
    rw [h25]
    refine ⟨fun _ => ⟨fun q => hQ σ1 (fun j j1 j2 => ?_) (fun j hj => i5 j (by omega)) i6, fun q => ⟨⟨by omega, by omega⟩, hQ _ (fun j j1 j2 => ?_) (fun j hj => ?_) (i6.put (by simp))⟩⟩, fun q => absurd (Int.le_refl _) q⟩
    · rw [i4 j j1 (by omega), if_neg (by omega)]
    · rw [← i3]
      by_cases e : (j : Int) = c
      · rw [if_pos e, show c.toNat = j by omega, up2_s]
      · rw [if_neg e, up2_i (by omega)]; exact i4 j j1 (by omega)
    · rw [up2_i (by omega)]; exact i5 j (by omega)
  · intro i ⟨c, σ1⟩ ⟨i1, i2, i3, i4, i5, i6⟩ hlt kk
    simp only at i3 i4 i5 i6 ⊢
    obtain ⟨n, rfl⟩ := nat_of (show 0 ≤ i by omega)
    obtain ⟨t, rfl⟩ : ∃ t, n = a + t := ⟨n - a, by omega⟩
    rw [tn_cast, show a + t - a = t by omega] at i3
    have hc := cutR_in g a t
    have h25 : σ1 25 ((p : Int) + 1).toNat = ((a + k : Nat) : Int) := by rw [i6 25 (by decide), show ((p : Int) + 1).toNat = p + 1 from rfl]; exact h2
    have hcs : cutR g a (t + 1) = if cutR g a t = -1 ∨ g (cutR g a t).toNat < g (a + t) then ((a + t : Nat) : Int) else cutR g a t := rfl
    have hnext : ∀ c', c' = cutR g a (t + 1) → AWs mX4_markCut 9 [(0, vR 20), (1, vI (p : Int)), (2, vI c'), (3, vI (((a + t : Nat) : Int) + 1))] [] S (up2 σ1 24 (a + t) 0) Q := by
      intro c' hc'
      refine kk (c', up2 σ1 24 (a + t) 0) ⟨by omega, by omega, ?_, fun j j1 j2 => ?_, fun j hj => ?_, i6.put (by simp)⟩
      · rw [show (((a + t : Nat) : Int) + 1).toNat - a = t + 1 by omega]; exact hc'
      · by_cases e : j = a + t
        · subst e; exact up2_s _ _ _ _
        · show up2 σ1 24 (a + t) 0 24 j = 0
          rw [up2_i e]; exact i4 j j1 (by omega)
      · show up2 σ1 24 (a + t) 0 24 j = _
        rw [up2_i (by omega)]; exact i5 j (by omega)
    refine t_X4_markCut_9 hS ⟨inR_s (by omega) (by omega), ⟨by omega, by omega⟩, ?_⟩
    rw [h25, tn_cast]
    refine ⟨fun q => absurd q (by omega), fun _ => ⟨⟨by omega, by omega⟩, fun q => ⟨inR_s (by omega) (by omega), hnext _ ?_⟩, fun q => ⟨⟨by omega, by omega⟩, ⟨by omega, by omega⟩, ?_⟩⟩⟩
    · rw [hcs, if_pos (Or.inl (by rw [← i3]; exact q))]
    · have g1 : σ1 23 (a + t) = g (a + t) := by rw [i6 23 (by decide)]; exact hg _ (by omega) (by omega)
      have g2 : σ1 23 c.toNat = g c.toNat := by rw [i6 23 (by decide)]; exact hg _ (by omega) (by omega)
      rw [g1, g2]
      refine ⟨fun q2 => ⟨inR_s (by omega) (by omega), hnext _ ?_⟩, fun q2 => ⟨inR_s (by omega) (by omega), hnext _ ?_⟩⟩
      · rw [hcs, ← i3, if_neg (by omega)]
      · rw [hcs, ← i3, if_pos (Or.inr (by omega))]
theorem sp_pgather {G : Geo} (hS : SHP S) (hok : okG G) (hM : atM σ 7 G) (h30 : ∀ u, u < 4096 → σ 30 u = 0) (hQ : ∀ σ' : StT, atR σ' G → frR 20 31 σ σ' → Q 0 σ') : WPs mX4_gather [vR 20] S σ Q := by
  have hml := mcn_le G
  have hpl := pcn_le_n G
  have hn := hok.1
  refine e_X4_gather hS ?_
  refine lup (I := fun i σ' => 0 ≤ i ∧ i ≤ pcn G ∧ atQ σ' G (AP G i.toNat) ∧ (∀ q : Nat, (q : Int) < i → σ' 25 q = PN G q ∧ σ' 25 (q + 1) = PN G (q + 1)) ∧ (∀ q j : Nat, (q : Int) < i → PN G q ≤ j → j < PN G (q + 1) → σ' 24 j = if (j : Int) = cutI G q then 1 else 0) ∧ (∀ u, u < 4096 → σ' 30 u = 0) ∧ frR 20 31 σ σ') (W := fun i σ' => AWs mX4_gather 7 [(0, vR 20), (1, vI i)] [] S σ' Q) (pcn G : Int) ?_ ?_ 0 _ ?_
  · intro i σ1 ⟨i0, i1, i2, i3, i4, i5, i6⟩ hge
    have e : i = (pcn G : Int) := by omega
    subst e
    rw [tn_cast] at i2
    refine t_X4_gather_7 hS ?_
    refine e_X3_parts hS isM_a ?_
    rw [i6 (7 + 5) (by omega) 2, hM.2.1.1]
    exact ⟨fun _ => hQ σ1 ⟨i2, fun q hq => i3 q (by omega), fun q j hq => i4 q j (by omega), i5⟩ i6, fun q => absurd hge q⟩
  · intro i σ1 ⟨i0, i1, i2, i3, i4, i5, i6⟩ hlt kk
    obtain ⟨p, rfl⟩ := nat_of i0
    have hp : p < pcn G := by omega
    rw [tn_cast] at i2
    have hPN := PN_le G (show p + 1 ≤ pcn G by omega)
    have hPs : PN G (p + 1) = PN G p + ocn G p / 2 := rfl
    have hal := AP_len G p
    have hM1 : ∀ {σ' : StT}, frR 20 31 σ σ' → atM σ' 7 G := fun h => hM.ext (fun b h1 h2 => h b (by omega))
    refine t_X4_gather_7 hS ?_
    refine e_X3_parts hS isM_a ?_
    rw [i6 (7 + 5) (by omega) 2, hM.2.1.1]
    refine ⟨fun q => absurd q (by omega), fun _ => ⟨⟨by omega, by omega⟩, ?_⟩⟩
    rw [tn_cast, i2.1, hal]
    have hfr1 : frR 20 31 σ (up2 σ1 25 p (PN G p : Int)) := i6.put (by omega) (by omega)
    refine sp_listOdds (G := G) (p := p) hS (hM1 hfr1) hn ?_
    intro σ2 a1 a2 f2 g2
    have hfr2 : frR 20 31 σ σ2 := hfr1.trans (f2.R (by simp))
    have hq2 : atQ σ2 G (AP G p) := i2.ext (by rw [g2 6 (by decide), up2_a (by decide)]) (fun b h1 h2 j => by rw [f2 b (by simp; omega), up2_a (by omega)])
    -- what the two ways of pairing leave
    have cont : ∀ σ3 : StT, atQ σ3 G (AP G (p + 1)) → (∀ u, u < 4096 → σ3 30 u = 0) → fr [20, 21, 22, 23, 27, 28, 29, 30] σ2 σ3 → AWs mX4_gather 53 [(0, vR 20), (1, vI (p : Int))] [] S σ3 Q := by
      intro σ3 q3 z3 f3
      have hal2 := AP_len G (p + 1)
      have hfr3 : frR 20 31 σ σ3 := hfr2.trans (f3.R (by simp))
      refine t_X4_gather_53 hS ⟨inR_s (by omega) (by omega), ⟨by omega, by omega⟩, ?_⟩
      rw [q3.1, hal2, show ((p : Int) + 1).toNat = p + 1 from rfl]
      have e25 : ∀ j, j ≠ p → σ3 25 j = σ1 25 j := fun j hj => by rw [f3 25 (by decide), f2 25 (by decide), up2_i hj]
      have e25p : σ3 25 p = PN G p := by rw [f3 25 (by decide), f2 25 (by decide), up2_s]
      refine sp_markCut (p := p) (a := PN G p) (k := ocn G p / 2) (g := gp G) hS (by omega) (by rw [up2_i (by omega)]; exact e25p) (by rw [up2_s]; rfl) (by omega) (fun j j1 j2 => ?_) ?_
      · rw [up2_a (by decide), (q3.2 j (by omega)).2.2]
        unfold gp apr
        rw [AP_pre G (show p + 1 ≤ pcn G by omega) (by omega)]
      · intro σ4 c1 c2 f4
        have hfr4 : frR 20 31 σ σ4 := (hfr3.put (a := 25) (i := p + 1) (v := (PN G (p + 1) : Int)) (by omega) (by omega)).trans (f4.R (by simp))
        refine ⟨inR_s (by omega) (by omega), kk σ4 ⟨by omega, by omega, ?_, fun q hq => ?_, fun q j hq hj1 hj2 => ?_, fun u hu => ?_, hfr4⟩⟩
        · rw [show ((p : Int) + 1).toNat = p + 1 from rfl]
          exact q3.ext (by rw [f4 20 (by decide), up2_a (by decide)]) (fun b _ _ j => by rw [f4 b (by simp; omega), up2_a (by omega)])
        · rw [f4 25 (by decide), f4 25 (by decide)]
          by_cases e : q = p
          · subst e; exact ⟨by rw [up2_i (by omega)]; exact e25p, up2_s _ _ _ _⟩
          · have hqp : q < p := by omega
            obtain ⟨y1, y2⟩ := i3 q (by omega)
            refine ⟨by rw [up2_i (by omega), e25 q e]; exact y1, ?_⟩
            rw [up2_i (by omega)]
            by_cases e2 : q + 1 = p
            · rw [e2]; exact e25p
            · rw [e25 _ e2]; exact y2
        · by_cases e : q = p
          · subst e; exact c1 j hj1 (by omega)
          · have hqp : q + 1 ≤ p := by omega
            have := PN_mono G hqp
            rw [c2 j (by omega), up2_a (by decide), f3 24 (by decide), f2 24 (by decide), up2_a (by decide)]
            exact i4 q j (by omega) hj1 hj2
        · rw [f4 30 (by decide), up2_a (by decide)]; exact z3 u hu
    have h30' : ∀ u, u < 4096 → σ2 30 u = 0 := fun u hu => by rw [f2 30 (by decide), up2_a (by decide)]; exact i5 u hu
    have hAPs : AP G (p + 1) = AP G p ++ PL G p := rfl
    rw [a1]
    refine ⟨fun q => ?_, fun q => ?_⟩
    · refine sp_pairByLeast (p := p) hS hok (hM1 hfr2).1 a1 (by omega) rfl a2 hq2 (by omega) h30' ?_
      intro σ3 q3 z3 f3 _
      refine cont σ3 ?_ z3 f3
      rw [hAPs]
      unfold PL IP
      rw [if_neg (by omega)]; exact q3
    · refine sp_pairNeighbours (p := p) hS hok (hM1 hfr2).1 a1 rfl a2 hq2 (by omega) ?_
      intro σ3 q3 f3 _
      refine cont σ3 ?_ (fun u hu => by rw [f3 30 (by decide)]; exact h30' u hu) (f3.mono (by simp))
      rw [hAPs]
      unfold PL IP
      rw [if_pos (by omega)]; exact q3
  · refine ⟨by omega, by omega, ⟨up2_s _ _ _ _, fun i hi => absurd hi (by simp [AP])⟩, fun q hq => by omega, fun q j hq => by omega, fun u hu => by rw [up2_a (by decide)]; exact h30 u hu, frR.rf.put (by omega) (by omega)⟩
end PAIR6
