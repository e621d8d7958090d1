/-! Meetings: parts, counts; the whole of gather -/
/-- nothing has changed but in the cells from lo to below hi -/
def frR (lo hi : Nat) (σ σ' : StT) : Prop := ∀ b, (b < lo ∨ hi ≤ b) → ∀ j, σ' b j = σ b j
theorem frR.rf {lo hi : Nat} {σ : StT} : frR lo hi σ σ := fun _ _ _ => rfl
theorem frR.trans {lo hi : Nat} {σ σ1 σ2 : StT} (h : frR lo hi σ σ1) (k : frR lo hi σ1 σ2) : frR lo hi σ σ2 := fun b hb j => (k b hb j).trans (h b hb j)
theorem frR.put {lo hi : Nat} {σ σ' : StT} {a i : Nat} {v : Int} (h : frR lo hi σ σ') (h1 : lo ≤ a) (h2 : a < hi) : frR lo hi σ (up2 σ' a i v) := fun b hb j => by
  rw [up2_a (by omega)]; exact h b hb j
theorem frR.mono {lo hi lo' hi' : Nat} {σ σ' : StT} (h : frR lo hi σ σ') (h1 : lo' ≤ lo) (h2 : hi ≤ hi') : frR lo' hi' σ σ' := fun b hb j => h b (by omega) j
theorem fr.R {L : List Nat} {lo hi : Nat} {σ σ' : StT} (h : fr L σ σ') (hL : ∀ b ∈ L, lo ≤ b ∧ b < hi) : frR lo hi σ σ' := fun b hb j => h b (fun q => by have := hL b q; omega) j
def atP (σ : StT) (m : Nat) (G : Geo) : Prop := σ (m + 5) 2 = pcn G ∧ (∀ k, k < mcn G → σ (m + 5 + 1) k = pt G k) ∧ ∀ p, p < pcn G → σ (m + 5 + 2) p = fm G p
section MEET2
variable {S : ShT} {σ : StT} {m dr d : Nat} {Q : Int → StT → Prop}
theorem sp_gatherParts {G : Geo} (hS : SHP S) (hm : isM m dr) (hn : σ dr 2 = G.1) (hn24 : G.1 ≤ 24) (hE : atE σ m G) (hQ : ∀ σ' : StT, atP σ' m G → frR (m + 5) (m + 9) σ σ' → Q 0 σ') : WPs mX3_gatherParts [vR m] S σ Q := by
  have hlt := isM_lt hm
  have hml := mcn_le G
  refine e_X3_gatherParts hS hm ?_
  rw [hE.1]
  refine sp_begin hS (isM_K hm) (by omega) ?_
  intro σ1 b1 b2 b3 b4
  have fr1 : frR (m + 5) (m + 9) σ σ1 := b4.R (by simp)
  refine lup (I := fun a σ' => 0 ≤ a ∧ σ' (m + 5) 4 = (mcn G : Int) ∧ frR (m + 5) (m + 9) σ σ' ∧ ∃ f : Nat → Nat, (∀ i, i < mcn G → σ' (m + 5 + 3) i = f i) ∧ semi (kr G) (mcn G) f ∧ ∀ s : Nat, (s : Int) < a → s < G.1 → f (mt G (2 * s)) = f (mt G (2 * s + 1))) (W := fun a σ' => AWs mX3_gatherParts 16 [(0, vR m), (1, vI a)] [] S σ' Q) (G.1 : Int) ?_ ?_ 0 σ1 ⟨by omega, b1, fr1, fun i => i, b2, semi.id _ _, fun s hs => by omega⟩
  · intro a σ2 ⟨ha, hm4, hfr, f, hf, hse, hd⟩ hge
    have hn2 : σ2 dr 2 = G.1 := by rw [hfr dr (by omega) 2]; exact hn
    have hLAB : LAB (kr G) (mcn G) f := ⟨hse.1, fun x y _ _ hR => by
      obtain ⟨s, hs, rfl, rfl⟩ := hR
      exact hd s (by omega) hs, hse.2⟩
    have hfe : ∀ i, i < mcn G → hdM G i = f i := fun i hi => labF_eq hLAB i hi
    refine t_X3_gatherParts_16 hS hm ⟨fun _ => ?_, fun q => absurd (by rw [hn2]; exact hge) q⟩
    refine sp_numberAll hS (isM_K hm) hm4 (by omega) (fun i hi => ⟨hf i hi, hse.1 i hi, hLAB.idem hi⟩) ?_
    intro σ3 c1 c2 c3 c4 c5
    have hpc : rk f (mcn G) = pcn G := (rk_ext hfe (mcn G) (Nat.le_refl _)).symm
    refine hQ σ3 ⟨by rw [c1, hpc], fun k hk => ?_, fun p hp => ?_⟩ (hfr.trans (c5.R (by simp)))
    · rw [c2 k hk]
      unfold pt
      have := hse.1 k hk
      rw [hfe k hk, rk_ext hfe (f k) (by omega)]
    · rw [c3 p (by omega)]
      unfold fm
      rw [nth_ext hfe p (mcn G) (Nat.le_refl _)]
  · intro a σ2 ⟨ha, hm4, hfr, f, hf, hse, hd⟩ hlt2 kk
    obtain ⟨s, rfl⟩ := nat_of ha
    have hs : s < G.1 := by omega
    have hn2 : σ2 dr 2 = G.1 := by rw [hfr dr (by omega) 2]; exact hn
    have e1 : σ2 (m + 1 + 1) (2 * s) = mt G (2 * s) := by rw [hfr (m + 1 + 1) (by omega)]; exact hE.2.1 _ (by omega)
    have e2 : σ2 (m + 1 + 1) (2 * s + 1) = mt G (2 * s + 1) := by rw [hfr (m + 1 + 1) (by omega)]; exact hE.2.1 _ (by omega)
    refine t_X3_gatherParts_16 hS hm ⟨fun q => absurd q (by rw [hn2]; omega), fun _ => ⟨inR_s (by omega) (by omega), ?_⟩⟩
    refine e_X3_of hS hm ⟨⟨by omega, by omega⟩, inR_s (by omega) (by omega), inR_s (by omega) (by omega), ?_⟩
    refine e_X3_of hS hm ⟨⟨by omega, by omega⟩, ?_⟩
    rw [show (2 * (s : Int)).toNat = 2 * s by omega, show (2 * (s : Int) + 1).toNat = 2 * s + 1 by omega, e1, e2]
    have l1 : mt G (2 * s) < mcn G := mt_lt (by omega)
    have l2 : mt G (2 * s + 1) < mcn G := mt_lt (by omega)
    refine sp_tie (f := f) hS (isM_K hm) hm4 (by omega) l1 l2 (fun i hi => ⟨hf i hi, hse.1 i hi⟩) ?_
    intro σ4 d1 d2
    refine ⟨inR_s (by omega) (by omega), kk σ4 ⟨by omega, by rw [d2 (m + 5) (by simp) 4]; exact hm4, hfr.trans (d2.R (by simp)), tieF f (mt G (2 * s)) (mt G (2 * s + 1)), d1, hse.tie l1 l2 ⟨s, hs, rfl, rfl⟩, fun t ht ht2 => ?_⟩⟩
    by_cases e : t = s
    · subst e; exact tieF_ab f _ _
    · exact tieF_eq (hd t (by omega) ht2)
theorem cnt_s (P : Nat → Bool) (k : Nat) : cnt P (k + 1) = cnt P k + (if P k = true then 1 else 0) := rfl
theorem sp_countEnds {G : Geo} (hS : SHP S) (hm : isM m dr) (hn : σ dr 2 = G.1) (hn24 : G.1 ≤ 24) (hE : atE σ m G) (hQ : ∀ σ' : StT, (∀ k, k < mcn G → σ' (m + 11) k = ecn G k) → fr [m + 11] σ σ' → Q 0 σ') : WPs mX3_countEnds [vR m] S σ Q := by
  have hlt := isM_lt hm
  have hml := mcn_le G
  refine e_X3_countEnds hS hm ?_
  refine lup (I := fun i σ' => 0 ≤ i ∧ (∀ k : Nat, (k : Int) < i → k < mcn G → σ' (m + 11) k = 0) ∧ fr [m + 11] σ σ') (W := fun i σ' => AWs mX3_countEnds 2 [(0, vR m), (1, vI i)] [] S σ' Q) (mcn G : Int) ?_ ?_ 0 σ ⟨by omega, fun k hk => by omega, fr.rf⟩
  · intro i σ1 ⟨i0, i1, i2⟩ h
    refine t_X3_countEnds_2 hS hm ⟨fun _ => ?_, fun q => absurd (by rw [i2 (m + 1) (by simp) 2, hE.1]; exact h) q⟩
    refine lup (I := fun i σ' => 0 ≤ i ∧ i ≤ 2 * G.1 ∧ (∀ k : Nat, k < mcn G → σ' (m + 11) k = cnt (fun e => decide (mt G e = k)) i.toNat) ∧ fr [m + 11] σ σ') (W := fun i σ' => AWs mX3_countEnds 28 [(0, vR m), (1, vI i)] [] S σ' Q) ((2 * G.1 : Nat) : Int) ?_ ?_ 0 σ1 ⟨by omega, by omega, fun k hk => i1 k (by omega) hk, i2⟩
    · intro e σ2 ⟨e0, e1, e2, e3⟩ h2
      have hn2 : σ2 dr 2 = G.1 := by rw [e3 dr (by simp; omega) 2]; exact hn
      have ee : e = ((2 * G.1 : Nat) : Int) := by omega
      subst ee
      exact t_X3_countEnds_28 hS hm ⟨inR_s (by omega) (by omega), fun _ => hQ σ2 e2 e3, fun q => absurd (by rw [hn2]; omega) q⟩
    · intro e σ2 ⟨e0, e1, e2, e3⟩ h2 kk
      obtain ⟨t, rfl⟩ := nat_of e0
      have hn2 : σ2 dr 2 = G.1 := by rw [e3 dr (by simp; omega) 2]; exact hn
      have hmt : σ2 (m + 1 + 1) t = mt G t := by rw [e3 (m + 1 + 1) (by simp) t]; exact hE.2.1 t (by omega)
      have l1 : mt G t < mcn G := mt_lt (by omega)
      refine t_X3_countEnds_28 hS hm ⟨inR_s (by omega) (by omega), fun q => absurd q (by rw [hn2]; omega), fun _ => ?_⟩
      refine e_X3_of hS hm ⟨⟨by omega, by omega⟩, ?_⟩
      simp only [tn_cast, hmt, e2 _ l1]
      have hc := cnt_le (fun e => decide (mt G e = mt G t)) t
      refine ⟨⟨by omega, by omega⟩, inR_s (by omega) (by omega), ⟨by omega, by omega⟩, inR_s (by omega) (by omega), kk _ ⟨by omega, by omega, fun k hk => ?_, e3.put (by simp)⟩⟩
      rw [show ((t : Int) + 1).toNat = t + 1 from rfl, cnt_s]
      by_cases q : k = mt G t
      · subst q; rw [up2_s, if_pos (by simp)]; rfl
      · rw [up2_i q, e2 k hk, tn_cast, if_neg (by simpa using fun z => q z.symm)]; rfl
  · intro i σ1 ⟨i0, i1, i2⟩ h kk
    obtain ⟨t, rfl⟩ := nat_of i0
    refine t_X3_countEnds_2 hS hm ⟨fun q => absurd q (by rw [i2 (m + 1) (by simp) 2, hE.1]; omega), fun _ => ⟨⟨by omega, by omega⟩, inR_s (by omega) (by omega), kk _ ⟨by omega, fun k hk hk2 => ?_, i2.put (by simp)⟩⟩⟩
    by_cases q : k = t
    · subst q; exact up2_s _ _ _ _
    · rw [tn_cast, up2_i q]; exact i1 k (by omega) hk2
theorem sp_isOdd {G : Geo} {k : Nat} (hS : SHP S) (hm : isM m dr) (hk : k < 48) (he : σ (m + 11) k = ecn G k) (hQ : Q (if odd G k = true then 1 else 0) σ) : WPs mX3_isOdd [vR m, vI (k : Int)] S σ Q := by
  refine e_X3_isOdd hS hm ?_
  simp only [tn_cast, he]
  unfold odd at hQ
  refine ⟨⟨by omega, by omega⟩, by omega, fun q => ?_, fun q => ?_⟩
  · rw [if_neg (by simp; omega)] at hQ; exact hQ
  · rw [if_pos (by simp; omega)] at hQ; exact hQ
theorem sp_countOdds {G : Geo} (hS : SHP S) (hm : isM m dr) (hn24 : G.1 ≤ 24) (h1 : σ (m + 1) 2 = mcn G) (hP : atP σ m G) (he : ∀ k, k < mcn G → σ (m + 11) k = ecn G k) (hQ : ∀ σ' : StT, (∀ p, p < pcn G → σ' (m + 12) p = ocn G p) → fr [m + 12] σ σ' → Q 0 σ') : WPs mX3_countOdds [vR m] S σ Q := by
  have hml := mcn_le G
  have hpl := pcn_le G
  refine e_X3_countOdds hS hm ?_
  refine lup (I := fun i σ' => 0 ≤ i ∧ (∀ k : Nat, (k : Int) < i → k < pcn G → σ' (m + 12) k = 0) ∧ fr [m + 12] σ σ') (W := fun i σ' => AWs mX3_countOdds 2 [(0, vR m), (1, vI i)] [] S σ' Q) (pcn G : Int) ?_ ?_ 0 σ ⟨by omega, fun k hk => by omega, fr.rf⟩
  · intro i σ1 ⟨i0, i1, i2⟩ h
    refine t_X3_countOdds_2 hS hm ⟨fun _ => ?_, fun q => absurd (by rw [i2 (m + 5) (by simp) 2, hP.1]; exact h) q⟩
    refine lup (I := fun i σ' => 0 ≤ i ∧ i ≤ mcn G ∧ (∀ p : Nat, p < pcn G → σ' (m + 12) p = cnt (fun k => odd G k && decide (pt G k = p)) i.toNat) ∧ fr [m + 12] σ σ') (W := fun i σ' => AWs mX3_countOdds 28 [(0, vR m), (1, vI i)] [] S σ' Q) (mcn G : Int) ?_ ?_ 0 σ1 ⟨by omega, by omega, fun k hk => i1 k (by omega) hk, i2⟩
    · intro e σ2 ⟨e0, e1, e2, e3⟩ h2
      have ee : e = (mcn G : Int) := by omega
      subst ee
      exact t_X3_countOdds_28 hS hm ⟨fun _ => hQ σ2 e2 e3, fun q => absurd (by rw [e3 (m + 1) (by simp) 2, h1]; exact h2) q⟩
    · intro e σ2 ⟨e0, e1, e2, e3⟩ h2 kk
      obtain ⟨t, rfl⟩ := nat_of e0
      have ht : t < mcn G := by omega
      refine t_X3_countOdds_28 hS hm ⟨fun q => absurd q (by rw [e3 (m + 1) (by simp) 2, h1]; omega), fun _ => ?_⟩
      refine sp_isOdd (G := G) hS hm (by omega) (by rw [e3 (m + 11) (by simp) t]; exact he t ht) ?_
      have hpt : σ2 (m + 5 + 1) t = pt G t := by rw [e3 (m + 5 + 1) (by simp) t]; exact hP.2.1 t ht
      have l1 : pt G t < pcn G := pt_lt ht
      refine ⟨fun q => ⟨inR_s (by omega) (by omega), kk _ ⟨by omega, by omega, fun p hp => ?_, e3⟩⟩, fun q => ?_⟩
      · have ho : odd G t = false := by
          cases h : odd G t
          · rfl
          · rw [h] at q; simp at q
        rw [e2 p hp, show ((t : Int) + 1).toNat = t + 1 from rfl, cnt_s, tn_cast]
        simp [ho]
      · have ho : odd G t = true := by
          cases h : odd G t
          · rw [h] at q; simp at q
          · rfl
        refine e_X3_partOf hS hm ⟨⟨by omega, by omega⟩, ?_⟩
        simp only [tn_cast, hpt, e2 _ l1]
        have hc := cnt_le (fun k => odd G k && decide (pt G k = pt G t)) t
        refine ⟨⟨by omega, by omega⟩, inR_s (by omega) (by omega), ⟨by omega, by omega⟩, inR_s (by omega) (by omega), kk _ ⟨by omega, by omega, fun p hp => ?_, e3.put (by simp)⟩⟩
        rw [show ((t : Int) + 1).toNat = t + 1 from rfl, cnt_s]
        by_cases q2 : p = pt G t
        · subst q2; rw [up2_s, if_pos (by simp [ho])]; rfl
        · rw [up2_i q2, e2 p hp, tn_cast, if_neg (by simpa [ho] using fun z => q2 z.symm)]; rfl
  · intro i σ1 ⟨i0, i1, i2⟩ h kk
    obtain ⟨t, rfl⟩ := nat_of i0
    refine t_X3_countOdds_2 hS hm ⟨fun q => absurd q (by rw [i2 (m + 5) (by simp) 2, hP.1]; omega), fun _ => ⟨⟨by omega, by omega⟩, inR_s (by omega) (by omega), kk _ ⟨by omega, fun k hk hk2 => ?_, i2.put (by simp)⟩⟩⟩
    by_cases q : k = t
    · subst q; exact up2_s _ _ _ _
    · rw [tn_cast, up2_i q]; exact i1 k (by omega) hk2
/-- what gather leaves -/
def atM (σ : StT) (m : Nat) (G : Geo) : Prop := atE σ m G ∧ atP σ m G ∧ (∀ k, k < mcn G → σ (m + 11) k = ecn G k) ∧ ∀ p, p < pcn G → σ (m + 12) p = ocn G p
theorem atE.ext {σ σ' : StT} {m : Nat} {G : Geo} (h : atE σ m G) (h1 : ∀ b, m + 1 ≤ b → b < m + 4 → ∀ j, σ' b j = σ b j) (h2 : ∀ b, m + 9 ≤ b → b < m + 11 → ∀ j, σ' b j = σ b j) : atE σ' m G := by
  obtain ⟨a, b, c, d, e⟩ := h
  exact ⟨by rw [h1 _ (by omega) (by omega)]; exact a, fun k hk => by rw [h1 _ (by omega) (by omega)]; exact b k hk, fun k hk => by rw [h1 _ (by omega) (by omega)]; exact c k hk, fun k hk => by rw [h2 _ (by omega) (by omega)]; exact d k hk, fun k hk => by rw [h2 _ (by omega) (by omega)]; exact e k hk⟩
theorem atP.ext {σ σ' : StT} {m : Nat} {G : Geo} (h : atP σ m G) (h1 : ∀ b, m + 5 ≤ b → b < m + 8 → ∀ j, σ' b j = σ b j) : atP σ' m G := by
  obtain ⟨a, b, c⟩ := h
  exact ⟨by rw [h1 _ (by omega) (by omega)]; exact a, fun k hk => by rw [h1 _ (by omega) (by omega)]; exact b k hk, fun k hk => by rw [h1 _ (by omega) (by omega)]; exact c k hk⟩
theorem atM.ext {σ σ' : StT} {m : Nat} {G : Geo} (h : atM σ m G) (h1 : ∀ b, m + 1 ≤ b → b < m + 13 → ∀ j, σ' b j = σ b j) : atM σ' m G :=
  ⟨h.1.ext (fun b x y => h1 b (by omega) (by omega)) (fun b x y => h1 b (by omega) (by omega)), h.2.1.ext (fun b x y => h1 b (by omega) (by omega)), fun k hk => by rw [h1 _ (by omega) (by omega)]; exact h.2.2.1 k hk, fun k hk => by rw [h1 _ (by omega) (by omega)]; exact h.2.2.2 k hk⟩
theorem sp_gather {j : Int} (hS : SHP S) (hm : isM m dr) (hk : okD σ dr) (h0 : 0 ≤ j) (h1 : j ≤ 50) (hQ : ∀ σ' : StT, atM σ' m (geoD σ dr j) → frR (m + 1) (m + 13) σ σ' → Q 0 σ') : WPs mX3_gather [vR m, vI j] S σ Q := by
  have hlt := isM_lt hm
  obtain ⟨n, hn⟩ := nat_of hk.1
  have hn24 : n ≤ 24 := by have := hk.2.1; omega
  have hG1 : (geoD σ dr j).1 = n := by show (σ dr 2).toNat = n; omega
  refine e_X3_gather hS hm ?_
  refine sp_gatherEnds hS hm hk h0 h1 ?_
  intro σ1 a1 f1
  have n1 : σ1 dr 2 = (geoD σ dr j).1 := by rw [f1 dr (by simp; omega) 2, hG1]; exact hn
  refine sp_gatherParts hS hm n1 (by omega) a1 ?_
  intro σ2 a2 f2
  have a1' : atE σ2 m (geoD σ dr j) := a1.ext (fun b x y => f2 b (by omega)) (fun b x y => f2 b (by omega))
  have n2 : σ2 dr 2 = (geoD σ dr j).1 := by rw [f2 dr (by omega) 2]; exact n1
  refine sp_countEnds hS hm n2 (by omega) a1' ?_
  intro σ3 a3 f3
  have a1'' : atE σ3 m (geoD σ dr j) := a1'.ext (fun b x y => f3 b (by simp; omega)) (fun b x y => f3 b (by simp; omega))
  have a2' : atP σ3 m (geoD σ dr j) := a2.ext (fun b x y => f3 b (by simp; omega))
  refine sp_countOdds hS hm (by omega) a1''.1 a2' a3 ?_
  intro σ4 a4 f4
  refine hQ σ4 ⟨a1''.ext (fun b x y => f4 b (by simp; omega)) (fun b x y => f4 b (by simp; omega)), a2'.ext (fun b x y => f4 b (by simp; omega)), fun k hk => by rw [f4 (m + 11) (by simp) k]; exact a3 k hk, a4⟩ ?_
  exact (((f1.R (by simp)).trans (f2.mono (by omega) (by omega))).trans (f3.R (by simp))).trans (f4.R (by simp))
end MEET2
