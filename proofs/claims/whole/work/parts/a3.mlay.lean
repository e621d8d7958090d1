/-! the reference: laysParts, laysMeetings -/
section MLAY
variable {S : ShT} {σ : StT} {Q : Int → StT → Prop} {G : Geo}
theorem m_laysParts (hS : SHP S) (hn24 : G.1 ≤ 24) (h1 : σ 127 2 = G.1) (h26 : σ 125 26 = mcn G) (h131 : ∀ e, e < 2 * G.1 → σ 131 e = mt G e) (hQ : ∀ σ' : StT, σ' 125 27 = pcn G → (∀ k, k < mcn G → σ' 134 k = pt G k) → fr [125, 134] σ σ' → (∀ j, j ≠ 27 → σ' 125 j = σ 125 j) → Q 0 σ') : WPs mX11_laysParts [vR 125] S σ Q := by
  have hml := mcn_le G
  refine e_X11_laysParts hS ?_
  refine lup (I := fun i σ' => 0 ≤ i ∧ i ≤ (mcn G : Int) ∧ fr [134] σ σ' ∧ ∀ k : Nat, (k : Int) < i → σ' 134 k = (k : Int)) (W := fun i σ' => AWs mX11_laysParts 2 [(0, vR 125), (1, vI i)] [] S σ' Q) (mcn G : Int) ?_ ?_ 0 σ ⟨by omega, by omega, fr.rf, fun k hk => by omega⟩
  · rintro i σ1 ⟨i0, i1, i2, i3⟩ hge
    refine t_X11_laysParts_2 hS ⟨fun _ => ?_, fun q => absurd (by rw [i2 125 (by decide), h26]; exact hge) q⟩
    refine m_plabel (σ := σ) hS hn24 ?_ h1 h26 h131 _ σ1 (fun i => i) rfl (fun k hk => i3 k (by omega)) (semi.id _ _) i2
    intro σ2 f hf hL F
    have hfe : ∀ i, i < mcn G → hdM G i = f i := fun i hi => labF_eq hL i hi
    refine sp_numbers (k_134 hS) hS (by omega) (by omega) (fun i hi => ⟨hf i hi, hL.1 i hi, hL.idem hi⟩) ?_
    intro σ3 c1 c2
    have hpc : rk f (mcn G) = pcn G := (rk_ext hfe (mcn G) (Nat.le_refl _)).symm
    refine hQ _ (by rw [up2_s, hpc]) (fun k hk => ?_) ((((F.mono (by simp)).trans (c2.mono (by simp)))).put (by simp)) (fun j hj => by rw [up2_i hj, c2 125 (by decide), F 125 (by decide)])
    rw [up2_a (by decide), c1 k hk]
    unfold pt
    have := hL.1 k hk
    rw [hfe k hk, rk_ext hfe (f k) (by omega)]
  · rintro i σ1 ⟨i0, i1, i2, i3⟩ hlt kk
    obtain ⟨i, rfl⟩ := nat_of i0
    refine t_X11_laysParts_2 hS ⟨fun q => absurd q (by rw [i2 125 (by decide), h26]; omega), fun _ => ⟨⟨by omega, by omega⟩, inR_s (by omega) (by omega), kk _ ⟨by omega, by omega, i2.put (by simp), fun k hk => ?_⟩⟩⟩
    rw [tn_cast]
    by_cases e : k = i
    · subst e; rw [up2_s]
    · rw [up2_i e]; exact i3 k (by omega)
theorem m_laysMeetings (hS : SHP S) (hok : okG G) (h : rG σ G) (hQ : ∀ σ' : StT, mM σ' G → fr [125, 131, 132, 133, 134] σ σ' → (∀ j, j ≠ 26 → j ≠ 27 → σ' 125 j = σ 125 j) → Q 0 σ') : WPs mX11_laysMeetings [vR 125] S σ Q := by
  have hn24 := hok.1
  have hml := mcn_le G
  refine e_X11_laysMeetings hS ?_
  rw [h.1]
  refine ⟨inR_s (by omega) (by omega), fun x hx => ?_⟩
  have hx : x = ((2 * G.1 : Nat) : Int) := by omega
  subst hx
  refine lup (I := fun i σ' => 0 ≤ i ∧ i ≤ ((2 * G.1 : Nat) : Int) ∧ fr [131] σ σ' ∧ ∀ k : Nat, (k : Int) < i → σ' 131 k = (k : Int)) (W := fun i σ' => AWs mX11_laysMeetings 11 [(0, vR 125), (1, vI ((2 * G.1 : Nat) : Int)), (2, vI i)] [] S σ' Q) ((2 * G.1 : Nat) : Int) ?_ ?_ 0 σ ⟨by omega, by omega, fr.rf, fun k hk => by omega⟩
  · rintro i σ1 ⟨i0, i1, i2, i3⟩ hge
    refine t_X11_laysMeetings_11 hS ⟨fun _ => ?_, fun q => absurd hge q⟩
    refine m_label (σ := σ) (n := G.1) hS rfl hok ?_ h _ σ1 (fun i => i) rfl (fun k hk => i3 k (by omega)) (semi.id _ _) i2
    intro σ2 f hf hL F
    have hfe : ∀ i, i < 2 * G.1 → hdE G i = f i := fun i hi => labF_eq hL i hi
    refine sp_numbers (k_131 hS) hS (by omega) (by omega) (fun i hi => ⟨hf i hi, hL.1 i hi, hL.idem hi⟩) ?_
    intro σ3 c1 c2
    have hmc : rk f (2 * G.1) = mcn G := (rk_ext hfe (2 * G.1) (Nat.le_refl _)).symm
    rw [hmc]
    have hmt : ∀ e, e < 2 * G.1 → σ3 131 e = mt G e := fun e he => by
      rw [c1 e he]
      unfold mt
      have := hL.1 e he
      rw [hfe e he, rk_ext hfe (f e) (by omega)]
    have F3 : fr [125, 131, 132, 133, 134] σ (up2 σ3 125 26 (mcn G : Int)) := ((F.mono (by simp)).trans (c2.mono (by simp))).put (by simp)
    have g26 : (up2 σ3 125 26 (mcn G : Int)) 125 26 = mcn G := up2_s _ _ _ _
    have gj : ∀ j, j ≠ 26 → (up2 σ3 125 26 (mcn G : Int)) 125 j = σ 125 j := fun j hj => by rw [up2_i hj, c2 125 (by decide), F 125 (by decide)]
    have gm : ∀ e, e < 2 * G.1 → (up2 σ3 125 26 (mcn G : Int)) 131 e = mt G e := fun e he => by rw [up2_a (by decide)]; exact hmt e he
    generalize up2 σ3 125 26 (mcn G : Int) = σ4 at F3 g26 gj gm
    -- no ends yet
    refine lup (I := fun i σ' => 0 ≤ i ∧ i ≤ (mcn G : Int) ∧ fr [133] σ4 σ' ∧ ∀ k : Nat, (k : Int) < i → σ' 133 k = 0) (W := fun i σ' => AWs mX11_laysMeetings 129 [(0, vR 125), (1, vI ((2 * G.1 : Nat) : Int)), (3, vI i)] [] S σ' Q) (mcn G : Int) ?_ ?_ 0 σ4 ⟨by omega, by omega, fr.rf, fun k hk => by omega⟩
    · rintro j σ5 ⟨j0, j1, j2, j3⟩ hge2
      refine t_X11_laysMeetings_129 hS ⟨fun _ => ⟨inR_s (by omega) (by omega), ?_⟩, fun q => absurd (by rw [j2 125 (by decide), g26]; exact hge2) q⟩
      -- the ends, from the last on
      refine ldn (I := fun e σ' => -1 ≤ e ∧ e < ((2 * G.1 : Nat) : Int) ∧ fr [132, 133] σ4 σ' ∧ ∀ k, k < mcn G → (e < (fe G k : Int) → σ' 132 k = fe G k) ∧ σ' 133 k + (cnt (fun x => decide (mt G x = k)) (e + 1).toNat : Int) = ecn G k) (W := fun e σ' => AWs mX11_laysMeetings 154 [(0, vR 125), (3, vI e)] [] S σ' Q) 0 ?_ ?_ (((2 * G.1 : Nat) : Int) - 1) σ5 ⟨by omega, by omega, j2.mono (by simp), fun k hk => ⟨fun q => ?_, ?_⟩⟩
      · rintro e σ6 ⟨e0, e1, e2, e3⟩ hlt
        have ee : e = -1 := by omega
        subst ee
        refine t_X11_laysMeetings_154 hS ⟨fun _ => ?_, fun q => absurd hlt q⟩
        have F6 : fr [125, 131, 132, 133, 134] σ σ6 := F3.trans (e2.mono (by simp))
        refine m_laysParts hS hn24 (by rw [F6 127 (by decide)]; exact h.1) (by rw [e2 125 (by decide)]; exact g26) (fun e he => by rw [e2 131 (by decide)]; exact gm e he) ?_
        intro σ7 d1 d2 d3 d4
        refine hQ σ7 ⟨by rw [d4 26 (by decide), e2 125 (by decide)]; exact g26, d1, fun e he => by rw [d3 131 (by decide), e2 131 (by decide)]; exact gm e he, fun k hk => ⟨?_, ?_, d2 k hk⟩⟩ (F6.trans (d3.mono (by simp))) (fun j h1 h2 => by rw [d4 j h2, e2 125 (by decide)]; exact gj j h1)
        · rw [d3 132 (by decide)]; exact (e3 k hk).1 (by omega)
        · rw [d3 133 (by decide)]
          have := (e3 k hk).2
          rw [show ((-1 : Int) + 1).toNat = 0 by omega] at this
          show σ6 133 k = _
          have h0 : cnt (fun x => decide (mt G x = k)) 0 = 0 := rfl
          rw [h0] at this
          omega
      · rintro e σ6 ⟨e0, e1, e2, e3⟩ hge3 kk3
        obtain ⟨e, rfl⟩ := nat_of hge3
        have he : e < 2 * G.1 := by omega
        have l1 := mt_lt he
        have em : σ6 131 e = mt G e := by rw [e2 131 (by decide)]; exact gm e he
        obtain ⟨-, q2⟩ := e3 _ l1
        have hc := cnt_le (fun x => decide (mt G x = mt G e)) (e + 1)
        have hec : ecn G (mt G e) ≤ 2 * G.1 := cnt_le _ _
        have e1n : ((e : Int) + 1).toNat = e + 1 := rfl
        rw [e1n] at q2
        refine t_X11_laysMeetings_154 hS ⟨fun q => absurd q (by omega), fun _ => ?_⟩
        rw [tn_cast, em, tn_cast]
        refine ⟨⟨by omega, by omega⟩, ⟨by omega, by omega⟩, ⟨by omega, by omega⟩, ⟨by omega, by omega⟩, inR_s (by omega) (by omega), ⟨by omega, by omega⟩, inR_s (by omega) (by omega), kk3 _ ⟨by omega, by omega, (e2.put (by simp)).put (by simp), fun k hk => ?_⟩⟩
        obtain ⟨k1, k2⟩ := e3 k hk
        rw [e1n, cnt_s] at k2
        rw [show ((e : Int) + -1 + 1).toNat = e by omega, up2_a (show (132 : Nat) ≠ 133 by decide)]
        by_cases c : k = mt G e
        · subst c
          rw [up2_s, up2_s]
          rw [if_pos (by simp)] at k2
          refine ⟨fun q => ?_, by omega⟩
          have := fe_le (G := G) he
          have : fe G (mt G e) = e := by omega
          rw [this]
        · rw [up2_i c, up2_i c, up2_a (by decide)]
          rw [if_neg (by simp; exact fun z => c z.symm)] at k2
          refine ⟨fun q => k1 ?_, by omega⟩
          have : fe G k ≠ e := fun z => c (by rw [← z]; exact ((fe_ok hk).2).symm)
          omega
      · have := (fe_ok hk).1; omega
      · rw [j3 k (by omega), show (((2 * G.1 : Nat) : Int) - 1 + 1).toNat = 2 * G.1 by omega]
        show 0 + (ecn G k : Int) = ecn G k
        omega
    · rintro j σ5 ⟨j0, j1, j2, j3⟩ hlt2 kk2
      obtain ⟨j, rfl⟩ := nat_of j0
      refine t_X11_laysMeetings_129 hS ⟨fun q => absurd q (by rw [j2 125 (by decide), g26]; omega), fun _ => ⟨⟨by omega, by omega⟩, inR_s (by omega) (by omega), kk2 _ ⟨by omega, by omega, j2.put (by simp), fun k hk => ?_⟩⟩⟩
      rw [tn_cast]
      by_cases e : k = j
      · subst e; rw [up2_s]
      · rw [up2_i e]; exact j3 k (by omega)
  · rintro i σ1 ⟨i0, i1, i2, i3⟩ hlt kk
    obtain ⟨i, rfl⟩ := nat_of i0
    refine t_X11_laysMeetings_11 hS ⟨fun q => absurd q (by omega), fun _ => ⟨⟨by omega, by omega⟩, inR_s (by omega) (by omega), kk _ ⟨by omega, by omega, i2.put (by simp), fun k hk => ?_⟩⟩⟩
    rw [tn_cast]
    by_cases e : k = i
    · subst e; rw [up2_s]
    · rw [up2_i e]; exact i3 k (by omega)
end MLAY
