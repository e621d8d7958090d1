/-! Walks: a part's walk -/
def wst (σ : StT) (G : Geo) (W : List (Nat × Nat)) (sp : List Nat) : Prop := σ 31 7 = W.length ∧ (∀ k, k < W.length → σ 34 k = wcd G (W.getD k (0, 0))) ∧ ∀ k, k ≤ W.length → σ 35 k = sp.getD k 0
theorem rsp_pt {G : Geo} {p : Nat} (hp : p < pcn G) : ∀ {l : List Nat} {go go' : Nat → Bool} {m m' : Nat}, isRing (gP G p) go m l go' m' → ∀ j, j < l.length → pt G ((rsp (gP G p) m l).getD j 0) = p
  | [], _, _, _, _, _, j, hj => absurd hj (by simp)
  | e :: l, go, go', m, m', h, j, hj => by
    have hx : eX G p e = true := (nx_ok h.1).2.1
    cases j with
    | zero => exact (oe_pt hp hx).2
    | succ j => exact rsp_pt hp h.2 j (by simpa using hj)
section WALKD
variable {S : ShT} {σ : StT} {Q : Int → StT → Prop}
theorem sp_makeRing {G : Geo} {p m m' wl : Nat} {l : List Nat} {go go' : Nat → Bool} (hS : SHP S) (hp : p < pcn G) (h : wC σ G) (hm : pt G m = p) (hg : gnC σ G p go) (h7 : σ 31 7 = wl) (hl : wl + lft (gP G p) go ≤ 48) (hr : isRing (gP G p) go m l go' m')
    (hQ : ∀ σ' : StT, gnC σ' G p go' → kpC σ σ' G p → σ' 31 10 = (l.length : Int) → (∀ j, j < l.length → σ' 36 j = wcd G ((rfr (gP G p) m l).getD j (0, 0))) → (∀ j, j < l.length → σ' 37 (j + 1) = (rsp (gP G p) m l).getD j 0) → fr [31, 36, 37, 38, 39] σ σ' → (∀ j, j ≠ 10 → σ' 31 j = σ 31 j) → Q 0 σ') : WPs mX9_makeRing [vR 31, vI (p : Int), vI (m : Int)] S σ Q := by
  refine e_X9_makeRing hS ?_
  have f1 : fr [31, 36, 37, 38, 39] σ (up2 (up2 σ 31 10 0) 37 0 (m : Int)) := (fr.rf.put (by simp)).put (by simp)
  refine sp_ringGo hS hp l _ go go' m m' 0 wl (h.ext (lo := 31) (hi := 40) (f1.R (by simp)) (by omega)) hm (hg.ext (fun j => by rw [up2_a (by decide), up2_a (by decide)]) (fun j => by rw [up2_a (by decide), up2_a (by decide)])) (by rw [up2_s]) (by rw [up2_a (by decide), up2_i (by decide)]; exact h7) (by rw [up2_a (by decide), up2_s]; rfl) (by omega) hr ?_
  intro σ2 g2 k2 a10 a36 a37 b36 b37 f4 b31
  refine hQ σ2 g2 ((kpC.of (fun j => by rw [up2_a (by decide), up2_a (by decide)]) (fun j => by rw [up2_a (by decide), up2_a (by decide)])).trans k2) (by rw [a10, Nat.zero_add]) (fun j hj => ?_) (fun j hj => ?_) (f1.trans f4) (fun j hj => by rw [b31 j hj, up2_a (by decide), up2_i hj])
  · have := a36 j hj; rw [Nat.zero_add] at this; exact this
  · have := a37 j hj; rw [Nat.zero_add] at this; exact this
theorem sp_firstOpenPlace {G : Geo} {p : Nat} {go : Nat → Bool} {W : List (Nat × Nat)} {sp : List Nat} (hS : SHP S) (h : wC σ G) (hp : p < pcn G) (hg : gnC σ G p go) (hw : wst σ G W sp) (hl : W.length ≤ 48) (hsp : ∀ k, k ≤ W.length → pt G (sp.getD k 0) = p)
    (h0 : (∀ j, j ≤ W.length → nx (gP G p) go (sp.getD j 0) = none) → Q (-1) σ) (h1 : ∀ k : Nat, k ≤ W.length → nx (gP G p) go (sp.getD k 0) ≠ none → (∀ j, j < k → nx (gP G p) go (sp.getD j 0) = none) → Q (k : Int) σ) : WPs mX9_firstOpenPlace [vR 31, vI (p : Int)] S σ Q := by
  refine e_X9_firstOpenPlace hS ?_
  refine lup (I := fun i σ' => 0 ≤ i ∧ i ≤ (W.length : Int) + 1 ∧ σ' = σ ∧ ∀ y : Nat, (y : Int) < i → nx (gP G p) go (sp.getD y 0) = none) (W := fun i σ' => AWs mX9_firstOpenPlace 2 [(0, vR 31), (1, vI (p : Int)), (2, vI i)] [] S σ' Q) ((W.length : Int) + 1) ?_ ?_ 0 σ ⟨by omega, by omega, rfl, fun y hy => by omega⟩
  · rintro i σ1 ⟨i0, i1, rfl, i2⟩ hge
    refine t_X9_firstOpenPlace_2 hS ?_
    rw [hw.1]
    exact ⟨fun _ => h0 (fun j hj => i2 j (by omega)), fun q => absurd (show (W.length : Int) < i by omega) q⟩
  · rintro i σ1 ⟨i0, i1, rfl, i2⟩ hlt kk
    obtain ⟨t, rfl⟩ := nat_of i0
    refine t_X9_firstOpenPlace_2 hS ?_
    rw [hw.1, tn_cast, hw.2.2 t (by omega)]
    refine ⟨fun q => absurd q (by omega), fun _ => ⟨⟨by omega, by omega⟩, ?_⟩⟩
    refine sp_firstWayFrom hS h hp (hsp t (by omega)) hg ?_
    cases hn : nx (gP G p) go (sp.getD t 0) with
    | none =>
      rw [nxv_n hn]
      exact ⟨fun _ => ⟨inR_s (by omega) (by omega), kk σ1 ⟨by omega, by omega, rfl, fun y hy => by
        by_cases e : y = t
        · rw [e]; exact hn
        · exact i2 y (by omega)⟩⟩, fun q => absurd rfl q⟩
    | some e =>
      rw [nxv_s hn]
      exact ⟨fun q => absurd q wcd_ne.1, fun _ => h1 t (by omega) (by rw [hn]; simp) (fun j hj => i2 j (by omega))⟩
theorem sp_runGo {G : Geo} {p : Nat} {goF : Nat → Bool} {WF : List (Nat × Nat)} {spF : List Nat} (hS : SHP S) (hp : p < pcn G) : ∀ (r : Nat) (σ : StT) (go : Nat → Bool) (W : List (Nat × Nat)) (sp : List Nat) (v3 v4 : Int), wC σ G → gnC σ G p go → wst σ G W sp → sp.length = W.length + 1 → (∀ k, k ≤ W.length → pt G (sp.getD k 0) = p) → W.length + lft (gP G p) go ≤ 48 → 0 ≤ v4 → v4 ≤ W.length → isRun (gP G p) r go W sp goF WF spF →
    ((v3 = -1 ∧ ∀ j, j ≤ W.length → nx (gP G p) go (sp.getD j 0) = none) ∨ ∃ k : Nat, v3 = k ∧ k ≤ W.length ∧ nx (gP G p) go (sp.getD k 0) ≠ none ∧ ∀ j, j < k → nx (gP G p) go (sp.getD j 0) = none) →
    (∀ σ' : StT, gnC σ' G p goF → kpC σ σ' G p → wst σ' G WF spF → fr [31, 34, 35, 36, 37, 38, 39] σ σ' → Q 0 σ') → AWs mX9_makeWalk 50 [(0, vR 31), (1, vI (p : Int)), (3, vI v3), (4, vI v4)] [] S σ Q
  | 0, σ, go, W, sp, v3, v4, h, hg, hw, hsl, hsp, hl, hv0, hv1, hr, hv, hQ => by
    obtain ⟨r1, rfl, rfl, rfl⟩ := hr
    have e3 : v3 = -1 := by
      rcases hv with q | ⟨k, -, k1, k2, -⟩
      · exact q.1
      · exact absurd (r1 k k1) k2
    subst e3
    exact t_X9_makeWalk_50 hS ⟨fun _ => hQ σ hg kpC.rf hw fr.rf, fun _ => ⟨fun _ => hQ σ hg kpC.rf hw fr.rf, fun q => absurd rfl q⟩⟩
  | r + 1, σ, go, W, sp, v3, v4, h, hg, hw, hsl, hsp, hl, hv0, hv1, hr, hv, hQ => by
    obtain ⟨k, l, go', m', k1, k2, k3, k4, k5⟩ := hr
    have hne := k4.some_of k3
    have e3 : v3 = k := by
      rcases hv with q | ⟨j, rfl, j1, j2, j3⟩
      · exact absurd (q.2 k k1) hne
      · rcases Nat.lt_trichotomy j k with c | c | c
        · exact absurd (k2 j c) j2
        · rw [c]
        · exact absurd (j3 k c) hne
    subst e3
    have hlf := ring_lft k4
    have hl0 : 0 < l.length := List.length_pos_iff.mpr k3
    refine t_X9_makeWalk_50 hS ⟨fun q => absurd q (by omega), fun _ => ⟨fun q => absurd q (by omega), fun _ => ⟨⟨by omega, by omega⟩, ?_⟩⟩⟩
    rw [tn_cast, hw.2.2 k k1]
    refine sp_makeRing hS hp h (hsp k k1) hg hw.1 hl k4 ?_
    intro σ1 g1 kp1 a10 a36 a37 f1 b31
    refine sp_putRing (k := k) (wl := W.length) (rl := l.length) hS (by rw [b31 7 (by decide)]; exact hw.1) a10 k1 (by omega) ?_
    intro σ2 c7 c34 c35 f2 b31'
    have F1 : fr [31, 34, 35, 36, 37, 38, 39] σ σ2 := (f1.mono (by simp)).trans (f2.mono (by simp))
    have h2 : wC σ2 G := h.ext (lo := 31) (hi := 40) (F1.R (by simp)) (by omega)
    have g2 : gnC σ2 G p go' := g1.ext (fun j => f2 38 (by decide) j) (fun j => f2 39 (by decide) j)
    have kp2 : kpC σ σ2 G p := kp1.trans (kpC.of (fun j => f2 38 (by decide) j) (fun j => f2 39 (by decide) j))
    have lf := rfr_len (gP G p) (sp.getD k 0) l
    have ls := rsp_len (gP G p) (sp.getD k 0) l
    have wl2 : (insW W (rfr (gP G p) (sp.getD k 0) l) k).length = W.length + l.length := by rw [insW_len k1, lf]
    have sl2 : (insS sp (rsp (gP G p) (sp.getD k 0) l) k).length = W.length + l.length + 1 := by rw [insS_len (by omega), ls, hsl]; omega
    have hw2 : wst σ2 G (insW W (rfr (gP G p) (sp.getD k 0) l) k) (insS sp (rsp (gP G p) (sp.getD k 0) l) k) := by
      refine ⟨by rw [c7, wl2], fun i hi => ?_, fun i hi => ?_⟩
      · rw [wl2] at hi
        rw [c34 i hi, insW_get k1, lf]
        by_cases c : i < k
        · rw [if_pos c, if_pos c, f1 34 (by decide), hw.2.1 i (by omega)]
        · rw [if_neg c, if_neg c]
          by_cases c2 : i < k + l.length
          · rw [if_pos c2, if_pos c2, a36 (i - k) (by omega)]
          · rw [if_neg c2, if_neg c2, f1 34 (by decide), hw.2.1 _ (by omega)]
      · rw [wl2] at hi
        rw [c35 i hi, insS_get (by omega), ls]
        by_cases c : i < k + 1
        · rw [if_pos c, if_pos c, f1 35 (by decide), hw.2.2 i (by omega)]
        · rw [if_neg c, if_neg c]
          by_cases c2 : i < k + 1 + l.length
          · rw [if_pos c2, if_pos c2]
            have := a37 (i - (k + 1)) (by omega)
            rw [show i - (k + 1) + 1 = i - k by omega] at this
            exact this
          · rw [if_neg c2, if_neg c2, f1 35 (by decide), hw.2.2 _ (by omega)]
    have hsp2 : ∀ i, i ≤ (insW W (rfr (gP G p) (sp.getD k 0) l) k).length → pt G ((insS sp (rsp (gP G p) (sp.getD k 0) l) k).getD i 0) = p := fun i hi => by
      rw [wl2] at hi
      rw [insS_get (by omega), ls]
      by_cases c : i < k + 1
      · rw [if_pos c]; exact hsp i (by omega)
      · rw [if_neg c]
        by_cases c2 : i < k + 1 + l.length
        · rw [if_pos c2]; exact rsp_pt hp k4 _ (by omega)
        · rw [if_neg c2]; exact hsp _ (by omega)
    have fin : ∀ v3 : Int, ((v3 = -1 ∧ ∀ j, j ≤ (insW W (rfr (gP G p) (sp.getD k 0) l) k).length → nx (gP G p) go' ((insS sp (rsp (gP G p) (sp.getD k 0) l) k).getD j 0) = none) ∨ ∃ x : Nat, v3 = x ∧ x ≤ (insW W (rfr (gP G p) (sp.getD k 0) l) k).length ∧ nx (gP G p) go' ((insS sp (rsp (gP G p) (sp.getD k 0) l) k).getD x 0) ≠ none ∧ ∀ j, j < x → nx (gP G p) go' ((insS sp (rsp (gP G p) (sp.getD k 0) l) k).getD j 0) = none) → inR (v4 + 1) ∧ AWs mX9_makeWalk 50 [(0, vR 31), (1, vI (p : Int)), (3, vI v3), (4, vI (v4 + 1))] [] S σ2 Q := fun v3 hv => by
      refine ⟨inR_s (by omega) (by omega), sp_runGo hS hp r σ2 go' _ _ v3 (v4 + 1) h2 g2 hw2 (by rw [sl2, wl2]) hsp2 (by rw [wl2]; omega) (by omega) (by rw [wl2]; omega) k5 hv ?_⟩
      intro σ3 g3 kp3 hw3 f3
      exact hQ σ3 g3 (kp2.trans kp3) hw3 (F1.trans f3)
    refine sp_firstOpenPlace hS h2 hp g2 hw2 (by rw [wl2]; omega) hsp2 (fun q => fin _ (Or.inl ⟨rfl, q⟩)) (fun x x1 x2 x3 => fin _ (Or.inr ⟨x, rfl, x1, x2, x3⟩))
theorem sp_cutOf {G : Geo} {p : Nat} (hS : SHP S) (hn : G.1 ≤ 24) (h : atR σ G) (hp : p < pcn G) (hQ : Q (cutI G p) σ) : WPs mX4_cutOf [vR 20, vI (p : Int)] S σ Q := by
  have hpn := pcn_le_n G
  have h24 := PN_24 (G := G) hn (p := p + 1) (by omega)
  obtain ⟨e1, e2⟩ := h.2.1 p hp
  have hc := cutI_in G p
  have hPN : PN G (p + 1) = PN G p + ocn G p / 2 := rfl
  refine e_X4_cutOf hS ⟨⟨by omega, by omega⟩, fun x hx => ?_⟩
  rw [tn_cast, e1] at hx
  subst hx
  refine lup (I := fun i σ' => (PN G p : Int) ≤ i ∧ i ≤ PN G (p + 1) ∧ σ' = σ ∧ (cutI G p < PN G p ∨ i ≤ cutI G p)) (W := fun i σ' => AWs mX4_cutOf 7 [(0, vR 20), (1, vI (p : Int)), (2, vI i)] [] S σ' Q) (PN G (p + 1) : Int) ?_ ?_ (PN G p : Int) σ ⟨by omega, by omega, rfl, by omega⟩
  · rintro i σ1 ⟨i0, i1, rfl, i2⟩ hge
    refine t_X4_cutOf_7 hS ⟨inR_s (by omega) (by omega), ⟨by omega, by omega⟩, ?_⟩
    rw [show ((p : Int) + 1).toNat = p + 1 from rfl, e2]
    refine ⟨fun _ => ?_, fun q => absurd hge q⟩
    rw [show (-1 : Int) = cutI G p by omega]; exact hQ
  · rintro i σ1 ⟨i0, i1, rfl, i2⟩ hlt kk
    obtain ⟨t, rfl⟩ := nat_of (show 0 ≤ i by omega)
    have ht := h.2.2.1 p t hp (by omega) (by omega)
    refine t_X4_cutOf_7 hS ⟨inR_s (by omega) (by omega), ⟨by omega, by omega⟩, ?_⟩
    rw [show ((p : Int) + 1).toNat = p + 1 from rfl, e2, tn_cast, ht]
    refine ⟨fun q => absurd q (by omega), fun _ => ⟨⟨by omega, by omega⟩, fun q => ⟨inR_s (by omega) (by omega), kk σ1 ⟨by omega, by omega, rfl, ?_⟩⟩, fun q => ?_⟩⟩
    · by_cases c : (t : Int) = cutI G p
      · rw [if_pos c] at q; omega
      · omega
    · by_cases c : (t : Int) = cutI G p
      · rw [c]; exact hQ
      · rw [if_neg c] at q; exact absurd rfl q
theorem lft_le (g : Gr) (go : Nat → Bool) : lft g go ≤ 48 := cnt_le _ 48
theorem sp_makeWalk {G : Geo} {p : Nat} (hS : SHP S) (h : wC σ G) (hp : p < pcn G) (hg : gnC σ G p noG) (hQ : ∀ σ' : StT, kpC σ σ' G p → wst σ' G (wkW G p) (wkS G p) → fr [31, 34, 35, 36, 37, 38, 39] σ σ' → Q 0 σ') : WPs mX9_makeWalk [vR 31, vI (p : Int)] S σ Q := by
  have hn := h.2.1
  have hpn := pcn_le_n G
  have hst := st_ok hp
  have hnx := nx_st hn hp
  obtain ⟨r, hr⟩ := wk_run G p
  have hlf := lft_le (gP G p) noG
  have go : ∀ v : Int, v = stG G p → AWs mX9_makeWalk 50 [(0, vR 31), (1, vI (p : Int)), (3, vI 0), (4, vI 0)] [] S (up2 (up2 σ 31 7 0) 35 0 v) Q := fun v hv => by
    have F : fr [31, 34, 35, 36, 37, 38, 39] σ (up2 (up2 σ 31 7 0) 35 0 v) := (fr.rf.put (by simp)).put (by simp)
    refine sp_runGo (goF := wkG G p) (WF := wkW G p) (spF := wkS G p) hS hp r _ noG [] [stG G p] 0 0 (h.ext (lo := 31) (hi := 40) (F.R (by simp)) (by omega)) (hg.ext (fun j => by rw [up2_a (by decide), up2_a (by decide)]) (fun j => by rw [up2_a (by decide), up2_a (by decide)])) ⟨by rw [up2_a (by decide), up2_s]; rfl, fun k hk => absurd hk (by simp), fun k hk => ?_⟩ rfl (fun k hk => ?_) (by simpa using hlf) (by omega) (by simp) hr (Or.inr ⟨0, rfl, by simp, hnx, fun j hj => by omega⟩) ?_
    · have : k = 0 := by simpa using hk
      subst this; rw [up2_s, hv]; rfl
    · have : k = 0 := by simpa using hk
      subst this; exact hst.2
    · intro σ3 g3 kp3 hw3 f3
      exact hQ σ3 ((kpC.of (fun j => by rw [up2_a (by decide), up2_a (by decide)]) (fun j => by rw [up2_a (by decide), up2_a (by decide)])).trans kp3) hw3 (F.trans f3)
  have hc := cutI_in G p
  have hPN : PN G (p + 1) = PN G p + ocn G p / 2 := rfl
  have hmo := PN_mono G (show p + 1 ≤ pcn G by omega)
  have h24 := PN_24 (G := G) hn (p := p + 1) (by omega)
  refine e_X9_makeWalk hS (sp_cutOf hS hn h.2.2.2 hp ⟨fun q => ?_, fun q => ?_⟩)
  · obtain ⟨c, hcc⟩ := nat_of (show 0 ≤ cutI G p by omega)
    have pr := (h.pr (i := c) (by omega)).1
    rw [hcc, tn_cast, pr]
    refine ⟨⟨by omega, by omega⟩, go _ ?_⟩
    unfold stG
    rw [if_neg q, hcc, tn_cast]
  · refine e_X3_firstMeeting hS isM_a ⟨⟨by omega, by omega⟩, ?_⟩
    refine go _ ?_
    have := h.2.2.1.2.1.2.2 p hp
    rw [up2_a (by decide), tn_cast]
    unfold stG
    rw [if_pos q]; exact this
end WALKD
