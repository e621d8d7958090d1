/-! Model: a part's walk -/
theorem nx_grow {g : Gr} {go go' : Nat → Bool} {m : Nat} (h : nx g go m = none) (hg : ∀ e, go e = true → go' e = true) : nx g go' m = none := by
  have h1 := fst1_none h
  refine fst1_no (fun y hy => ?_)
  have := h1 y hy
  cases c : go y
  · simp [c] at this
    by_cases d : g.1 y = true
    · have := this d; simp [d, this]
    · simp [d]
  · have := hg y c; simp [this]
section MWALK
variable {S : ShT} {σ : StT} {Q : Int → StT → Prop}
theorem m_walkGo {G : Geo} {p : Nat} {goF : Nat → Bool} {WF : List (Nat × Nat)} {spF : List Nat} (hS : SHP S) (hp : p < pcn G) : ∀ (f r k : Nat) (σ : StT) (go : Nat → Bool) (W : List (Nat × Nat)) (sp : List Nat), r * 50 + (W.length + 1 - k) < f → k ≤ W.length + 1 → wM σ G → gnM σ G p go → wsM σ G W sp → sp.length = W.length + 1 → (∀ j, j ≤ W.length → pt G (sp.getD j 0) = p) → W.length + lft (gP G p) go ≤ 48 → isRun (gP G p) r go W sp goF WF spF →
    (∀ j, j < k → nx (gP G p) go (sp.getD j 0) = none) →
    (∀ σ' : StT, gnM σ' G p goF → kpM σ σ' G p → wsM σ' G WF spF → fr [125, 141, 142, 143, 144, 145, 146] σ σ' → (∀ j, j ≠ 40 → σ' 125 j = σ 125 j) → Q 0 σ') → AWs mX11_walksPart 77 [(0, vR 125), (3, vI (k : Int))] [] S σ Q
  | 0, r, k, σ, go, W, sp, hf, _, _, _, _, _, _, _, _, _, _ => absurd hf (by omega)
  | f + 1, r, k, σ, go, W, sp, hf, hk, h, hg, hw, hsl, hsp, hl, hr, hN, hQ => by
    refine t_X11_walksPart_77 hS ?_
    rw [hw.1]
    refine ⟨fun q => ?_, fun q => ⟨⟨by omega, by omega⟩, ?_⟩⟩
    · cases r with
      | zero =>
        obtain ⟨-, rfl, rfl, rfl⟩ := hr
        exact hQ σ hg kpM.rf hw fr.rf (fun _ _ => rfl)
      | succ r =>
        obtain ⟨k', l, go', m', k1, k2, k3, k4, k5⟩ := hr
        exact absurd (hN k' (by omega)) (k4.some_of k3)
    · have hk' : k ≤ W.length := by omega
      rw [tn_cast, hw.2.2 k hk']
      refine m_nextWay hS h hp (hsp k hk') hg ?_
      cases hn : nx (gP G p) go (sp.getD k 0) with
      | none =>
        rw [nxv_n hn]
        refine ⟨fun _ => ⟨inR_s (by omega) (by omega), ?_⟩, fun q => absurd rfl q⟩
        refine m_walkGo hS hp f r (k + 1) σ go W sp (by omega) (by omega) h hg hw hsl hsp hl hr (fun j hj => ?_) hQ
        by_cases e : j = k
        · rw [e]; exact hn
        · exact hN j (by omega)
      | some e =>
        rw [nxv_s hn]
        refine ⟨fun q => absurd q wcd_ne.2.1, fun _ => ?_⟩
        cases r with
        | zero => exact absurd (hr.1 k hk') (by rw [hn]; simp)
        | succ r =>
          obtain ⟨k', l, go', m', k1, k2, k3, k4, k5⟩ := hr
          have hne := k4.some_of k3
          have ek : k' = k := by
            rcases Nat.lt_trichotomy k' k with c | c | c
            · exact absurd (hN k' c) hne
            · exact c
            · exact absurd (k2 k c) (by rw [hn]; simp)
          subst ek
          have hlf := ring_lft k4
          have lf := rfr_len (gP G p) (sp.getD k' 0) l
          have ls := rsp_len (gP G p) (sp.getD k' 0) l
          have wl2 : (insW W (rfr (gP G p) (sp.getD k' 0) l) k').length = W.length + l.length := by rw [insW_len k1, lf]
          have sl2 : (insS sp (rsp (gP G p) (sp.getD k' 0) l) k').length = W.length + l.length + 1 := by rw [insS_len (by omega), ls, hsl]; omega
          refine m_goesFrom hS hp h hg hw hsl k1 (hsp k' k1) hl k4 k3 ?_
          intro σ2 g2 kp2 hw2 f2 b2
          refine m_walkGo hS hp f r k' σ2 go' _ _ (by rw [wl2]; omega) (by rw [wl2]; omega) (h.ext (fun b b1 b2 => f2 b (by simp; omega)) (fun j a _ => b2 j a)) g2 hw2 (by rw [sl2, wl2]) (fun i hi => ?_) (by rw [wl2]; omega) k5 (fun j hj => ?_) ?_
          · rw [wl2] at hi
            rw [insS_get (by omega), ls]
            by_cases c : i < k' + 1
            · rw [if_pos c]; exact hsp i (by omega)
            · rw [if_neg c]
              by_cases c2 : i < k' + 1 + l.length
              · rw [if_pos c2]; exact rsp_pt hp k4 _ (by omega)
              · rw [if_neg c2]; exact hsp _ (by omega)
          · rw [insS_get (by omega), if_pos (by omega)]
            exact nx_grow (k2 j hj) (fun e he => by rw [(ring_go k4).1 e, he]; rfl)
          · intro σ3 g3 kp3 hw3 f3 b3
            exact hQ σ3 g3 (kp2.trans kp3) hw3 (f2.trans f3) (fun j hj => by rw [b3 j hj, b2 j hj])
theorem fm_is {G : Geo} {p k : Nat} (hp : p < pcn G) (hk : k < mcn G) (hkp : pt G k = p) (hm : ∀ j, j < k → pt G j ≠ p) : fm G p = k := by
  obtain ⟨a, b⟩ := fm_ok hp
  have := fm_le hk
  rw [hkp] at this
  rcases Nat.lt_trichotomy (fm G p) k with d | d | d
  · exact absurd b (hm _ d)
  · exact d
  · omega
theorem m_walksPart {G : Geo} {p : Nat} (hS : SHP S) (h : wM σ G) (hp : p < pcn G) (hg : gnM σ G p noG) (hQ : ∀ σ' : StT, kpM σ σ' G p → wsM σ' G (wkW G p) (wkS G p) → fr [125, 141, 142, 143, 144, 145, 146] σ σ' → (∀ j, j ≠ 40 → σ' 125 j = σ 125 j) → Q 0 σ') : WPs mX11_walksPart [vR 125, vI (p : Int)] S σ Q := by
  have hn := h.2.1
  have hpn := pcn_le_n G
  have hmn := mcn_le G
  have hst := st_ok hp
  obtain ⟨r, hr⟩ := wk_run G p
  have hlf := lft_le (gP G p) noG
  have e138 := h.2.2.2.2.2 p hp
  have hc := cutI_in G p
  have hPN : PN G (p + 1) = PN G p + ocn G p / 2 := rfl
  have hmo := PN_mono G (show p + 1 ≤ pcn G by omega)
  have h24 := PN_24 (G := G) hn (p := p + 1) (by omega)
  have go : ∀ v : Int, v = stG G p → AWs mX11_walksPart 63 [(0, vR 125), (2, vI v)] [] S σ Q := fun v hv => by
    have F : fr [125, 141, 142, 143, 144, 145, 146] σ (up2 (up2 σ 125 40 0) 144 0 v) := (fr.rf.put (by simp)).put (by simp)
    have B : ∀ j, j ≠ 40 → (up2 (up2 σ 125 40 0) 144 0 v) 125 j = σ 125 j := fun j hj => by rw [up2_a (by decide), up2_i hj]
    refine t_X11_walksPart_63 hS ?_
    refine m_walkGo (goF := wkG G p) (WF := wkW G p) (spF := wkS G p) hS hp (r * 50 + 2) r 0 _ noG [] [stG G p] (by simp) (by simp) (h.ext (fun b b1 b2 => F b (by simp; omega)) (fun j a _ => B j a)) (hg.ext (fun j => by rw [up2_a (by decide), up2_a (by decide)]) (fun j => by rw [up2_a (by decide), up2_a (by decide)])) ⟨by rw [up2_a (by decide), up2_s]; rfl, fun k hk => absurd hk (by simp), fun k hk => ?_⟩ rfl (fun k hk => ?_) (by simpa using hlf) hr (fun j hj => by omega) ?_
    · have : k = 0 := by simpa using hk
      subst this; rw [up2_s, hv]; rfl
    · have : k = 0 := by simpa using hk
      subst this; exact hst.2
    · intro σ3 g3 kp3 hw3 f3 b3
      exact hQ σ3 ((kpM.of (fun j => by rw [up2_a (by decide), up2_a (by decide)]) (fun j => by rw [up2_a (by decide), up2_a (by decide)])).trans kp3) hw3 (F.trans f3) (fun j hj => by rw [b3 j hj, B j hj])
  have e26 := h.2.2.1.1
  refine e_X11_walksPart hS ?_
  rw [tn_cast, e138]
  refine ⟨⟨by omega, by omega⟩, fun q => ?_, fun q => ?_⟩
  · obtain ⟨c, hcc⟩ := nat_of (show 0 ≤ cutI G p by omega)
    have pr := (h.pr (i := c) (by omega)).1
    refine ⟨⟨by omega, by omega⟩, ⟨by omega, by omega⟩, fun x hx => ?_⟩
    rw [hcc, tn_cast, pr] at hx
    have hx2 : x = stG G p := by
      rw [hx]; unfold stG
      rw [if_neg q, hcc, tn_cast]
    have hx3 : ¬ x = -1 := by omega
    refine t_X11_walksPart_28 hS ?_
    exact ⟨fun _ => go x hx2, fun _ => ⟨fun _ => go x hx2, fun q => absurd q hx3⟩⟩
  · obtain ⟨f1, f2⟩ := fm_ok hp
    have f3 : ∀ j, j < fm G p → pt G j ≠ p := fun j hj e => by
      have := fm_le (G := G) (m := j) (by omega)
      rw [e] at this; omega
    have est : stG G p = fm G p := by unfold stG; rw [if_pos q]
    have main : ∀ (d k : Nat), fm G p + 1 - k = d → k ≤ fm G p → AWs mX11_walksPart 28 [(0, vR 125), (1, vI (p : Int)), (2, vI (-1)), (3, vI (k : Int))] [] S σ Q := by
      intro d
      induction d with
      | zero => intro k hd hk; omega
      | succ d ih =>
        intro k hd hk
        refine t_X11_walksPart_28 hS ?_
        rw [e26, tn_cast]
        refine ⟨fun q => absurd q (by omega), fun _ => ⟨fun q => absurd rfl q, fun _ => ?_⟩⟩
        rw [(h.2.2.1.2.2.2 k (by omega)).2.2]
        refine ⟨⟨by omega, by omega⟩, fun q => ⟨inR_s (by omega) (by omega), ?_⟩, fun q => ⟨inR_s (by omega) (by omega), ?_⟩⟩
        · have : k ≠ fm G p := fun e => q (by rw [e, f2])
          exact ih (k + 1) (by omega) (by omega)
        · have : k = fm G p := by
            by_cases c : k < fm G p
            · exact absurd (by omega) (f3 k c)
            · omega
          have e3 : ((k : Nat) : Int) = stG G p := by rw [est, this]
          refine t_X11_walksPart_28 hS ?_
          exact ⟨fun _ => go _ e3, fun _ => ⟨fun _ => go _ e3, fun q => absurd q (by omega)⟩⟩
    exact main _ 0 rfl (by omega)
end MWALK
