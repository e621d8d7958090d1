/-! Trails: the whole of gather -/
theorem wk_stp {G : Geo} {p k : Nat} (hn : G.1 ≤ 24) (hp : p < pcn G) (hk : k < (wkW G p).length) (hs : isS ((wkW G p).getD k (0, 0)) = true) : stp G ((wkW G p).getD k (0, 0)) := by
  obtain ⟨⟨⟨c1, c2⟩, h2, h3, h4, h5, h6, h7⟩, -, -⟩ := wk_ok hn hp
  obtain ⟨a1, a2, a3⟩ := c2 k hk
  have hx : eX G p ((wkW G p).getD k (0, 0)).2 = true := (h7 _ (gd_eds hk)).2.1
  have h24 : ((wkW G p).getD k (0, 0)).2 < 24 := by unfold isS at hs; simpa using hs
  refine ⟨(eX_st hx h24).1, ?_⟩
  rw [a1]
  have ea : (gP G p).2.1 ((wkW G p).getD k (0, 0)).2 = mt G (2 * ((wkW G p).getD k (0, 0)).2) := by
    show eA G _ = _
    unfold eA; rw [if_pos h24]
  have eb : (gP G p).2.2 ((wkW G p).getD k (0, 0)).2 = mt G (2 * ((wkW G p).getD k (0, 0)).2 + 1) := by
    show eB G _ = _
    unfold eB; rw [if_pos h24]
  rw [ea, eb] at a3; exact a3
theorem flat_ts {G : Geo} {p k : Nat} (hk : k < (wkW G p).length) (hs : isS ((wkW G p).getD k (0, 0)) = true) : flat (tk G p (k + 1)).1 = flat (tk G p k).1 ++ [(wkW G p).getD k (0, 0)] := by
  rw [flat_tk (by omega), flat_tk (by omega), take_sn (d := (0, 0)) hk, List.filter_append, List.filter_cons_of_pos hs, List.filter_nil, List.append_assoc]
theorem tk_nd {G : Geo} {p k : Nat} (hn : G.1 ≤ 24) (hp : p < pcn G) (hk : k < (wkW G p).length) (hs : isS ((wkW G p).getD k (0, 0)) = true) : (∀ x ∈ flat (tk G p k).1, x.2 ≠ ((wkW G p).getD k (0, 0)).2) ∧ (flat (tk G p k).1).length < G.1 := by
  have e := flat_ts hk hs
  have hl := TR_le hn hp (show k + 1 ≤ (wkW G p).length by omega)
  have hnd : ((flat (tk G p (k + 1)).1).map (fun q => q.2)).Nodup := by
    have h1 := (flat_len (G := G) (P := p + 1) hn (by omega)).2
    rw [tk_end, flat_tk (Nat.le_refl _), List.take_length] at h1
    rw [flat_tk (by omega)]
    refine List.Sublist.nodup (List.Sublist.map _ ?_) h1
    exact List.Sublist.append (List.Sublist.refl _) (List.Sublist.filter isS (List.take_sublist (k + 1) (wkW G p)))
  rw [e] at hnd hl
  rw [List.map_append, List.nodup_append] at hnd
  refine ⟨fun x hx => hnd.2.2 x.2 (List.mem_map.mpr ⟨x, hx, rfl⟩) _ (by simp), ?_⟩
  rw [List.length_append, List.length_singleton] at hl; omega
theorem okT_k {G : Geo} {p k : Nat} (hk : k ≤ (wkW G p).length) : okT (tk G p k).1 := okT_tk (okT_TR G p) hk
section TRD
variable {S : ShT} {σ : StT} {Q : Int → StT → Prop}
theorem sp_waysIn {G : Geo} {p : Nat} (hS : SHP S) (hn : G.1 ≤ 24) (hw : atW σ G) (hp : p < pcn G) (hQ : Q ((wkW G p).length : Int) σ) : WPs mX9_waysIn [vR 31, vI (p : Int)] S σ Q := by
  have hpn := pcn_le_n G
  have h1 := hw.1 p (by omega)
  have h2 := hw.1 (p + 1) (by omega)
  have hsl := WA_sl G p
  have hl := WA_len (G := G) (P := p + 1) hn (by omega)
  refine e_X9_waysIn hS ?_
  rw [show ((p : Int) + 1).toNat = p + 1 from rfl, tn_cast, h1, h2, hsl]
  refine ⟨inR_s (by omega) (by omega), ⟨by omega, by omega⟩, ⟨by omega, by omega⟩, inR_s (by omega) (by omega), ?_⟩
  rw [show (((WA G p).length + (wkW G p).length : Nat) : Int) - ((WA G p).length : Int) = ((wkW G p).length : Int) by omega]
  exact hQ
theorem sp_wayOf {G : Geo} {p k : Nat} (hS : SHP S) (hn : G.1 ≤ 24) (hw : atW σ G) (hp : p < pcn G) (hk : k < (wkW G p).length) (hQ : Q (wcd G ((wkW G p).getD k (0, 0))) σ) : WPs mX9_wayOf [vR 31, vI (p : Int), vI (k : Int)] S σ Q := by
  have hpn := pcn_le_n G
  have h1 := hw.1 p (by omega)
  have hsl := WA_sl G p
  have hl := WA_len (G := G) (P := p + 1) hn (by omega)
  have hm := WA_mono (G := G) (show p + 1 ≤ pcn G by omega)
  have h2 := hw.2 ((WA G p).length + k) (by omega)
  rw [(WA_pre (p := p + 1) (by omega) (by omega)).1, WA_at] at h2
  refine e_X9_wayOf hS ?_
  rw [tn_cast, h1, show (((WA G p).length : Int) + (k : Int)).toNat = (WA G p).length + k by omega, h2]
  exact ⟨⟨by omega, by omega⟩, inR_s (by omega) (by omega), ⟨by omega, by omega⟩, hQ⟩
theorem sp_tgather {G : Geo} (hS : SHP S) (h : wT σ G) (hw : atW σ G) (hQ : ∀ σ' : StT, atT σ' G (TR G (pcn G)) → frR 40 49 σ σ' → Q 0 σ') : WPs mX8_gather [vR 40] S σ Q := by
  have hn : G.1 ≤ 24 := h.2.2.1.1
  have hpn := pcn_le_n G
  refine e_X8_gather hS ?_
  refine lup (I := fun p σ' => 0 ≤ p ∧ p ≤ (pcn G : Int) ∧ frR 40 49 σ σ' ∧ atT σ' G (TR G p.toNat)) (W := fun p σ' => AWs mX8_gather 12 [(0, vR 40), (1, vI p)] [] S σ' Q) (pcn G : Int) ?_ ?_ 0 _ ⟨by omega, by omega, (frR.rf.put (by omega) (by omega)).put (by omega) (by omega), ?_⟩
  · rintro p σ1 ⟨p0, p1, p2, p3⟩ hge
    have ep : p = (pcn G : Int) := by omega
    subst ep
    have hpa : σ1 (7 + 5) 2 = (pcn G : Int) := (h.ext p2 (by omega)).2.2.2.2.1.1
    exact t_X8_gather_12 hS (e_X3_parts hS isM_a ⟨fun _ => hQ σ1 p3 p2, fun q => absurd (by rw [hpa]; omega) q⟩)
  · rintro p σ1 ⟨p0, p1, p2, p3⟩ hlt kk
    obtain ⟨p, rfl⟩ := nat_of p0
    rw [tn_cast] at p3
    have hp : p < pcn G := by omega
    have hpa : σ1 (7 + 5) 2 = (pcn G : Int) := (h.ext p2 (by omega)).2.2.2.2.1.1
    refine t_X8_gather_12 hS (e_X3_parts hS isM_a ⟨fun q => absurd q (by rw [hpa]; omega), fun _ => ?_⟩)
    have hl48 := WA_len (G := G) (P := p + 1) hn (by omega)
    have hsl := WA_sl G p
    refine lupg (α := Int × StT) (I := fun k x => 0 ≤ k ∧ k ≤ (wkW G p).length ∧ x.1 = (if (tk G p k.toNat).2 = true then 1 else 0) ∧ frR 40 49 σ x.2 ∧ atT x.2 G (tk G p k.toNat).1) (W := fun k x => AWs mX8_gather 27 [(0, vR 40), (1, vI (p : Int)), (2, vI x.1), (3, vI k)] [] S x.2 Q) ((wkW G p).length : Int) ?_ ?_ 0 (0, σ1) ⟨by omega, by omega, rfl, p2, p3⟩
    · rintro k ⟨v2, σ2⟩ ⟨k0, k1, k2, k3, k4⟩ hge2
      have ek : k = ((wkW G p).length : Int) := by omega
      subst ek
      refine t_X8_gather_27 hS (sp_waysIn hS hn (hw.ext (fun j => k3 33 (by omega) j) (fun j => k3 32 (by omega) j)) hp ⟨fun _ => ⟨inR_s (by omega) (by omega), kk σ2 ⟨by omega, by omega, k3, ?_⟩⟩, fun q => absurd hge2 q⟩)
      rw [show ((p : Int) + 1).toNat = p + 1 from rfl, tk_end]; exact k4
    · rintro k ⟨v2, σ2⟩ ⟨k0, k1, k2, k3, k4⟩ hlt2 kk2
      obtain ⟨k, rfl⟩ := nat_of k0
      simp only [tn_cast] at k2 k3 k4
      have hk : k < (wkW G p).length := by omega
      have hw2 : atW σ2 G := hw.ext (fun j => k3 33 (by omega) j) (fun j => k3 32 (by omega) j)
      have h2 : wT σ2 G := h.ext k3 (by omega)
      have hst := tk_s (G := G) (p := p) hk
      have op := tk_op (G := G) (p := p) (k := k) (by omega)
      refine t_X8_gather_27 hS (sp_waysIn hS hn hw2 hp ⟨fun q => absurd q (by omega), fun _ => sp_wayOf hS hn hw2 hp hk (e_X9_isHop hS ⟨fun q => ⟨fun _ => ?_, fun q => absurd rfl q⟩, fun q => ⟨fun q => by omega, fun _ => ?_⟩⟩)⟩)
      · have hs : isS ((wkW G p).getD k (0, 0)) = true := by
          unfold isS
          by_cases c : ((wkW G p).getD k (0, 0)).2 < 24
          · simpa using c
          · obtain ⟨i, hi⟩ : ∃ i, ((wkW G p).getD k (0, 0)).2 = 24 + i := ⟨((wkW G p).getD k (0, 0)).2 - 24, by omega⟩
            have : wcd G ((wkW G p).getD k (0, 0)) = -3 - (i : Int) := by
              have := wcd_h (G := G) (m := ((wkW G p).getD k (0, 0)).1) (i := i)
              rw [← hi] at this; exact this
            omega
        have hstp := wk_stp hn hp hk hs
        obtain ⟨nd1, nd2⟩ := tk_nd hn hp hk hs
        have hlT := okT_len (okT_k (G := G) (p := p) (k := k) (by omega))
        have fin : ∀ σ3 : StT, atT σ3 G (tk G p (k + 1)).1 → (tk G p (k + 1)).2 = true → frR 40 49 σ σ3 → inR ((k : Int) + 1) ∧ AWs mX8_gather 27 [(0, vR 40), (1, vI (p : Int)), (2, vI 1), (3, vI ((k : Int) + 1))] [] S σ3 Q := fun σ3 a1 a2 a3 => ⟨inR_s (by omega) (by omega), kk2 (1, σ3) ⟨by omega, by omega, by rw [show ((k : Int) + 1).toNat = k + 1 from rfl, a2]; rfl, a3, by rw [show ((k : Int) + 1).toNat = k + 1 from rfl]; exact a1⟩⟩
        unfold tstep at hst
        rw [if_pos hs] at hst
        refine ⟨fun c => ?_, fun c => ?_⟩
        · have o : (tk G p k).2 = true := by
            cases d : (tk G p k).2 with
            | true => rfl
            | false => exact absurd (k2.trans (if_neg (by rw [d]; simp))) c
          rw [if_pos o] at hst
          obtain ⟨T, l, e, ne⟩ := op o
          rw [e] at k4 nd1 nd2 hlT
          simp only [List.length_append, List.length_singleton] at hlT
          refine sp_putStroke hS h2 k4 (by omega) (by omega) hstp (fun q => absurd q ne) nd1 ?_
          intro σ3 a1 a2
          refine fin σ3 ?_ (by rw [hst]) (k3.trans a2)
          rw [hst]
          show atT σ3 G (extT (tk G p k).1 _)
          rw [e, extT_sn]; exact a1
        · have o : ¬ (tk G p k).2 = true := fun d => absurd (c.symm.trans (k2.trans (if_pos d))) (by decide)
          rw [if_neg o] at hst
          refine sp_open (p := p) hS h2 k4 (by omega) hstp ?_
          intro σ3 a1 a2 a3
          refine sp_putStroke (l := []) hS (h2.ext a3 (by omega)) a1 (by omega) (by rw [flat_app, flat_one, List.append_nil]; omega) hstp (fun _ => a2) (by rw [flat_app, flat_one, List.append_nil]; exact nd1) ?_
          intro σ4 b1 b2
          exact fin σ4 (by rw [hst]; exact b1) (by rw [hst]) ((k3.trans a3).trans b2)
      · have hs : ¬ isS ((wkW G p).getD k (0, 0)) = true := fun c => by
          unfold isS at c
          have c : ((wkW G p).getD k (0, 0)).2 < 24 := by simpa using c
          rcases wcd_st (G := G) (m := ((wkW G p).getD k (0, 0)).1) c with d | d <;> (have d' : wcd G ((wkW G p).getD k (0, 0)) = _ := d; omega)
        unfold tstep at hst
        rw [if_neg hs] at hst
        refine ⟨inR_s (by omega) (by omega), kk2 (0, σ2) ⟨by omega, by omega, ?_, k3, ?_⟩⟩
        · rw [show ((k : Int) + 1).toNat = k + 1 from rfl, hst]; rfl
        · rw [show ((k : Int) + 1).toNat = k + 1 from rfl, hst]; exact k4
  · refine ⟨by rw [up2_i (by decide), up2_s]; rfl, by rw [up2_s]; rfl, fun T0 a T1 e => ?_⟩
    have : (TR G 0) = [] := rfl
    rw [show (0 : Int).toNat = 0 from rfl, this] at e
    exact absurd e (by simp)
end TRD
