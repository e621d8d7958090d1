/-! Meetings, Pairing: what they count -/
section TOPA
variable {S : ShT} {σ : StT} {Q : Int → StT → Prop} {m dr : Nat} {G : Geo}
theorem sp_meetingsIn {p : Nat} (hS : SHP S) (hm : isM m dr) (hn : G.1 ≤ 24) (h : atM σ m G) (hQ : Q (cnt (fun k => decide (pt G k = p)) (mcn G) : Int) σ) : WPs mX3_meetingsIn [vR m, vI (p : Int)] S σ Q := by
  have hml := mcn_le G
  refine e_X3_meetingsIn hS hm ?_
  refine lupg (α := Int) (I := fun i x => 0 ≤ i ∧ i ≤ (mcn G : Int) ∧ x = (cnt (fun k => decide (pt G k = p)) i.toNat : Int)) (W := fun i x => AWs mX3_meetingsIn 4 [(0, vR m), (1, vI (p : Int)), (2, vI x), (3, vI i)] [] S σ Q) (mcn G : Int) ?_ ?_ 0 0 ⟨by omega, by omega, rfl⟩
  · rintro i x ⟨i0, i1, rfl⟩ hge
    have ei : i = (mcn G : Int) := by omega
    subst ei
    refine t_X3_meetingsIn_4 hS hm ?_
    rw [h.1.1]
    exact ⟨fun _ => hQ, fun q => absurd hge q⟩
  · rintro i x ⟨i0, i1, rfl⟩ hlt kk
    obtain ⟨i, rfl⟩ := nat_of i0
    rw [tn_cast]
    have hc := cnt_le (fun k => decide (pt G k = p)) i
    refine t_X3_meetingsIn_4 hS hm ?_
    rw [h.1.1]
    refine ⟨fun q => absurd q (by omega), fun _ => e_X3_partOf hS hm ⟨⟨by omega, by omega⟩, ?_⟩⟩
    rw [tn_cast, h.2.1.2.1 i (by omega)]
    refine ⟨fun q => ⟨inR_s (by omega) (by omega), kk _ ⟨by omega, by omega, ?_⟩⟩, fun q => ⟨inR_s (by omega) (by omega), inR_s (by omega) (by omega), kk _ ⟨by omega, by omega, ?_⟩⟩⟩
    · rw [show ((i : Int) + 1).toNat = i + 1 from rfl, cnt_s, if_neg (by simp; omega)]; rfl
    · rw [show ((i : Int) + 1).toNat = i + 1 from rfl, cnt_s, if_pos (by simp; omega)]; rfl
theorem sp_strokesIn {p : Nat} (hS : SHP S) (hm : isM m dr) (hn : G.1 ≤ 24) (h : atM σ m G) (hd : σ dr 2 = G.1) (hQ : Q (cnt (fun s => decide (pt G (mt G (2 * s)) = p)) G.1 : Int) σ) : WPs mX3_strokesIn [vR m, vI (p : Int)] S σ Q := by
  have hml := mcn_le G
  refine e_X3_strokesIn hS hm ?_
  refine lupg (α := Int) (I := fun i x => 0 ≤ i ∧ i ≤ (G.1 : Int) ∧ x = (cnt (fun s => decide (pt G (mt G (2 * s)) = p)) i.toNat : Int)) (W := fun i x => AWs mX3_strokesIn 4 [(0, vR m), (1, vI (p : Int)), (2, vI x), (3, vI i)] [] S σ Q) (G.1 : Int) ?_ ?_ 0 0 ⟨by omega, by omega, rfl⟩
  · rintro i x ⟨i0, i1, rfl⟩ hge
    have ei : i = (G.1 : Int) := by omega
    subst ei
    refine t_X3_strokesIn_4 hS hm ?_
    rw [hd]
    exact ⟨fun _ => hQ, fun q => absurd hge q⟩
  · rintro i x ⟨i0, i1, rfl⟩ hlt kk
    obtain ⟨i, rfl⟩ := nat_of i0
    rw [tn_cast]
    have hc := cnt_le (fun s => decide (pt G (mt G (2 * s)) = p)) i
    have hmt := mt_lt (G := G) (e := 2 * i) (by omega)
    refine t_X3_strokesIn_4 hS hm ?_
    rw [hd]
    refine ⟨fun q => absurd q (by omega), fun _ => ⟨inR_s (by omega) (by omega), e_X3_of hS hm ⟨⟨by omega, by omega⟩, ?_⟩⟩⟩
    rw [show (2 * (i : Int)).toNat = 2 * i by omega, h.1.2.1 (2 * i) (by omega)]
    refine e_X3_partOf hS hm ⟨⟨by omega, by omega⟩, ?_⟩
    rw [tn_cast, h.2.1.2.1 _ hmt]
    refine ⟨fun q => ⟨inR_s (by omega) (by omega), kk _ ⟨by omega, by omega, ?_⟩⟩, fun q => ⟨inR_s (by omega) (by omega), inR_s (by omega) (by omega), kk _ ⟨by omega, by omega, ?_⟩⟩⟩
    · rw [show ((i : Int) + 1).toNat = i + 1 from rfl, cnt_s, if_neg (by simp; omega)]; rfl
    · rw [show ((i : Int) + 1).toNat = i + 1 from rfl, cnt_s, if_pos (by simp; omega)]; rfl
theorem sm_bd {f : Nat → Nat} {b : Nat} (h : ∀ i, f i ≤ b) : ∀ n, sm f n ≤ b * n
  | 0 => by simp [sm]
  | n + 1 => by
    have := sm_bd h n
    have := h n
    show sm f n + f n ≤ b * (n + 1)
    rw [Nat.mul_add]; omega
theorem ocn_le (G : Geo) (p : Nat) : ocn G p ≤ mcn G := cnt_le _ _
theorem sp_odds (hS : SHP S) (hm : isM m dr) (hn : G.1 ≤ 24) (h : atM σ m G) (hQ : Q (sm (ocn G) (pcn G) : Int) σ) : WPs mX3_odds [vR m] S σ Q := by
  have hml := mcn_le G
  have hpn := pcn_le_n G
  refine e_X3_odds hS hm ?_
  refine lupg (α := Int) (I := fun i x => 0 ≤ i ∧ i ≤ (pcn G : Int) ∧ x = (sm (ocn G) i.toNat : Int)) (W := fun i x => AWs mX3_odds 4 [(0, vR m), (1, vI x), (2, vI i)] [] S σ Q) (pcn G : Int) ?_ ?_ 0 0 ⟨by omega, by omega, rfl⟩
  · rintro i x ⟨i0, i1, rfl⟩ hge
    have ei : i = (pcn G : Int) := by omega
    subst ei
    refine t_X3_odds_4 hS hm ?_
    rw [h.2.1.1]
    exact ⟨fun _ => hQ, fun q => absurd hge q⟩
  · rintro i x ⟨i0, i1, rfl⟩ hlt kk
    obtain ⟨i, rfl⟩ := nat_of i0
    have hb := sm_bd (f := ocn G) (b := 48) (fun i => Nat.le_trans (ocn_le G i) (by omega)) i
    have hb2 := ocn_le G i
    refine t_X3_odds_4 hS hm ?_
    rw [h.2.1.1, tn_cast, h.2.2.2 i (by omega)]
    refine ⟨fun q => absurd q (by omega), fun _ => ⟨⟨by omega, by omega⟩, inR_s (by omega) (by omega), fun y hy => ⟨inR_s (by omega) (by omega), kk y ⟨by omega, by omega, ?_⟩⟩⟩⟩
    rw [hy]; rfl
theorem nTr_le (G : Geo) (hn : G.1 ≤ 24) (p : Nat) : nTr G p ≤ 24 := by
  have := ocn_le G p
  have := mcn_le G
  unfold nTr; omega
theorem sp_trailsIn {p : Nat} (hS : SHP S) (hm : isM m dr) (hn : G.1 ≤ 24) (h : atM σ m G) (hp : p < pcn G) (hQ : Q (nTr G p : Int) σ) : WPs mX3_trailsIn [vR m, vI (p : Int)] S σ Q := by
  have hpn := pcn_le_n G
  refine e_X3_trailsIn hS hm ?_
  rw [tn_cast, h.2.2.2 p hp]
  refine ⟨⟨by omega, by omega⟩, by omega, ?_⟩
  rw [show max (1 : Int) ((ocn G p : Int) / 2) = (nTr G p : Int) by unfold nTr; omega]
  exact hQ
theorem sp_trailsInAll (hS : SHP S) (hm : isM m dr) (hn : G.1 ≤ 24) (h : atM σ m G) (hQ : Q (sm (nTr G) (pcn G) : Int) σ) : WPs mX3_trailsInAll [vR m] S σ Q := by
  have hpn := pcn_le_n G
  refine e_X3_trailsInAll hS hm ?_
  refine lupg (α := Int) (I := fun i x => 0 ≤ i ∧ i ≤ (pcn G : Int) ∧ x = (sm (nTr G) i.toNat : Int)) (W := fun i x => AWs mX3_trailsInAll 4 [(0, vR m), (1, vI x), (2, vI i)] [] S σ Q) (pcn G : Int) ?_ ?_ 0 0 ⟨by omega, by omega, rfl⟩
  · rintro i x ⟨i0, i1, rfl⟩ hge
    have ei : i = (pcn G : Int) := by omega
    subst ei
    refine t_X3_trailsInAll_4 hS hm ?_
    rw [h.2.1.1]
    exact ⟨fun _ => hQ, fun q => absurd hge q⟩
  · rintro i x ⟨i0, i1, rfl⟩ hlt kk
    obtain ⟨i, rfl⟩ := nat_of i0
    have hb := sm_bd (f := nTr G) (b := 24) (nTr_le G hn) i
    have hb2 := nTr_le G hn i
    refine t_X3_trailsInAll_4 hS hm ?_
    rw [h.2.1.1, tn_cast]
    refine ⟨fun q => absurd q (by omega), fun _ => sp_trailsIn hS hm hn h (by omega) ⟨inR_s (by omega) (by omega), inR_s (by omega) (by omega), kk _ ⟨by omega, by omega, rfl⟩⟩⟩
theorem sp_gapsIn {p : Nat} (hS : SHP S) (hok : okG G) (h : atR σ G) (hp : p < pcn G) (hQ : Q (si (fun t => gp G (PN G p + t)) (ocn G p / 2)) σ) : WPs mX4_gapsIn [vR 20, vI (p : Int)] S σ Q := by
  have hn := hok.1
  have hpn := pcn_le_n G
  have h24 := PN_24 (G := G) hn (p := p + 1) (by omega)
  have hmo := PN_mono G (show p + 1 ≤ pcn G by omega)
  obtain ⟨e1, e2⟩ := h.2.1 p hp
  have hPN : PN G (p + 1) = PN G p + ocn G p / 2 := rfl
  have hg : ∀ i, i < PN G (pcn G) → σ 23 i = gp G i := fun i hi => (h.1.2 i (by rw [AP_lenP]; exact hi)).2.2
  have hin : ∀ i, 0 ≤ gp G i ∧ gp G i ≤ 400 := fun i => ds_in hok _ _
  refine e_X4_gapsIn hS ⟨⟨by omega, by omega⟩, fun x hx => ?_⟩
  rw [tn_cast, e1] at hx
  subst hx
  refine lupg (α := Int) (I := fun i x => (PN G p : Int) ≤ i ∧ i ≤ PN G (p + 1) ∧ x = si (fun t => gp G (PN G p + t)) (i.toNat - PN G p)) (W := fun i x => AWs mX4_gapsIn 9 [(0, vR 20), (1, vI (p : Int)), (2, vI x), (3, vI i)] [] S σ Q) (PN G (p + 1) : Int) ?_ ?_ (PN G p : Int) 0 ⟨by omega, by omega, by rw [tn_cast, Nat.sub_self]; rfl⟩
  · rintro i x ⟨i0, i1, rfl⟩ hge
    have ei : i = (PN G (p + 1) : Int) := by omega
    subst ei
    refine t_X4_gapsIn_9 hS ⟨inR_s (by omega) (by omega), ⟨by omega, by omega⟩, ?_⟩
    rw [show ((p : Int) + 1).toNat = p + 1 from rfl, e2, tn_cast]
    refine ⟨fun _ => ?_, fun q => absurd hge q⟩
    rw [show PN G (p + 1) - PN G p = ocn G p / 2 by omega]; exact hQ
  · rintro i x ⟨i0, i1, rfl⟩ hlt kk
    obtain ⟨i, rfl⟩ := nat_of (show 0 ≤ i by omega)
    have b1 := si_in (fun t => hin (PN G p + t)) (i - PN G p)
    have b2 := hin i
    refine t_X4_gapsIn_9 hS ⟨inR_s (by omega) (by omega), ⟨by omega, by omega⟩, ?_⟩
    rw [show ((p : Int) + 1).toNat = p + 1 from rfl, e2, tn_cast, hg i (by omega)]
    refine ⟨fun q => absurd q (by omega), fun _ => ⟨⟨by omega, by omega⟩, inR_s (by omega) (by omega), fun y hy => ⟨inR_s (by omega) (by omega), kk y ⟨by omega, by omega, ?_⟩⟩⟩⟩
    rw [hy, show ((i : Int) + 1).toNat - PN G p = (i - PN G p) + 1 by omega]
    show _ = si _ (i - PN G p) + gp G (PN G p + (i - PN G p))
    rw [show PN G p + (i - PN G p) = i by omega]
end TOPA
