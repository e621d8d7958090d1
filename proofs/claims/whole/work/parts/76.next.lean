/-! the next way from a meeting: what the two scans see -/
/-- a way's number, by the meeting from which it goes and its edge -/
noncomputable def wcd (G : Geo) (q : Nat × Nat) : Int := if q.2 < 24 then (if eA G q.2 = q.1 then 2 * (q.2 : Int) else 2 * (q.2 : Int) + 1) else -3 - ((q.2 - 24 : Nat) : Int)
noncomputable def opn (G : Geo) (p : Nat) (go : Nat → Bool) (m e : Nat) : Bool := (gP G p).1 e && !go e && inc (gP G p) m e
theorem opn_st {G : Geo} {p m s : Nat} {go : Nat → Bool} (hs : s < G.1) (h24 : G.1 ≤ 24) (hp : pt G m = p) : opn G p go m s = (!go s && (decide (mt G (2 * s) = m) || decide (mt G (2 * s + 1) = m))) := by
  have h2 := pt_kr hs
  unfold opn inc gP
  simp only [eX, eA, eB, if_pos (show s < 24 by omega)]
  by_cases a : mt G (2 * s) = m
  · simp [a, hs, hp]
  · by_cases b : mt G (2 * s + 1) = m
    · have : pt G (mt G (2 * s)) = p := by rw [h2, b]; exact hp
      simp [a, b, hs, this]
    · simp [a, b]
theorem opn_gap {G : Geo} {p m s : Nat} {go : Nat → Bool} (hs : G.1 ≤ s) (h24 : s < 24) : opn G p go m s = false := by
  unfold opn gP
  simp only [eX, if_pos h24]
  simp [show ¬ s < G.1 by omega]
theorem opn_hop {G : Geo} {p m i : Nat} {go : Nat → Bool} (h1 : PN G p ≤ i) (h2 : i < PN G (p + 1)) : opn G p go m (24 + i) = (!decide ((i : Int) = cutI G p) && !go (24 + i) && (decide ((apr G i).1 = m) || decide ((apr G i).2 = m))) := by
  unfold opn inc gP
  simp only [eX, eA, eB, if_neg (show ¬ 24 + i < 24 by omega), show 24 + i - 24 = i by omega]
  simp [h1, h2]
theorem opn_out {G : Geo} {p m i : Nat} {go : Nat → Bool} (h : i < PN G p ∨ PN G (p + 1) ≤ i) : opn G p go m (24 + i) = false := by
  unfold opn gP
  simp only [eX, if_neg (show ¬ 24 + i < 24 by omega), show 24 + i - 24 = i by omega]
  rcases h with h | h
  · simp [show ¬ PN G p ≤ i by omega]
  · simp [show ¬ i < PN G (p + 1) by omega]
theorem nx_is {G : Geo} {p m e : Nat} {go : Nat → Bool} (h : e < 48) (h1 : opn G p go m e = true) (h2 : ∀ y, y < e → opn G p go m y = false) : nx (gP G p) go m = some e := fst1_is h h1 h2
theorem nx_no {G : Geo} {p m : Nat} {go : Nat → Bool} (h2 : ∀ y, y < 48 → opn G p go m y = false) : nx (gP G p) go m = none := fst1_no h2
/-- none: -1 or so; some: its number -/
noncomputable def nxv (G : Geo) (p : Nat) (go : Nat → Bool) (m : Nat) (no : Int) : Int := match nx (gP G p) go m with
  | none => no
  | some e => wcd G (m, e)
theorem nxv_n {G : Geo} {p m : Nat} {go : Nat → Bool} {no : Int} (h : nx (gP G p) go m = none) : nxv G p go m no = no := by unfold nxv; rw [h]
theorem nxv_s {G : Geo} {p m e : Nat} {go : Nat → Bool} {no : Int} (h : nx (gP G p) go m = some e) : nxv G p go m no = wcd G (m, e) := by unfold nxv; rw [h]
theorem wcd_a {G : Geo} {m s : Nat} (h : s < 24) (h1 : mt G (2 * s) = m) : wcd G (m, s) = 2 * (s : Int) := by
  unfold wcd eA; simp only [if_pos h, if_pos h1]
theorem wcd_b {G : Geo} {m s : Nat} (h : s < 24) (h1 : mt G (2 * s) ≠ m) : wcd G (m, s) = 2 * (s : Int) + 1 := by
  unfold wcd eA; simp only [if_pos h, if_neg h1]
theorem wcd_h {G : Geo} {m i : Nat} : wcd G (m, 24 + i) = -3 - (i : Int) := by
  unfold wcd; simp only [if_neg (show ¬ 24 + i < 24 by omega), show 24 + i - 24 = i by omega]
/-! Walks: the scan -/
/-- the strokes, meetings and pairs stand -/
def wC (σ : StT) (G : Geo) : Prop := σ 4 2 = G.1 ∧ G.1 ≤ 24 ∧ atM σ 7 G ∧ atR σ G
theorem wC.ext {σ σ' : StT} {G : Geo} {lo hi : Nat} (h : wC σ G) (hf : frR lo hi σ σ') (hl : 31 ≤ lo) : wC σ' G :=
  ⟨by rw [hf 4 (by omega)]; exact h.1, h.2.1, h.2.2.1.ext (fun b h1 h2 j => hf b (by omega) j), h.2.2.2.ext (fun b h1 h2 j => hf b (by omega) j)⟩
/-- what is gone in a part -/
def gnC (σ : StT) (G : Geo) (p : Nat) (go : Nat → Bool) : Prop := (∀ s, s < G.1 → pt G (mt G (2 * s)) = p → σ 38 s = if go s = true then 1 else 0) ∧ ∀ i, PN G p ≤ i → i < PN G (p + 1) → σ 39 i = if go (24 + i) = true ∨ (i : Int) = cutI G p then 1 else 0
theorem AP_lenP (G : Geo) : (AP G (pcn G)).length = PN G (pcn G) := AP_len G (pcn G)
theorem wC.pr {σ : StT} {G : Geo} {i : Nat} (h : wC σ G) (hi : i < PN G (pcn G)) : σ 21 i = (apr G i).1 ∧ σ 22 i = (apr G i).2 := by
  have := h.2.2.2.1.2 i (by rw [AP_lenP]; exact hi)
  exact ⟨this.1, this.2.1⟩
section WALKC
variable {S : ShT} {σ : StT} {Q : Int → StT → Prop}
theorem sp_firstWayFrom {G : Geo} {p m : Nat} {go : Nat → Bool} (hS : SHP S) (h : wC σ G) (hp : p < pcn G) (hmp : pt G m = p) (hg : gnC σ G p go) (hQ : Q (nxv G p go m (-1)) σ) : WPs mX9_firstWayFrom [vR 31, vI (p : Int), vI (m : Int)] S σ Q := by
  have hn := h.2.1
  have hE := h.2.2.1.1
  have hpn := pcn_le_n G
  have h24 := PN_24 (G := G) hn (p := p + 1) (by omega)
  have hmo := PN_mono G (show p + 1 ≤ pcn G by omega)
  have e25 := h.2.2.2.2.1 p hp
  refine e_X9_firstWayFrom hS ?_
  refine lup (I := fun i σ' => 0 ≤ i ∧ σ' = σ ∧ ∀ y : Nat, (y : Int) < i → y < 24 → opn G p go m y = false) (W := fun i σ' => AWs mX9_firstWayFrom 2 [(0, vR 31), (1, vI (p : Int)), (2, vI (m : Int)), (3, vI i)] [] S σ' Q) (G.1 : Int) ?_ ?_ 0 σ ⟨by omega, rfl, fun y hy => by omega⟩
  · rintro i σ1 ⟨i0, rfl, i2⟩ hge
    refine t_X9_firstWayFrom_2 hS ⟨fun _ => ?_, fun q => absurd (by rw [h.1]; exact hge) q⟩
    refine e_X4_firstIn hS ⟨⟨by omega, by omega⟩, ?_⟩
    rw [tn_cast, e25.1]
    have h0 : ∀ y, y < 24 → opn G p go m y = false := fun y hy => by
      by_cases q : y < G.1
      · exact i2 y (by omega) hy
      · exact opn_gap (by omega) hy
    refine lup (I := fun i σ' => (PN G p : Int) ≤ i ∧ σ' = σ1 ∧ ∀ y : Nat, (PN G p : Int) ≤ y → (y : Int) < i → opn G p go m (24 + y) = false) (W := fun i σ' => AWs mX9_firstWayFrom 86 [(0, vR 31), (1, vI (p : Int)), (2, vI (m : Int)), (3, vI i)] [] S σ' Q) (PN G (p + 1) : Int) ?_ ?_ (PN G p : Int) σ1 ⟨by omega, rfl, fun y hy => by omega⟩
    · rintro j σ2 ⟨j0, rfl, j2⟩ hge2
      refine t_X9_firstWayFrom_86 hS (e_X4_behindLastIn hS ⟨inR_s (by omega) (by omega), ⟨by omega, by omega⟩, ?_⟩)
      rw [show ((p : Int) + 1).toNat = p + 1 from rfl, e25.2]
      refine ⟨fun _ => ?_, fun q => absurd hge2 q⟩
      rw [nxv_n] at hQ
      · exact hQ
      · refine nx_no (fun y hy => ?_)
        by_cases q : y < 24
        · exact h0 y q
        · obtain ⟨t, rfl⟩ : ∃ t, y = 24 + t := ⟨y - 24, by omega⟩
          by_cases q1 : t < PN G p
          · exact opn_out (Or.inl q1)
          · by_cases q2 : t < PN G (p + 1)
            · exact j2 t (by omega) (by omega)
            · exact opn_out (Or.inr (by omega))
    · rintro j σ2 ⟨j0, rfl, j2⟩ hlt kk
      obtain ⟨t, rfl⟩ := nat_of (show 0 ≤ j by omega)
      have ho := opn_hop (G := G) (p := p) (m := m) (i := t) (go := go) (by omega) (by omega)
      have hgo := hg.2 t (by omega) (by omega)
      obtain ⟨p1, p2⟩ := h.pr (i := t) (by omega)
      have nxt : opn G p go m (24 + t) = false → inR ((t : Int) + 1) ∧ AWs mX9_firstWayFrom 86 [(0, vR 31), (1, vI (p : Int)), (2, vI (m : Int)), (3, vI ((t : Int) + 1))] [] S σ2 Q := fun q => ⟨inR_s (by omega) (by omega), kk σ2 ⟨by omega, rfl, fun y y1 y2 => by
        by_cases e : y = t
        · rw [e]; exact q
        · exact j2 y y1 (by omega)⟩⟩
      have hit1 : opn G p go m (24 + t) = true → inR (-3 - (t : Int)) ∧ Q (-3 - (t : Int)) σ2 := fun q => by
        refine ⟨inR_s (by omega) (by omega), ?_⟩
        rw [nxv_s (nx_is (e := 24 + t) (by omega) q (fun y hy => ?_)), wcd_h] at hQ
        · exact hQ
        · by_cases q : y < 24
          · exact h0 y q
          · obtain ⟨z, rfl⟩ : ∃ z, y = 24 + z := ⟨y - 24, by omega⟩
            by_cases q1 : z < PN G p
            · exact opn_out (Or.inl q1)
            · exact j2 z (by omega) (by omega)
      refine t_X9_firstWayFrom_86 hS (e_X4_behindLastIn hS ⟨inR_s (by omega) (by omega), ⟨by omega, by omega⟩, ?_⟩)
      rw [show ((p : Int) + 1).toNat = p + 1 from rfl, e25.2, tn_cast, p1, p2, hgo]
      refine ⟨fun q => absurd q (by omega), fun _ => ⟨⟨by omega, by omega⟩, fun q => nxt ?_, fun q => ⟨⟨by omega, by omega⟩, fun q2 => hit1 ?_, fun q2 => ⟨⟨by omega, by omega⟩, fun q3 => nxt ?_, fun q3 => hit1 ?_⟩⟩⟩⟩
      · rw [ho]
        by_cases c : go (24 + t) = true
        · simp [c]
        · by_cases c2 : (t : Int) = cutI G p
          · simp [c2]
          · simp [c, c2] at q
      · have q' : ¬ (go (24 + t) = true ∨ (t : Int) = cutI G p) := fun c => by rw [if_pos c] at q; omega
        have e1 : (apr G t).1 = m := by omega
        rw [ho]
        have c1 : go (24 + t) = false := by
          cases c : go (24 + t)
          · rfl
          · exact absurd (Or.inl c) q'
        have c2 : ¬ ((t : Int) = cutI G p) := fun c => q' (Or.inr c)
        simp [c1, c2, e1]
      · have e1 : (apr G t).1 ≠ m := by omega
        have e2 : (apr G t).2 ≠ m := by omega
        rw [ho]
        simp [e1, e2]
      · have q' : ¬ (go (24 + t) = true ∨ (t : Int) = cutI G p) := fun c => by rw [if_pos c] at q; omega
        have e1 : (apr G t).2 = m := by omega
        rw [ho]
        have c1 : go (24 + t) = false := by
          cases c : go (24 + t)
          · rfl
          · exact absurd (Or.inl c) q'
        have c2 : ¬ ((t : Int) = cutI G p) := fun c => q' (Or.inr c)
        simp [c1, c2, e1]
  · rintro i σ1 ⟨i0, rfl, i2⟩ hlt kk
    obtain ⟨s, rfl⟩ := nat_of i0
    have ho := opn_st (G := G) (p := p) (m := m) (s := s) (go := go) (by omega) hn hmp
    have m1 := hE.2.1 (2 * s) (by omega)
    have m2 := hE.2.1 (2 * s + 1) (by omega)
    have hgo := hg.1 s (by omega)
    have hkr := pt_kr (G := G) (s := s) (by omega)
    have nxt : opn G p go m s = false → inR ((s : Int) + 1) ∧ AWs mX9_firstWayFrom 2 [(0, vR 31), (1, vI (p : Int)), (2, vI (m : Int)), (3, vI ((s : Int) + 1))] [] S σ1 Q := fun q => ⟨inR_s (by omega) (by omega), kk σ1 ⟨by omega, rfl, fun y y1 y2 => by
      by_cases e : y = s
      · rw [e]; exact q
      · exact i2 y (by omega) y2⟩⟩
    have hitS : opn G p go m s = true → Q (wcd G (m, s)) σ1 := fun q => by
      rw [nxv_s (nx_is (e := s) (by omega) q (fun y hy => i2 y (by omega) (by omega)))] at hQ
      exact hQ
    -- the second end
    have second : (σ1 38 s = 0 → mt G (2 * s) ≠ m) → AWs mX9_firstWayFrom 40 [(0, vR 31), (1, vI (p : Int)), (2, vI (m : Int)), (3, vI (s : Int))] [] S σ1 Q := fun hne => by
      refine t_X9_firstWayFrom_40 hS ⟨⟨by omega, by omega⟩, fun q => nxt ?_, fun q => ⟨inR_s (by omega) (by omega), inR_s (by omega) (by omega), e_X3_of hS isM_a ⟨⟨by omega, by omega⟩, ?_⟩⟩⟩
      · rw [tn_cast] at q
        rw [ho]
        by_cases a : mt G (2 * s) = m ∨ mt G (2 * s + 1) = m
        · have hpp : pt G (mt G (2 * s)) = p := by
            rcases a with a | a
            · rw [a]; exact hmp
            · rw [hkr, a]; exact hmp
          have := hgo hpp
          cases c : go s
          · rw [c] at this; exact absurd this q
          · simp
        · have a1 : mt G (2 * s) ≠ m := fun e => a (Or.inl e)
          have a2 : mt G (2 * s + 1) ≠ m := fun e => a (Or.inr e)
          simp [a1, a2]
      · rw [tn_cast] at q
        have hne := hne q
        rw [show (2 * (s : Int) + 1).toNat = 2 * s + 1 by omega]
        have m2' : σ1 (7 + 1 + 1) (2 * s + 1) = mt G (2 * s + 1) := m2
        rw [m2']
        refine ⟨fun c => nxt ?_, fun c => ⟨inR_s (by omega) (by omega), inR_s (by omega) (by omega), ?_⟩⟩
        · have : mt G (2 * s + 1) ≠ m := by omega
          rw [ho]; simp [hne, this]
        · have e2 : mt G (2 * s + 1) = m := by omega
          have hpp : pt G (mt G (2 * s)) = p := by rw [hkr, e2]; exact hmp
          have hg0 := hgo hpp
          rw [← wcd_b (m := m) (by omega) hne]
          refine hitS ?_
          rw [ho]
          cases c : go s
          · simp [e2]
          · rw [c] at hg0; rw [q] at hg0; simp at hg0
    refine t_X9_firstWayFrom_2 hS ⟨fun q => absurd q (by rw [h.1]; omega), fun _ => ⟨⟨by omega, by omega⟩, fun q => second (fun q0 => absurd q0 q), fun q => ⟨inR_s (by omega) (by omega), e_X3_of hS isM_a ⟨⟨by omega, by omega⟩, ?_⟩⟩⟩⟩
    rw [tn_cast] at q
    rw [show (2 * (s : Int)).toNat = 2 * s by omega]
    have m1' : σ1 (7 + 1 + 1) (2 * s) = mt G (2 * s) := m1
    rw [m1']
    refine ⟨fun c => second (fun _ => by omega), fun c => ⟨inR_s (by omega) (by omega), ?_⟩⟩
    have e1 : mt G (2 * s) = m := by omega
    have hg0 := hgo (by rw [e1]; exact hmp)
    rw [← wcd_a (m := m) (by omega) e1]
    refine hitS ?_
    rw [ho]
    cases c : go s
    · simp [e1]
    · rw [c] at hg0; rw [q] at hg0; simp at hg0
end WALKC
