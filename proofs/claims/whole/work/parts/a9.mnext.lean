/-! Model: the next way -/
def wM (σ : StT) (G : Geo) : Prop := σ 127 2 = G.1 ∧ G.1 ≤ 24 ∧ mM σ G ∧ mR σ G
theorem wM.ext {σ σ' : StT} {G : Geo} (h : wM σ G) (h1 : ∀ b, 127 ≤ b → b < 141 → ∀ j, σ' b j = σ b j) (h2 : ∀ j, j ≠ 40 → j ≠ 50 → σ' 125 j = σ 125 j) : wM σ' G := by
  refine ⟨by rw [h1 127 (by omega) (by omega)]; exact h.1, h.2.1, h.2.2.1.ext (h2 26 (by decide) (by decide)) (h2 27 (by decide) (by decide)) (fun b a c => h1 b (by omega) (by omega)), ?_⟩
  obtain ⟨⟨q1, q2⟩, q3, q4⟩ := h.2.2.2
  refine ⟨⟨by rw [h2 31 (by decide) (by decide)]; exact q1, fun i hi => ?_⟩, fun q i a b c => ?_, fun q hq => ?_⟩
  · rw [h1 135 (by omega) (by omega), h1 136 (by omega) (by omega)]; exact q2 i hi
  · rw [h1 137 (by omega) (by omega)]; exact q3 q i a b c
  · rw [h1 138 (by omega) (by omega)]; exact q4 q hq
def gnM (σ : StT) (G : Geo) (p : Nat) (go : Nat → Bool) : Prop := (∀ s, s < G.1 → pt G (mt G (2 * s)) = p → σ 141 s = if go s = true then 1 else 0) ∧ ∀ i, PN G p ≤ i → i < PN G (p + 1) → σ 142 i = if go (24 + i) = true then 1 else 0
theorem wM.pr {σ : StT} {G : Geo} {i : Nat} (h : wM σ G) (hi : i < PN G (pcn G)) : σ 135 i = (apr G i).1 ∧ σ 136 i = (apr G i).2 := h.2.2.2.1.2 i (by rw [AP_lenP]; exact hi)
section MNEXT
variable {S : ShT} {σ : StT} {Q : Int → StT → Prop}
theorem m_nextWay {G : Geo} {p m : Nat} {go : Nat → Bool} (hS : SHP S) (h : wM σ G) (hp : p < pcn G) (hmp : pt G m = p) (hg : gnM σ G p go) (hQ : Q (nxv G p go m (-2)) σ) : WPs mX11_nextWay [vR 125, vI (m : Int)] S σ Q := by
  have hn := h.2.1
  have hE := h.2.2.1.2.2.1
  have hpn := pcn_le_n G
  have hA := PN_24 (G := G) hn (Nat.le_refl (pcn G))
  have e31 : σ 125 31 = PN G (pcn G) := by rw [h.2.2.2.1.1, AP_lenP]
  refine e_X11_nextWay hS ?_
  refine lup (I := fun i σ' => 0 ≤ i ∧ σ' = σ ∧ ∀ y : Nat, (y : Int) < i → y < 24 → opn G p go m y = false) (W := fun i σ' => AWs mX11_nextWay 2 [(0, vR 125), (1, vI (m : Int)), (2, vI i)] [] S σ' Q) (G.1 : Int) ?_ ?_ 0 σ ⟨by omega, rfl, fun y hy => by omega⟩
  · rintro i σ1 ⟨i0, rfl, i2⟩ hge
    refine t_X11_nextWay_2 hS ⟨fun _ => ?_, fun q => absurd (by rw [h.1]; exact hge) q⟩
    have h0 : ∀ y, y < 24 → opn G p go m y = false := fun y hy => by
      by_cases q : y < G.1
      · exact i2 y (by omega) hy
      · exact opn_gap (by omega) hy
    refine lup (I := fun i σ' => 0 ≤ i ∧ σ' = σ1 ∧ ∀ y : Nat, (y : Int) < i → opn G p go m (24 + y) = false) (W := fun i σ' => AWs mX11_nextWay 74 [(0, vR 125), (1, vI (m : Int)), (2, vI i)] [] S σ' Q) (PN G (pcn G) : Int) ?_ ?_ 0 σ1 ⟨by omega, rfl, fun y hy => by omega⟩
    · rintro j σ2 ⟨j0, rfl, j2⟩ hge2
      refine t_X11_nextWay_74 hS ?_
      rw [e31]
      refine ⟨fun _ => ?_, fun q => absurd hge2 q⟩
      rw [nxv_n] at hQ
      · exact hQ
      · refine nx_no (fun y hy => ?_)
        by_cases q : y < 24
        · exact h0 y q
        · obtain ⟨t, rfl⟩ : ∃ t, y = 24 + t := ⟨y - 24, by omega⟩
          by_cases q2 : t < PN G (pcn G)
          · exact j2 t (by omega)
          · have := PN_mono G (show p + 1 ≤ pcn G by omega)
            exact opn_out (Or.inr (by omega))
    · rintro j σ2 ⟨j0, rfl, j2⟩ hlt kk
      obtain ⟨t, rfl⟩ := nat_of (show 0 ≤ j by omega)
      obtain ⟨p1, p2⟩ := h.pr (i := t) (by omega)
      obtain ⟨z, z1, z2, z3⟩ := PN_in (G := G) (i := t) (pcn G) (by omega)
      have e137 := h.2.2.2.2.1 z t z1 z2 z3
      have e138 := h.2.2.2.2.2 z z1
      have nxt : opn G p go m (24 + t) = false → inR ((t : Int) + 1) ∧ AWs mX11_nextWay 74 [(0, vR 125), (1, vI (m : Int)), (2, vI ((t : Int) + 1))] [] S σ2 Q := fun q => ⟨inR_s (by omega) (by omega), kk σ2 ⟨by omega, rfl, fun y y1 => by
        by_cases e : y = t
        · rw [e]; exact q
        · exact j2 y (by omega)⟩⟩
      have hit1 : opn G p go m (24 + t) = true → inR (-3 - (t : Int)) ∧ Q (-3 - (t : Int)) σ2 := fun q => by
        refine ⟨inR_s (by omega) (by omega), ?_⟩
        rw [nxv_s (nx_is (e := 24 + t) (by omega) q (fun y hy => ?_)), wcd_h] at hQ
        · exact hQ
        · by_cases q : y < 24
          · exact h0 y q
          · obtain ⟨z, rfl⟩ : ∃ z, y = 24 + z := ⟨y - 24, by omega⟩
            exact j2 z (by omega)
      have second : ((apr G t).1 = m ∨ (apr G t).2 = m) → AWs mX11_nextWay 102 [(0, vR 125), (1, vI (m : Int)), (2, vI (t : Int))] [] S σ2 Q := fun hm => by
        have hz : z = p := by
          obtain ⟨o1, o2⟩ := apr_ok z1 z2 z3
          rw [OL_mem] at o1 o2
          rcases hm with e | e
          · rw [e] at o1; omega
          · rw [e] at o2; omega
        subst hz
        have ho := opn_hop (G := G) (p := z) (m := m) (i := t) (go := go) z2 z3
        have hgo := hg.2 t z2 z3
        have hor : (decide ((apr G t).1 = m) || decide ((apr G t).2 = m)) = true := by
          rcases hm with e | e <;> simp [e]
        rw [hor, Bool.and_true] at ho
        refine t_X11_nextWay_102 hS ?_
        rw [tn_cast, hgo, e137, tn_cast, e138]
        refine ⟨⟨by omega, by omega⟩, fun q => nxt ?_, fun q => ⟨⟨by omega, by omega⟩, ⟨by omega, by omega⟩, fun q2 => nxt ?_, fun q2 => hit1 ?_⟩⟩
        · rw [ho]
          by_cases c : go (24 + t) = true
          · simp [c]
          · exact absurd (if_neg c) q
        · rw [ho]; simp [q2]
        · have c1 : go (24 + t) = false := by
            cases c : go (24 + t)
            · rfl
            · rw [c] at q; exact absurd q (by decide)
          rw [ho, c1]
          simp [show ¬ ((t : Int) = cutI G z) from fun e => q2 e.symm]
      refine t_X11_nextWay_74 hS ?_
      rw [e31, tn_cast, p1, p2]
      refine ⟨fun q => absurd q (by omega), fun _ => ⟨⟨by omega, by omega⟩, fun q => second (Or.inl (by omega)), fun q => ⟨⟨by omega, by omega⟩, fun q2 => nxt ?_, fun q2 => second (Or.inr (by omega))⟩⟩⟩
      unfold opn inc gP
      simp only [eA, eB, if_neg (show ¬ 24 + t < 24 by omega), show 24 + t - 24 = t by omega]
      simp [show ¬ (apr G t).1 = m by omega, show ¬ (apr G t).2 = m by omega]
  · rintro i σ1 ⟨i0, rfl, i2⟩ hlt kk
    obtain ⟨s, rfl⟩ := nat_of i0
    have ho := opn_st (G := G) (p := p) (m := m) (s := s) (go := go) (by omega) hn hmp
    have m1 := hE (2 * s) (by omega)
    have m2 := hE (2 * s + 1) (by omega)
    have hgo := hg.1 s (by omega)
    have hkr := pt_kr (G := G) (s := s) (by omega)
    have nxt : opn G p go m s = false → inR ((s : Int) + 1) ∧ AWs mX11_nextWay 2 [(0, vR 125), (1, vI (m : Int)), (2, vI ((s : Int) + 1))] [] S σ1 Q := fun q => ⟨inR_s (by omega) (by omega), kk σ1 ⟨by omega, rfl, fun y y1 y2 => by
      by_cases e : y = s
      · rw [e]; exact q
      · exact i2 y (by omega) y2⟩⟩
    have hitS : opn G p go m s = true → Q (wcd G (m, s)) σ1 := fun q => by
      rw [nxv_s (nx_is (e := s) (by omega) q (fun y hy => i2 y (by omega) (by omega)))] at hQ
      exact hQ
    have second : (σ1 141 s = 0 → mt G (2 * s) ≠ m) → AWs mX11_nextWay 37 [(0, vR 125), (1, vI (m : Int)), (2, vI (s : Int))] [] S σ1 Q := fun hne => by
      refine t_X11_nextWay_37 hS ?_
      rw [tn_cast, show (2 * (s : Int) + 1).toNat = 2 * s + 1 by omega, m2]
      refine ⟨⟨by omega, by omega⟩, fun q => nxt ?_, fun q => ⟨inR_s (by omega) (by omega), inR_s (by omega) (by omega), ⟨by omega, by omega⟩, fun c => nxt ?_, fun c => ⟨inR_s (by omega) (by omega), inR_s (by omega) (by omega), ?_⟩⟩⟩
      · rw [ho]
        by_cases a : mt G (2 * s) = m ∨ mt G (2 * s + 1) = m
        · have hpp : pt G (mt G (2 * s)) = p := by
            rcases a with a | a
            · rw [a]; exact hmp
            · rw [hkr, a]; exact hmp
          have := hgo hpp
          cases c : go s
          · rw [c] at this; exact absurd this q
          · simp
        · have a1 : mt G (2 * s) ≠ m := fun e => a (Or.inl e)
          have a2 : mt G (2 * s + 1) ≠ m := fun e => a (Or.inr e)
          simp [a1, a2]
      · have hne := hne q
        have : mt G (2 * s + 1) ≠ m := by omega
        rw [ho]; simp [hne, this]
      · have hne := hne q
        have e2 : mt G (2 * s + 1) = m := by omega
        have hpp : pt G (mt G (2 * s)) = p := by rw [hkr, e2]; exact hmp
        have hg0 := hgo hpp
        rw [← wcd_b (m := m) (by omega) hne]
        refine hitS ?_
        rw [ho]
        cases c : go s
        · simp [e2]
        · rw [c] at hg0; rw [q] at hg0; simp at hg0
    refine t_X11_nextWay_2 hS ?_
    rw [tn_cast, show (2 * (s : Int)).toNat = 2 * s by omega, m1]
    refine ⟨fun q => absurd q (by rw [h.1]; omega), fun _ => ⟨⟨by omega, by omega⟩, fun q => second (fun q0 => absurd q0 q), fun q => ⟨inR_s (by omega) (by omega), ⟨by omega, by omega⟩, fun c => second (fun _ => by omega), fun c => ⟨inR_s (by omega) (by omega), ?_⟩⟩⟩⟩
    have e1 : mt G (2 * s) = m := by omega
    have hg0 := hgo (by rw [e1]; exact hmp)
    rw [← wcd_a (m := m) (by omega) e1]
    refine hitS ?_
    rw [ho]
    cases c : go s
    · simp [e1]
    · rw [c] at hg0; rw [q] at hg0; simp at hg0
theorem m_across {G : Geo} {p m e : Nat} (hS : SHP S) (h : wM σ G) (hp : p < pcn G) (hx : eX G p e = true) (he : e < 48) (hQ : Q (oe (gP G p) e m) σ) : WPs mX11_across [vR 125, vI (wcd G (m, e)), vI (m : Int)] S σ Q := by
  have hn := h.2.1
  have hE := h.2.2.1.2.2.1
  have hA := PN_24 (G := G) hn (Nat.le_refl (pcn G))
  have hmo := PN_mono G (show p + 1 ≤ pcn G by omega)
  refine e_X11_across hS ?_
  by_cases he24 : e < 24
  · obtain ⟨x1, x2⟩ := eX_st hx he24
    have m1 := hE (2 * e) (by omega)
    have m2 := hE (2 * e + 1) (by omega)
    by_cases c : mt G (2 * e) = m
    · rw [wcd_a he24 c]
      refine ⟨fun q => absurd q (by omega), fun _ => ⟨by omega, fun q => absurd q (by omega), fun _ => ⟨inR_s (by omega) (by omega), ⟨by omega, by omega⟩, ?_⟩⟩⟩
      rw [show (2 * (e : Int) + 1).toNat = 2 * e + 1 by omega, m2]
      have : oe (gP G p) e m = mt G (2 * e + 1) := by
        unfold oe gP eA eB
        simp only [if_pos he24, if_pos c]
      rw [← this]; exact hQ
    · rw [wcd_b he24 c]
      refine ⟨fun q => absurd q (by omega), fun _ => ⟨by omega, fun _ => ⟨inR_s (by omega) (by omega), ⟨by omega, by omega⟩, ?_⟩, fun q => absurd q (by omega)⟩⟩
      rw [show (2 * (e : Int) + 1 - 1).toNat = 2 * e by omega, m1]
      have : oe (gP G p) e m = mt G (2 * e) := by
        unfold oe gP eA eB
        simp only [if_pos he24, if_neg c]
      rw [← this]; exact hQ
  · obtain ⟨i, rfl⟩ : ∃ i, e = 24 + i := ⟨e - 24, by omega⟩
    obtain ⟨x1, x2, x3⟩ := eX_hp hx
    obtain ⟨p1, p2⟩ := h.pr (i := i) (by omega)
    have eo : oe (gP G p) (24 + i) m = if (apr G i).1 = m then (apr G i).2 else (apr G i).1 := by
      unfold oe gP eA eB
      simp only [if_neg (show ¬ 24 + i < 24 by omega), show 24 + i - 24 = i by omega]
    rw [eo] at hQ
    rw [wcd_h, show -3 - (-3 - (i : Int)) = (i : Int) by omega, tn_cast, p1, p2]
    refine ⟨fun _ => ⟨inR_s (by omega) (by omega), ⟨by omega, by omega⟩, fun c => ⟨⟨by omega, by omega⟩, ?_⟩, fun c => ⟨⟨by omega, by omega⟩, ?_⟩⟩, fun q => absurd q (by omega)⟩
    · rw [if_neg (by omega)] at hQ; exact hQ
    · rw [if_pos (by omega)] at hQ; exact hQ
end MNEXT
