/-! the reference: laysPairs -/
def mR (σ : StT) (G : Geo) : Prop := mQ σ (AP G (pcn G)) ∧ (∀ q i, q < pcn G → PN G q ≤ i → i < PN G (q + 1) → σ 137 i = q) ∧ ∀ q, q < pcn G → σ 138 q = cutI G q
section MLAYP
variable {S : ShT} {σ : StT} {Q : Int → StT → Prop} {G : Geo}
theorem m_isOdd {k : Nat} (hS : SHP S) (hk : k < 48) (he : σ 133 k = ecn G k) (hQ : Q (if odd G k = true then 1 else 0) σ) : WPs mX11_isOdd [vR 125, vI (k : Int)] S σ Q := by
  refine e_X11_isOdd hS ⟨⟨by omega, by omega⟩, ?_⟩
  rw [tn_cast, he]
  unfold odd at hQ
  refine ⟨by omega, fun q => ?_, fun q => ?_⟩
  · rw [if_neg (by simp; omega)] at hQ; exact hQ
  · rw [if_pos (by simp; omega)] at hQ; exact hQ
theorem msb_all : ∀ (L : Nat), msb L (2 ^ L - 1) = List.range L := fun L => by
  unfold msb
  refine List.filter_eq_self.mpr (fun x hx => ?_)
  rw [Nat.testBit_two_pow_sub_one]
  simpa using List.mem_range.mp hx
/-- the cut of a part -/
theorem m_cut {p : Nat} (hS : SHP S) (hok : okG G) (hG : rG σ G) (hM : ∀ k, k < mcn G → σ 132 k = fe G k) (hp : p < pcn G) (hq : mQ σ (AP G (p + 1))) (hQ : ∀ σ' : StT, σ' 138 p = cutI G p → (∀ q, q ≠ p → σ' 138 q = σ 138 q) → fr [138] σ σ' → AWs mX11_laysPairs 7 [(0, vR 125), (1, vI ((p : Int) + 1))] [] S σ' Q) : AWs mX11_laysPairs 140 [(0, vR 125), (1, vI (p : Int)), (3, vI (PN G p : Int))] [] S (up2 σ 138 p (-1)) Q := by
  have hn := hok.1
  have hpn := pcn_le_n G
  have h24 := PN_24 (G := G) hn (p := p + 1) (by omega)
  have hPN : PN G (p + 1) = PN G p + ocn G p / 2 := rfl
  have hal : (AP G (p + 1)).length = PN G (p + 1) := AP_len G (p + 1)
  have far : ∀ (σ' : StT) (i : Nat), fr [138] σ σ' → PN G p ≤ i → i < PN G (p + 1) → ∀ Q : Int → StT → Prop, Q (gp G i) σ' → WPs mX11_farOf [vR 125, vI (i : Int)] S σ' Q := fun σ' i F h1 h2 Q hQ => by
    have e := hq.2 i (by omega)
    have ea : pg (AP G (p + 1)) i = apr G i := (AP_pre G (show p + 1 ≤ pcn G by omega) (by omega)).symm
    rw [ea] at e
    obtain ⟨o1, o2⟩ := apr_ok hp h1 h2
    refine e_X11_farOf hS ⟨⟨by omega, by omega⟩, ⟨by omega, by omega⟩, ?_⟩
    rw [tn_cast, F 135 (by decide), F 136 (by decide), e.1, e.2]
    exact m_far hS (hG.ext (fun j => F 127 (by decide) j)) hok (fun k hk => by rw [F 132 (by decide)]; exact hM k hk) (OL_mem.mp o1).1 (OL_mem.mp o2).1 hQ
  refine lup (I := fun i σ' => (PN G p : Int) ≤ i ∧ i ≤ PN G (p + 1) ∧ fr [138] σ σ' ∧ σ' 138 p = cutR (gp G) (PN G p) (i.toNat - PN G p) ∧ ∀ q, q ≠ p → σ' 138 q = σ 138 q) (W := fun i σ' => AWs mX11_laysPairs 140 [(0, vR 125), (1, vI (p : Int)), (3, vI i)] [] S σ' Q) (PN G (p + 1) : Int) ?_ ?_ (PN G p : Int) _ ⟨by omega, by omega, fr.rf.put (by simp), by rw [up2_s, tn_cast, Nat.sub_self]; rfl, fun q hq => up2_i hq⟩
  · rintro i σ1 ⟨i0, i1, i2, i3, i4⟩ hge
    have ei : i = (PN G (p + 1) : Int) := by omega
    subst ei
    refine t_X11_laysPairs_140 hS ?_
    rw [i2 125 (by decide), hq.1, hal]
    refine ⟨fun _ => ⟨inR_s (by omega) (by omega), hQ σ1 ?_ i4 i2⟩, fun q => absurd hge q⟩
    rw [i3, tn_cast, show PN G (p + 1) - PN G p = ocn G p / 2 by omega]; rfl
  · rintro i σ1 ⟨i0, i1, i2, i3, i4⟩ hlt kk
    obtain ⟨i, rfl⟩ := nat_of (show 0 ≤ i by omega)
    obtain ⟨t, rfl⟩ : ∃ t, i = PN G p + t := ⟨i - PN G p, by omega⟩
    rw [tn_cast, show PN G p + t - PN G p = t by omega] at i3
    have hc := cutR_in (gp G) (PN G p) t
    have hcs : cutR (gp G) (PN G p) (t + 1) = if cutR (gp G) (PN G p) t = -1 ∨ gp G (cutR (gp G) (PN G p) t).toNat < gp G (PN G p + t) then ((PN G p + t : Nat) : Int) else cutR (gp G) (PN G p) t := rfl
    have nxt : ∀ v : Int, v = cutR (gp G) (PN G p) (t + 1) → AWs mX11_laysPairs 140 [(0, vR 125), (1, vI (p : Int)), (3, vI (((PN G p + t : Nat) : Int) + 1))] [] S (up2 σ1 138 p v) Q := fun v e => kk _ ⟨by omega, by omega, i2.put (by simp), by rw [up2_s, show (((PN G p + t : Nat) : Int) + 1).toNat - PN G p = t + 1 by omega]; exact e, fun q hq => by rw [up2_i hq]; exact i4 q hq⟩
    refine t_X11_laysPairs_140 hS ?_
    rw [i2 125 (by decide), hq.1, hal, tn_cast, i3]
    refine ⟨fun q => absurd q (by omega), fun _ => ⟨⟨by omega, by omega⟩, fun q => ⟨⟨by omega, by omega⟩, inR_s (by omega) (by omega), nxt _ ?_⟩, fun q => ?_⟩⟩
    · rw [hcs, if_pos (Or.inl q)]
    · obtain ⟨c, hcc⟩ := nat_of (show 0 ≤ cutR (gp G) (PN G p) t by omega)
      rw [hcc, tn_cast] at hcs
      refine far σ1 _ i2 (by omega) (by omega) _ ⟨⟨by omega, by omega⟩, ?_⟩
      rw [i3, hcc]
      refine far σ1 _ i2 (by omega) (by omega) _ ⟨fun q2 => ⟨⟨by omega, by omega⟩, ⟨by omega, by omega⟩, inR_s (by omega) (by omega), nxt _ ?_⟩, fun q2 => ⟨⟨by omega, by omega⟩, inR_s (by omega) (by omega), nxt _ ?_⟩⟩
      · rw [i3, hcs, hcc, if_neg (by omega)]
      · rw [hcs, if_pos (Or.inr (by omega))]
end MLAYP
