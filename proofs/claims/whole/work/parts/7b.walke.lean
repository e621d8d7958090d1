/-! Walks: the whole of gather -/
theorem WA_pre {G : Geo} {p j : Nat} : ∀ {P : Nat}, p ≤ P → j < (WA G p).length → (WA G P).getD j (0, 0) = (WA G p).getD j (0, 0) ∧ (WA G p).length ≤ (WA G P).length
  | 0, h, _ => by rw [show p = 0 by omega]; exact ⟨rfl, Nat.le_refl _⟩
  | P + 1, h, hj => by
    by_cases e : p = P + 1
    · subst e; exact ⟨rfl, Nat.le_refl _⟩
    · obtain ⟨a, b⟩ := WA_pre (G := G) (p := p) (j := j) (P := P) (by omega) hj
      refine ⟨?_, ?_⟩
      · show (WA G P ++ wkW G P).getD j (0, 0) = _
        rw [gd_l (by omega)]; exact a
      · show _ ≤ (WA G P ++ wkW G P).length
        rw [List.length_append]; omega
theorem WA_sl (G : Geo) (p : Nat) : (WA G (p + 1)).length = (WA G p).length + (wkW G p).length := List.length_append
theorem WA_mono {G : Geo} {p P : Nat} (h : p ≤ P) : (WA G p).length ≤ (WA G P).length := by
  induction P with
  | zero => rw [show p = 0 by omega]; exact Nat.le_refl _
  | succ P ih =>
    by_cases e : p = P + 1
    · subst e; exact Nat.le_refl _
    · have := ih (by omega); rw [WA_sl]; omega
theorem WA_at {G : Geo} {p k : Nat} : (WA G (p + 1)).getD ((WA G p).length + k) (0, 0) = (wkW G p).getD k (0, 0) := by
  show (WA G p ++ wkW G p).getD _ (0, 0) = _
  rw [gd_r (by omega), show (WA G p).length + k - (WA G p).length = k by omega]
def atW (σ : StT) (G : Geo) : Prop := (∀ q, q ≤ pcn G → σ 33 q = (WA G q).length) ∧ ∀ j, j < (WA G (pcn G)).length → σ 32 j = wcd G ((WA G (pcn G)).getD j (0, 0))
theorem atW.ext {σ σ' : StT} {G : Geo} (h : atW σ G) (h1 : ∀ j, σ' 33 j = σ 33 j) (h2 : ∀ j, σ' 32 j = σ 32 j) : atW σ' G :=
  ⟨fun q hq => by rw [h1]; exact h.1 q hq, fun j hj => by rw [h2]; exact h.2 j hj⟩
section WALKE
variable {S : ShT} {σ : StT} {Q : Int → StT → Prop}
theorem sp_wgather {G : Geo} (hS : SHP S) (h : wC σ G) (hQ : ∀ σ' : StT, atW σ' G → frR 31 40 σ σ' → Q 0 σ') : WPs mX9_gather [vR 31] S σ Q := by
  have hn := h.2.1
  have hpn := pcn_le_n G
  have hlen := AP_lenP G
  have h6 : σ 20 6 = (PN G (pcn G) : Int) := by rw [h.2.2.2.1.1, hlen]
  have hP24 := PN_24 (G := G) hn (Nat.le_refl (pcn G))
  refine e_X9_gather hS ?_
  refine lup (I := fun i σ' => 0 ≤ i ∧ i ≤ 24 ∧ fr [38, 39] σ σ' ∧ (∀ s : Nat, (s : Int) < i → σ' 38 s = 0) ∧ ∀ s : Nat, (s : Int) < i → s < PN G (pcn G) → σ' 39 s = if σ 24 s = 0 then 0 else 1) (W := fun i σ' => AWs mX9_gather 2 [(0, vR 31), (1, vI i)] [] S σ' Q) 24 ?_ ?_ 0 σ ⟨by omega, by omega, fr.rf, fun s hs => by omega, fun s hs => by omega⟩
  · rintro i σ1 ⟨i0, i1, i2, i3, i4⟩ hge
    have ei : i = 24 := by omega
    subst ei
    have hg1 : ∀ q, q < pcn G → gnC σ1 G q noG := fun q hq => by
      refine ⟨fun s s1 s2 => ?_, fun j j1 j2 => ?_⟩
      · rw [i3 s (by omega)]; rfl
      · have hm := PN_mono G (show q + 1 ≤ pcn G by omega)
        rw [i4 j (by omega) (by omega), h.2.2.2.2.2.1 q j hq j1 j2]
        by_cases c : (j : Int) = cutI G q
        · rw [if_pos c, if_neg (by omega), if_pos (Or.inr c)]
        · rw [if_neg c, if_pos rfl, if_neg]
          rintro (d | d)
          · cases d
          · exact c d
    refine t_X9_gather_2 hS ⟨fun _ => ?_, fun q => absurd (by omega) q⟩
    have F1 : frR 31 40 σ (up2 σ1 33 0 0) := (i2.R (by simp)).put (by omega) (by omega)
    refine lup (I := fun p σ' => 0 ≤ p ∧ p ≤ (pcn G : Int) ∧ frR 31 40 σ σ' ∧ (∀ q : Nat, p ≤ q → q < pcn G → gnC σ' G q noG) ∧ (∀ q : Nat, (q : Int) ≤ p → σ' 33 q = (WA G q).length) ∧ ∀ j, j < (WA G p.toNat).length → σ' 32 j = wcd G ((WA G p.toNat).getD j (0, 0))) (W := fun p σ' => AWs mX9_gather 64 [(0, vR 31), (1, vI p)] [] S σ' Q) (pcn G : Int) ?_ ?_ 0 (up2 σ1 33 0 0) ⟨by omega, by omega, F1, fun q _ hq => (hg1 q hq).ext (fun j => up2_a (by decide)) (fun j => up2_a (by decide)), fun q hq => ?_, fun j hj => absurd hj (by simp [WA])⟩
    · rintro p σ2 ⟨p0, p1, p2, p3, p4, p5⟩ hge2
      have ep : p = (pcn G : Int) := by omega
      subst ep
      refine t_X9_gather_64 hS (e_X3_parts hS isM_a ⟨fun _ => hQ σ2 ⟨fun q hq => p4 q (by omega), p5⟩ p2, fun q => ?_⟩)
      have := (h.ext p2 (by omega)).2.2.1.2.1.1
      exact absurd (by rw [this]; omega) q
    · rintro p σ2 ⟨p0, p1, p2, p3, p4, p5⟩ hlt kk
      obtain ⟨p, rfl⟩ := nat_of p0
      rw [tn_cast] at p5
      have hp : p < pcn G := by omega
      have h2 : wC σ2 G := h.ext p2 (by omega)
      have hpa : σ2 (7 + 5) 2 = (pcn G : Int) := h2.2.2.1.2.1.1
      have hl48 := WA_len (G := G) (P := p + 1) hn (by omega)
      have hsl := WA_sl G p
      refine t_X9_gather_64 hS (e_X3_parts hS isM_a ⟨fun q => absurd q (by rw [hpa]; omega), fun _ => ?_⟩)
      refine sp_makeWalk hS h2 hp (p3 p (by omega) hp) ?_
      intro σ3 kp3 hw3 f3
      have e33 : σ3 33 p = (WA G p).length := by rw [f3 33 (by decide)]; exact p4 p (by omega)
      rw [tn_cast, e33, hw3.1]
      refine ⟨inR_s (by omega) (by omega), ⟨by omega, by omega⟩, inR_s (by omega) (by omega), ⟨by omega, by omega⟩, ?_⟩
      rw [show ((p : Int) + 1).toNat = p + 1 from rfl]
      have F3 : frR 31 40 σ (up2 σ3 33 (p + 1) (((WA G p).length : Int) + ((wkW G p).length : Int))) := (p2.trans (f3.R (by simp))).put (by omega) (by omega)
      refine lup (I := fun k σ' => 0 ≤ k ∧ k ≤ (wkW G p).length ∧ fr [32] (up2 σ3 33 (p + 1) (((WA G p).length : Int) + ((wkW G p).length : Int))) σ' ∧ (∀ j, j < (WA G p).length → σ' 32 j = wcd G ((WA G p).getD j (0, 0))) ∧ ∀ j : Nat, (j : Int) < k → σ' 32 ((WA G p).length + j) = wcd G ((wkW G p).getD j (0, 0))) (W := fun k σ' => AWs mX9_gather 101 [(0, vR 31), (1, vI (p : Int)), (2, vI k)] [] S σ' Q) ((wkW G p).length : Int) ?_ ?_ 0 _ ⟨by omega, by omega, fr.rf, fun j hj => ?_, fun j hj => by omega⟩
      · rintro k σ4 ⟨k0, k1, k2, k3, k4⟩ hge3
        have ek : k = ((wkW G p).length : Int) := by omega
        subst ek
        have e317 : σ4 31 7 = (wkW G p).length := by rw [k2 31 (by decide), up2_a (by decide)]; exact hw3.1
        refine t_X9_gather_101 hS ⟨fun _ => ⟨inR_s (by omega) (by omega), kk σ4 ⟨by omega, by omega, F3.trans (k2.R (by simp)), fun q q1 q2 => ?_, fun q hq => ?_, fun j hj => ?_⟩⟩, fun q => absurd (by rw [e317]; omega) q⟩
        · exact (kp3 q noG (by omega) q2 (p3 q (by omega) q2)).ext (fun j => by rw [k2 38 (by decide), up2_a (by decide)]) (fun j => by rw [k2 39 (by decide), up2_a (by decide)])
        · rw [k2 33 (by decide)]
          by_cases e : q = p + 1
          · subst e; rw [up2_s, hsl]; omega
          · rw [up2_i e, f3 33 (by decide)]; exact p4 q (by omega)
        · rw [show ((p : Int) + 1).toNat = p + 1 from rfl] at hj ⊢
          by_cases c : j < (WA G p).length
          · rw [k3 j c, (WA_pre (P := p + 1) (by omega) c).1]
          · have := k4 (j - (WA G p).length) (by omega)
            rw [show (WA G p).length + (j - (WA G p).length) = j by omega] at this
            rw [this, ← WA_at, show (WA G p).length + (j - (WA G p).length) = j by omega]
      · rintro k σ4 ⟨k0, k1, k2, k3, k4⟩ hlt3 kk3
        obtain ⟨k, rfl⟩ := nat_of k0
        have e317 : σ4 31 7 = (wkW G p).length := by rw [k2 31 (by decide), up2_a (by decide)]; exact hw3.1
        have e33' : σ4 33 p = (WA G p).length := by rw [k2 33 (by decide), up2_i (by omega)]; exact e33
        have e34 : σ4 34 k = wcd G ((wkW G p).getD k (0, 0)) := by rw [k2 34 (by decide), up2_a (by decide)]; exact hw3.2.1 k (by omega)
        refine t_X9_gather_101 hS ⟨fun q => absurd q (by rw [e317]; omega), fun _ => ?_⟩
        rw [tn_cast, tn_cast, e33', e34, show (((WA G p).length : Int) + (k : Int)).toNat = (WA G p).length + k by omega]
        refine ⟨⟨by omega, by omega⟩, inR_s (by omega) (by omega), ⟨by omega, by omega⟩, ⟨by omega, by omega⟩, inR_s (by omega) (by omega), kk3 _ ⟨by omega, by omega, k2.put (by simp), fun j hj => ?_, fun j hj => ?_⟩⟩
        · rw [up2_i (by omega)]; exact k3 j hj
        · by_cases e : j = k
          · subst e; rw [up2_s]
          · rw [up2_i (by omega)]; exact k4 j (by omega)
      · rw [up2_a (by decide), f3 32 (by decide)]; exact p5 j hj
    · rw [show q = 0 by omega, up2_s]; rfl
  · rintro i σ1 ⟨i0, i1, i2, i3, i4⟩ hlt kk
    obtain ⟨i, rfl⟩ := nat_of i0
    have e6 : σ1 20 6 = (PN G (pcn G) : Int) := by rw [i2 20 (by decide)]; exact h6
    have go : ∀ v : Int, (i < PN G (pcn G) → v = if σ 24 i = 0 then 0 else 1) → (0 ≤ (i : Int) ∧ (i : Int) < 24) ∧ inR ((i : Int) + 1) ∧ AWs mX9_gather 2 [(0, vR 31), (1, vI ((i : Int) + 1))] [] S (up2 (up2 σ1 38 i 0) 39 i v) Q := fun v hv => by
      refine ⟨⟨by omega, by omega⟩, inR_s (by omega) (by omega), kk _ ⟨by omega, by omega, (i2.put (by simp)).put (by simp), fun s hs => ?_, fun s hs hs2 => ?_⟩⟩
      · rw [up2_a (by decide)]
        by_cases e : s = i
        · subst e; rw [up2_s]
        · rw [up2_i e]; exact i3 s (by omega)
      · by_cases e : s = i
        · subst e; rw [up2_s]; exact hv hs2
        · rw [up2_i e, up2_a (by decide)]; exact i4 s (by omega) hs2
    refine t_X9_gather_2 hS ⟨fun q => absurd q (by omega), fun _ => ?_⟩
    rw [tn_cast, e6, i2 24 (by decide)]
    refine ⟨⟨by omega, by omega⟩, fun q => go 0 (fun c => by omega), fun q => ⟨⟨by omega, by omega⟩, fun c => go 0 (fun _ => by rw [if_pos c]), fun c => go 1 (fun _ => by rw [if_neg c])⟩⟩
end WALKE
