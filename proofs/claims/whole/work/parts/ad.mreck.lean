/-! Model: all is laid from the strokes -/
/-- only what is laid anew changes -/
def fC (σ σ' : StT) : Prop := (∀ b, b ≠ 125 → (b < 131 ∨ 154 ≤ b) → ∀ j, σ' b j = σ b j) ∧ ∀ j, j ≠ 26 → j ≠ 27 → j ≠ 31 → j ≠ 34 → j ≠ 40 → j ≠ 50 → σ' 125 j = σ 125 j
theorem fC.rf {σ : StT} : fC σ σ := ⟨fun _ _ _ _ => rfl, fun _ _ _ _ _ _ _ => rfl⟩
theorem fC.trans {σ σ1 σ2 : StT} (h : fC σ σ1) (k : fC σ1 σ2) : fC σ σ2 := ⟨fun b h1 h2 j => (k.1 b h1 h2 j).trans (h.1 b h1 h2 j), fun j a b c d e f => (k.2 j a b c d e f).trans (h.2 j a b c d e f)⟩
theorem fC.of {σ σ' : StT} {L : List Nat} (h : fr L σ σ') (hL : ∀ b ∈ L, b = 125 ∨ (131 ≤ b ∧ b < 154)) (h2 : ∀ j, j ≠ 26 → j ≠ 27 → j ≠ 31 → j ≠ 34 → j ≠ 40 → j ≠ 50 → σ' 125 j = σ 125 j) : fC σ σ' := ⟨fun b h1 h2 j => h b (fun q => by have := hL b q; omega) j, h2⟩
/-- what is laid -/
def mZ (σ : StT) (G : Geo) : Prop := mM σ G ∧ mR σ G ∧ (∀ q, q ≤ pcn G → σ 147 q = (WA G q).length) ∧ (∀ j, j < (WA G (pcn G)).length → σ 148 j = wcd G ((WA G (pcn G)).getD j (0, 0))) ∧ mTr σ G (TR G (pcn G)) (WA G (pcn G)).length
theorem mZ.ext {σ σ' : StT} {G : Geo} (h : mZ σ G) (h1 : ∀ b, 131 ≤ b → b < 154 → ∀ j, σ' b j = σ b j) (h2 : ∀ j, j = 26 ∨ j = 27 ∨ j = 31 ∨ j = 50 → σ' 125 j = σ 125 j) : mZ σ' G := by
  obtain ⟨a1, ⟨⟨a2, a3⟩, a4, a5⟩, a6, a7, a8⟩ := h
  refine ⟨a1.ext (h2 26 (by omega)) (h2 27 (by omega)) (fun b x1 x2 => h1 b (by omega) (by omega)), ⟨⟨by rw [h2 31 (by omega)]; exact a2, fun i hi => ?_⟩, fun q i a b c => ?_, fun q hq => ?_⟩, fun q hq => ?_, fun j hj => ?_, a8.ext (Nat.le_refl _) (h2 50 (by omega)) (fun b x1 x2 => h1 b (by omega) (by omega)) (fun j _ => h1 148 (by omega) (by omega) j)⟩
  · rw [h1 135 (by omega) (by omega), h1 136 (by omega) (by omega)]; exact a3 i hi
  · rw [h1 137 (by omega) (by omega)]; exact a4 q i a b c
  · rw [h1 138 (by omega) (by omega)]; exact a5 q hq
  · rw [h1 147 (by omega) (by omega)]; exact a6 q hq
  · rw [h1 148 (by omega) (by omega)]; exact a7 j hj
theorem mR.ext {σ σ' : StT} {G : Geo} (h : mR σ G) (h1 : ∀ b, 135 ≤ b → b < 139 → ∀ j, σ' b j = σ b j) (h2 : σ' 125 31 = σ 125 31) : mR σ' G := by
  obtain ⟨⟨a2, a3⟩, a4, a5⟩ := h
  refine ⟨⟨by rw [h2]; exact a2, fun i hi => ?_⟩, fun q i a b c => ?_, fun q hq => ?_⟩
  · rw [h1 135 (by omega) (by omega), h1 136 (by omega) (by omega)]; exact a3 i hi
  · rw [h1 137 (by omega) (by omega)]; exact a4 q i a b c
  · rw [h1 138 (by omega) (by omega)]; exact a5 q hq
section MRECK
variable {S : ShT} {σ : StT} {Q : Int → StT → Prop} {G : Geo}
theorem m_reckons (hS : SHP S) (hok : okG G) (h : rG σ G) (hQ : ∀ σ' : StT, mZ σ' G → fC σ σ' → Q 0 σ') : WPs mX11_reckons [vR 125] S σ Q := by
  have hn : G.1 ≤ 24 := hok.1
  have hpn := pcn_le_n G
  refine e_X11_reckons hS (m_laysMeetings hS hok h ?_)
  intro σ1 hM1 f1 b1
  have hG1 : rG σ1 G := h.ext (fun j => f1 127 (by decide) j)
  refine m_laysPairs hS hok hG1 hM1 ?_
  intro σ2 hR2 f2 b2
  have hM2 : mM σ2 G := hM1.ext (b2 26 (by decide) (by decide)) (b2 27 (by decide) (by decide)) (fun b x1 x2 => f2 b (by simp; omega))
  have C2 : fC σ σ2 := (fC.of f1 (by simp) (fun j a b _ _ _ _ => b1 j a b)).trans (fC.of f2 (by simp) (fun j _ _ a b _ _ => b2 j a b))
  have hG2 : σ2 127 2 = G.1 := by rw [C2.1 127 (by decide) (by omega)]; exact h.1
  refine lup (I := fun i σ' => 0 ≤ i ∧ i ≤ 24 ∧ fr [141] σ2 σ' ∧ ∀ s : Nat, (s : Int) < i → σ' 141 s = 0) (W := fun i σ' => AWs mX11_reckons 10 [(0, vR 125), (1, vI i)] [] S σ' Q) 24 ?_ ?_ 0 σ2 ⟨by omega, by omega, fr.rf, fun s hs => by omega⟩
  · rintro i σ3 ⟨i0, i1, i2, i3⟩ hge
    refine t_X11_reckons_10 hS ⟨fun _ => ?_, fun q => absurd hge q⟩
    refine lup (I := fun i σ' => 0 ≤ i ∧ i ≤ 24 ∧ fr [141, 142] σ2 σ' ∧ (∀ s : Nat, s < 24 → σ' 141 s = 0) ∧ ∀ s : Nat, (s : Int) < i → σ' 142 s = 0) (W := fun i σ' => AWs mX11_reckons 31 [(0, vR 125), (1, vI i)] [] S σ' Q) 24 ?_ ?_ 0 σ3 ⟨by omega, by omega, i2.mono (by simp), fun s hs => i3 s (by omega), fun s hs => by omega⟩
    · rintro j σ4 ⟨j0, j1, j2, j3, j4⟩ hge2
      refine t_X11_reckons_31 hS ⟨fun _ => ?_, fun q => absurd hge2 q⟩
      have F4 : fr [125, 141, 142, 147] σ2 (up2 (up2 σ4 125 50 0) 147 0 0) := ((j2.mono (by simp)).put (by simp)).put (by simp)
      have B4 : ∀ j, j ≠ 50 → (up2 (up2 σ4 125 50 0) 147 0 0) 125 j = σ2 125 j := fun j hj => by rw [up2_a (by decide), up2_i hj]; exact j2 125 (by decide) j
      have hw4 : wM (up2 (up2 σ4 125 50 0) 147 0 0) G := by
        have : wM σ2 G := ⟨hG2, hn, hM2, hR2⟩
        exact this.ext (fun b x1 x2 => F4 b (by simp; omega)) (fun j _ a => B4 j a)
      have hg4 : ∀ q, q < pcn G → gnM (up2 (up2 σ4 125 50 0) 147 0 0) G q noG := fun q hq => by
        have h24 := PN_24 (G := G) hn (p := q + 1) (by omega)
        refine ⟨fun s s1 _ => ?_, fun i i1 i2 => ?_⟩
        · rw [up2_a (by decide), up2_a (by decide), j3 s (by omega)]; rfl
        · rw [up2_a (by decide), up2_a (by decide), j4 i (by omega)]; rfl
      have main : ∀ (d p : Nat) (σ5 : StT), pcn G - p = d → p ≤ pcn G → wM σ5 G → (∀ q, p ≤ q → q < pcn G → gnM σ5 G q noG) → (∀ q, q ≤ p → σ5 147 q = (WA G q).length) → (∀ j, j < (WA G p).length → σ5 148 j = wcd G ((WA G p).getD j (0, 0))) → mTr σ5 G (TR G p) (WA G p).length → fC σ σ5 → AWs mX11_reckons 64 [(0, vR 125), (1, vI (p : Int))] [] S σ5 Q := by
        intro d
        induction d with
        | zero =>
          intro p σ5 hd hp hw hg h147 h148 hT hC
          have ep : p = pcn G := by omega
          subst ep
          refine t_X11_reckons_64 hS ⟨fun _ => hQ σ5 ⟨hw.2.2.1, hw.2.2.2, h147, h148, hT⟩ hC, fun q => absurd (by rw [hw.2.2.1.2.1]; omega) q⟩
        | succ d ih =>
          intro p σ5 hd hp hw hg h147 h148 hT hC
          have hp' : p < pcn G := by omega
          refine t_X11_reckons_64 hS ⟨fun q => absurd q (by rw [hw.2.2.1.2.1]; omega), fun _ => ?_⟩
          refine m_walksPart hS hw hp' (hg p (by omega) hp') ?_
          intro σ6 kp6 hw6 f6 b6
          have w6 : wM σ6 G := hw.ext (fun b x1 x2 => f6 b (by simp; omega)) (fun j a _ => b6 j a)
          refine m_laysTrails hS hok hp' hw6 (by rw [f6 147 (by decide)]; exact h147 p (by omega)) (hT.ext (Nat.le_refl _) (b6 50 (by decide)) (fun b x1 x2 => f6 b (by simp; omega)) (fun j _ => f6 148 (by decide) j)) (fun j hj => by rw [f6 148 (by decide)]; exact h148 j hj) ?_
          intro σ7 hT7 h7 a7 c7 f7 b7
          refine ⟨inR_s (by omega) (by omega), ih (p + 1) σ7 (by omega) (by omega) (w6.ext (fun b x1 x2 => f7 b (by simp; omega)) (fun j _ a => b7 j a)) (fun q q1 q2 => ?_) (fun q hq => ?_) h7 hT7 ?_⟩
          · exact (kp6 q noG (by omega) q2 (hg q (by omega) q2)).ext (fun j => f7 141 (by decide) j) (fun j => f7 142 (by decide) j)
          · by_cases e : q = p + 1
            · rw [e]; exact a7
            · rw [c7 q e, f6 147 (by decide)]; exact h147 q (by omega)
          · exact hC.trans ((fC.of f6 (by simp) (fun j _ _ _ _ a _ => b6 j a)).trans (fC.of f7 (by simp) (fun j _ _ _ _ _ a => b7 j a)))
      refine main _ 0 _ rfl (by omega) hw4 (fun q _ hq => hg4 q hq) (fun q hq => ?_) (fun j hj => absurd hj (by simp [WA])) ⟨by rw [up2_a (by decide), up2_s]; rfl, fun T0 a T1 e => ?_⟩ (C2.trans (fC.of F4 (by simp) (fun j _ _ _ _ _ a => B4 j a)))
      · rw [show q = 0 by omega, up2_s]; rfl
      · have e' : ([] : Tr) = T0 ++ a :: T1 := e
        simp at e'
    · rintro j σ4 ⟨j0, j1, j2, j3, j4⟩ hlt kk
      obtain ⟨j, rfl⟩ := nat_of j0
      refine t_X11_reckons_31 hS ⟨fun q => absurd q (by omega), fun _ => ⟨⟨by omega, by omega⟩, inR_s (by omega) (by omega), kk _ ⟨by omega, by omega, j2.put (by simp), fun s hs => by rw [up2_a (by decide)]; exact j3 s hs, fun s hs => ?_⟩⟩⟩
      rw [tn_cast]
      by_cases e : s = j
      · subst e; rw [up2_s]
      · rw [up2_i e]; exact j4 s (by omega)
  · rintro i σ3 ⟨i0, i1, i2, i3⟩ hlt kk
    obtain ⟨i, rfl⟩ := nat_of i0
    refine t_X11_reckons_10 hS ⟨fun q => absurd q (by omega), fun _ => ⟨⟨by omega, by omega⟩, inR_s (by omega) (by omega), kk _ ⟨by omega, by omega, i2.put (by simp), fun s hs => ?_⟩⟩⟩
    rw [tn_cast]
    by_cases e : s = i
    · subst e; rw [up2_s]
    · rw [up2_i e]; exact i3 s (by omega)
/-- only what is laid anew changes, and the row -/
def fD (σ σ' : StT) : Prop := (∀ b, b ≠ 125 → b ≠ 127 → (b < 131 ∨ 154 ≤ b) → ∀ j, σ' b j = σ b j) ∧ ∀ j, j ≠ 26 → j ≠ 27 → j ≠ 31 → j ≠ 34 → j ≠ 40 → j ≠ 50 → σ' 125 j = σ 125 j
theorem fD.rf {σ : StT} : fD σ σ := ⟨fun _ _ _ _ _ => rfl, fun _ _ _ _ _ _ _ => rfl⟩
theorem fD.trans {σ σ1 σ2 : StT} (h : fD σ σ1) (k : fD σ1 σ2) : fD σ σ2 := ⟨fun b h1 h2 h3 j => (k.1 b h1 h2 h3 j).trans (h.1 b h1 h2 h3 j), fun j a b c d e f => (k.2 j a b c d e f).trans (h.2 j a b c d e f)⟩
theorem fC.D {σ σ' : StT} (h : fC σ σ') : fD σ σ' := ⟨fun b h1 _ h3 => h.1 b h1 h3, h.2⟩
theorem fD.put {σ σ' : StT} {i : Nat} {v : Int} (h : fD σ σ') : fD σ (up2 σ' 127 i v) := ⟨fun b h1 h2 h3 j => by rw [up2_a h2]; exact h.1 b h1 h2 h3 j, fun j a b c d e f => by rw [up2_a (by decide)]; exact h.2 j a b c d e f⟩
theorem fD.row {σ σ' : StT} (h : fr [127] σ σ') : fD σ σ' := ⟨fun b h1 h2 h3 j => h b (by simpa using h2) j, fun j _ _ _ _ _ _ => h 125 (by decide) j⟩
theorem m_plansAnew (hS : SHP S) (hok : okG G) (h : rG σ G) (hQ : ∀ σ' : StT, mZ σ' G → fD σ σ' → σ' 127 103 = (TR G (pcn G)).length → (∀ i, i < (TR G (pcn G)).length → σ' 127 (104 + i) = i ∧ σ' 127 (128 + i) = 0) → (∀ j, j < 103 → σ' 127 j = σ 127 j) → Q 0 σ') : WPs mX11_plansAnew [vR 125] S σ Q := by
  have hn : G.1 ≤ 24 := hok.1
  have hl : (TR G (pcn G)).length ≤ 24 := Nat.le_trans (okTr_TR hn).le hn
  refine e_X11_plansAnew hS (m_reckons hS hok h ?_)
  intro σ1 h1 c1
  have e50 : σ1 125 50 = (TR G (pcn G)).length := h1.2.2.2.2.1
  rw [e50]
  refine lup (I := fun i σ' => 0 ≤ i ∧ i ≤ (TR G (pcn G)).length ∧ fr [127] σ1 σ' ∧ σ' 127 103 = (TR G (pcn G)).length ∧ (∀ k : Nat, (k : Int) < i → σ' 127 (104 + k) = k ∧ σ' 127 (128 + k) = 0) ∧ ∀ j, j < 103 → σ' 127 j = σ1 127 j) (W := fun i σ' => AWs mX11_plansAnew 17 [(0, vR 125), (1, vI i)] [] S σ' Q) ((TR G (pcn G)).length : Int) ?_ ?_ 0 _ ⟨by omega, by omega, fr.rf.put (by simp), up2_s _ _ _ _, fun k hk => by omega, fun j hj => up2_i (by omega)⟩
  · rintro i σ2 ⟨i0, i1, i2, i3, i4, i5⟩ hge
    refine t_X11_plansAnew_17 hS ⟨fun _ => hQ σ2 (h1.ext (fun b x1 x2 => i2 b (by simp; omega)) (fun j _ => i2 125 (by decide) j)) (c1.D.trans (fD.row i2)) i3 (fun k hk => i4 k (by omega)) (fun j hj => by rw [i5 j hj]; exact c1.1 127 (by decide) (by omega) j), fun q => absurd (by rw [i2 125 (by decide), e50]; exact hge) q⟩
  · rintro i σ2 ⟨i0, i1, i2, i3, i4, i5⟩ hlt kk
    obtain ⟨i, rfl⟩ := nat_of i0
    refine t_X11_plansAnew_17 hS ?_
    rw [i2 125 (by decide), e50, show (104 + (i : Int)).toNat = 104 + i by omega, show (128 + (i : Int)).toNat = 128 + i by omega]
    refine ⟨fun q => absurd q (by omega), fun _ => ⟨inR_s (by omega) (by omega), ⟨by omega, by omega⟩, inR_s (by omega) (by omega), ⟨by omega, by omega⟩, inR_s (by omega) (by omega), kk _ ⟨by omega, by omega, (i2.put (by simp)).put (by simp), by rw [up2_i (by omega), up2_i (by omega)]; exact i3, fun k hk => ?_, fun j hj => by rw [up2_i (by omega), up2_i (by omega)]; exact i5 j hj⟩⟩⟩
    by_cases e : k = i
    · subst e
      exact ⟨by rw [up2_i (by omega), up2_s], up2_s _ _ _ _⟩
    · rw [up2_i (by omega), up2_i (by omega), up2_i (by omega), up2_i (by omega)]; exact i4 k (by omega)
end MRECK
