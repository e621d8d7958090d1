/-! Model: join, exchange, undo, feed -/
section MACTS2
variable {S : ShT} {σ : StT} {Q : Int → StT → Prop} {M : Ms} {D : Dw} {N : Nat} {f : Nat → Nat} {L : Hs}
theorem q_join {v : Int} (hS : SHP S) : MC S mX11_join [vR 125, vI v] M (A_join M v) := fun σ Q ho h hQ => by
  unfold A_join at hQ
  have no : ∀ k : Int, k = 1 ∨ k = 2 → (∀ σ' : StT, mT σ' (M.t k) → frR 125 154 σ σ' → Q (-1) σ') → ∀ P : Int → StT → Prop, WPs mX11_isRefused [vR 125, vI k] S σ (fun r33 s33 => (r33 = 0 → P r33 s33) ∧ (¬ (r33 = 0) → Q (-1) s33)) := fun k hk hh P =>
    m_isRefused hS (fun c => absurd c (by omega)) (fun _ => ⟨fun c => absurd c (by decide), fun _ => hh _ (h.t (by omega)) (rfu_R _ _)⟩)
  refine e_X11_join hS (m_in hS (fun q => e_X11_unless_ hS ⟨fun c => ⟨fun _ => ?_, fun c => absurd rfl c⟩, fun c => ?_⟩) (fun q => e_X11_unless_ hS ⟨fun c => ⟨fun c => absurd c (by decide), fun _ => ?_⟩, fun c => ?_⟩))
  · rw [if_pos (h.d c), if_neg q] at hQ
    exact no 2 (by omega) hQ _
  · rw [if_neg (fun d => h.dr1 d c)] at hQ
    exact no 1 (by omega) hQ _
  · have d := h.d c
    rw [if_pos d, if_pos q] at hQ
    have hE := ho.E d
    have hD := hE.1
    obtain ⟨a0, a1, a2, a3, a4, a5, a6, a7⟩ := (h.2.2 d).1
    refine m_isRefused hS (fun _ => ⟨fun _ => ?_, fun c => absurd rfl c⟩) (fun c => absurd rfl c)
    refine m_act hS ho h d ?_
    intro σ1 w1 k1 r1 F1
    have F2 : fr [127] σ1 (up2 σ1 127 1 v) := fr.rf.put (by simp)
    have K : ∀ j, j ≠ 1 → (up2 σ1 127 1 v) 127 j = σ 127 j := fun j j1 => by rw [up2_i j1]; exact r1 j
    have e1 : (up2 σ1 127 1 v) 127 1 = v := up2_s _ _ _ _
    rw [r1 1, a1]
    refine ⟨fun c2 => ?_, fun c2 => ?_⟩
    · rw [if_pos c2.symm] at hQ
      rw [r1 103, (h.2.2 d).2.1]
      have e127 : (up2 σ1 127 1 v) 127 = σ 127 := funext (fun j => by
        by_cases e : j = 1
        · subst e; rw [up2_s, a1, c2]
        · exact K j e)
      refine hQ _ ⟨mW.w (w1.ext (fun j hj => up2_a (by decide)) (fun j => up2_a (by decide))) d, k1.ext (up2_a (by decide)) (fun j => up2_a (by decide)), fun _ => ?_⟩ (F1.put (by omega) (by omega))
      rw [e127]; exact h.2.2 d
    · rw [if_neg (fun c => c2 c.symm)] at hQ
      generalize up2 σ1 127 1 v = σ2 at F2 K e1
      obtain ⟨k1', k2, k3, k4, k5, k6, k7, k8⟩ := hD
      have ho2 : okDw (joinD M.D v) := ⟨k1', k2, ⟨by show 0 ≤ v; omega, by show v ≤ 50; omega⟩, k4, k5, k6, k7, k8⟩
      have d2 : eD (σ2 127) (joinD M.D v) := ⟨by rw [K 0 (by decide)]; exact a0, e1, by rw [K 2 (by decide)]; exact a2, by rw [K 3 (by decide)]; exact a3, by rw [K 4 (by decide)]; exact a4, by rw [K 5 (by decide)]; exact a5, by rw [K 6 (by decide)]; exact a6, fun e he => by rw [K _ (by omega), K _ (by omega)]; exact a7 e he⟩
      refine m_plansAnew (G := gG (joinD M.D v)) hS ho2.g d2.toG ?_
      intro σ3 z3 c3 p103 pi prow
      have d3 : eD (σ3 127) (joinD M.D v) := d2.ext ho2.1 (fun k hk => prow k hk)
      have p103' : σ3 127 103 = ((TT (joinD M.D v)).length : Int) := p103
      rw [p103']
      refine hQ σ3 ⟨mW.w (w1.ext (fun j hj => ?_) (fun j => ?_)) d, k1.ext ?_ (fun j => ?_), fun _ => ⟨d3, eP.st p103 pi⟩⟩ (F1.trans ((F2.R (by simp)).trans c3.R))
      · rw [c3.2 j (by omega) (by omega) (by omega) (by omega) (by omega) (by omega), F2 125 (by decide)]
      · rw [c3.1 126 (by decide) (by decide) (by omega), F2 126 (by decide)]
      · rw [c3.2 10 (by omega) (by omega) (by omega) (by omega) (by omega) (by omega), F2 125 (by decide)]
      · rw [c3.1 130 (by decide) (by decide) (by omega), F2 130 (by decide)]
  · rw [if_neg (fun d => h.dr1 d c)] at hQ
    exact no 1 (by omega) hQ _
theorem q_exchange {i k : Int} (hS : SHP S) : MC S mX11_exchange [vR 125, vI i, vI k] M (A_exchange M i k) := fun σ Q ho h hQ => by
  unfold A_exchange at hQ
  have no : ∀ k : Int, k = 1 ∨ k = 2 → (∀ σ' : StT, mT σ' (M.t k) → frR 125 154 σ σ' → Q (-1) σ') → ∀ P : Int → StT → Prop, WPs mX11_isRefused [vR 125, vI k] S σ (fun r33 s33 => (r33 = 0 → P r33 s33) ∧ (¬ (r33 = 0) → Q (-1) s33)) := fun k hk hh P =>
    m_isRefused hS (fun c => absurd c (by omega)) (fun _ => ⟨fun c => absurd c (by decide), fun _ => hh _ (h.t (by omega)) (rfu_R _ _)⟩)
  refine e_X11_exchange hS (m_isRun hS ho h ?_)
  by_cases c : M.dr = true ∧ (0 ≤ i ∧ i < M.N) ∧ (0 ≤ k ∧ k < M.N)
  · rw [if_pos c]
    rw [if_pos c] at hQ
    obtain ⟨d, ci, ck⟩ := c
    refine ⟨fun q => e_X11_unless_ hS ⟨fun _ => ⟨fun _ => ?_, fun c => absurd rfl c⟩, fun c => absurd c (by decide)⟩, fun q => e_X11_unless_ hS ⟨fun _ => ⟨fun c => absurd c (by decide), fun _ => ?_⟩, fun c => absurd c (by decide)⟩⟩
    · rw [if_neg (by omega)] at hQ
      exact no 2 (by omega) hQ _
    · rw [if_pos (by omega)] at hQ
      have hE := ho.E d
      obtain ⟨i, rfl⟩ := nat_of ci.1
      obtain ⟨k, rfl⟩ := nat_of ck.1
      rw [tn_cast, tn_cast] at hQ
      refine m_isRefused hS (fun _ => ⟨fun _ => ?_, fun c => absurd rfl c⟩) (fun c => absurd rfl c)
      refine m_act hS ho h d ?_
      intro σ1 w1 k1 r1 F1
      have d1 : eD (σ1 127) M.D := (h.2.2 d).1.ext hE.1.1 (fun k _ => r1 k)
      have p1 : eP (σ1 127) M.N M.f := (h.2.2 d).2.ext hE.N (fun k _ _ => r1 k)
      refine m_reckons (G := gG M.D) hS hE.1.g d1.toG ?_
      intro σ2 z2 c2
      have e127 : σ2 127 = σ1 127 := funext (c2.1 127 (by decide) (by omega))
      have w2 : wQ σ2 M.D M.N M.f := ⟨hE, by rw [e127]; exact d1, by rw [e127]; exact p1, z2⟩
      refine m_exchanges hS w2 (by omega) (by omega) ?_
      intro σ3 w3 r3
      refine m_leaps hS w3 ?_
      refine hQ σ3 ⟨mW.w (w1.ext (fun j hj => ?_) (fun j => ?_)) d, k1.ext ?_ (fun j => ?_), fun _ => ⟨w3.2.1, w3.2.2.1⟩⟩ (F1.trans (c2.R.trans (r3.1.R (by simp))))
      · rw [r3.1 125 (by decide), c2.2 j (by omega) (by omega) (by omega) (by omega) (by omega) (by omega)]
      · rw [r3.1 126 (by decide), c2.1 126 (by decide) (by omega)]
      · rw [r3.1 125 (by decide), c2.2 10 (by omega) (by omega) (by omega) (by omega) (by omega) (by omega)]
      · rw [r3.1 130 (by decide), c2.1 130 (by decide) (by omega)]
  · rw [if_neg c]
    rw [if_neg c] at hQ
    exact ⟨fun q => e_X11_unless_ hS ⟨fun c => absurd rfl c, fun _ => no 1 (by omega) hQ _⟩, fun q => e_X11_unless_ hS ⟨fun c => absurd rfl c, fun _ => no 1 (by omega) hQ _⟩⟩
theorem q_undo (hS : SHP S) : MC S mX11_undo [vR 125] M (A_undo M) := fun σ Q ho h hQ => by
  unfold A_undo at hQ
  have h10 := h.2.1.1
  refine e_X11_undo hS ?_
  rw [h10]
  cases hL : M.L with
  | nil =>
    rw [hL] at hQ
    refine ⟨fun _ => e_X11_unless hS ⟨fun _ => m_isRefused hS (fun c => absurd c (by decide)) (fun _ => ⟨fun c => absurd c (by decide), fun _ => hQ _ (h.t (by decide)) (rfu_R _ _)⟩), fun c => absurd rfl c⟩, fun q => absurd (by simp) q⟩
  | cons e L =>
    rw [hL] at hQ
    have d : M.dr = true := by
      by_cases d : M.dr = true
      · exact d
      · have := ho.2.2.2.2.1 (dr_f d)
        rw [hL] at this; exact absurd this (by simp)
    refine ⟨fun q => absurd q (by simp), fun _ => e_X11_unless hS ⟨fun c => absurd c (by decide), fun _ => m_isRefused hS (fun _ => ⟨fun _ => ?_, fun c => absurd rfl c⟩) (fun c => absurd rfl c)⟩⟩
    have h0 := h.t (k := 0) (by decide)
    have hl := ho.2.2.2.1
    have hll : M.L.length = L.length + 1 := by rw [hL]; rfl
    have e10 : rfu σ 0 125 10 = ((L.length + 1 : Nat) : Int) := by rw [rfu_f (by decide) (by decide) (by decide), h10, hll]
    rw [e10, show (152 * (((L.length + 1 : Nat) : Int) - 1)) = ((152 * L.length : Nat) : Int) by omega]
    refine ⟨inR_s (by omega) (by omega), inR_s (by omega) (by omega), ?_⟩
    refine m_copies (f := 152 * L.length) (t := 0) hS (k_130 hS) (k_127 hS) (by decide) (by omega) (by omega) (by omega) (by omega) ?_
    intro σ1 c1 _ f1
    have hE0 := ho.2.2.1 0 (by omega)
    obtain ⟨g1, g2⟩ := h.2.1.2 0 (by omega)
    have hg0 : hg M.L 0 = e := by rw [hL]; rfl
    rw [hg0] at hE0 g1 g2
    have er : ∀ k, k < 152 → σ1 127 k = σ 130 (152 * (M.L.length - 1 - 0) + k) := fun k hk => by
      have := c1 k hk
      rw [Nat.zero_add] at this
      rw [this, up2_a (by decide), rfu_b (by decide), show M.L.length - 1 - 0 = L.length by omega]
    refine hQ σ1 ⟨mW.w (h0.1.ext (fun j hj => ?_) (fun j => ?_)) d, ⟨?_, fun i hi => ?_⟩, fun _ => ⟨g1.ext hE0.1.1 (fun k hk => er k (by omega)), g2.ext hE0.N (fun k _ hk => er k hk)⟩⟩ ((rfu_R _ _).trans ((frR.rf.put (a := 125) (by omega) (by omega)).trans (f1.R (by simp))))
    · rw [f1 125 (by decide), up2_i (by omega)]
    · rw [f1 126 (by decide), up2_a (by decide)]
    · rw [f1 125 (by decide), up2_s]; show _ = (L.length : Int); omega
    · have hi' : i < L.length := hi
      have e130 : σ1 130 = σ 130 := funext (fun j => by rw [f1 130 (by decide), up2_a (by decide), rfu_b (by decide)])
      have := h.2.1.2 (i + 1) (by omega)
      rw [show hg M.L (i + 1) = hg L i by rw [hL]; rfl, show M.L.length - 1 - (i + 1) = L.length - 1 - i by omega] at this
      rw [e130]; exact this
theorem m_laysWord {v : Int} {t : Nat} (hS : SHP S) (h5 : σ 125 5 = t) (ht : t + 4 ≤ 700) (hQ : ∀ σ' : StT, σ' 125 5 = ((t + 4 : Nat) : Int) → (∀ x, x < 4 → σ' 126 (t + x) = iAnd (iShr v (24 - 8 * (x : Int))) 255) → (∀ x, (x < t ∨ t + 4 ≤ x) → σ' 126 x = σ 126 x) → fr [125, 126] σ σ' → (∀ j, j ≠ 5 → σ' 125 j = σ 125 j) → Q 0 σ') : WPs mX11_laysWord [vR 125, vI v] S σ Q := by
  refine e_X11_laysWord hS ?_
  refine lup (I := fun i σ' => 0 ≤ i ∧ i ≤ 4 ∧ fr [126] σ σ' ∧ (∀ x : Nat, (x : Int) < i → σ' 126 (t + x) = iAnd (iShr v (24 - 8 * (x : Int))) 255) ∧ ∀ x, (x < t ∨ t + 4 ≤ x) → σ' 126 x = σ 126 x) (W := fun i σ' => AWs mX11_laysWord 2 [(0, vR 125), (1, vI v), (2, vI i)] [] S σ' Q) 4 ?_ ?_ 0 σ ⟨by omega, by omega, fr.rf, fun x hx => by omega, fun _ _ => rfl⟩
  · rintro i σ1 ⟨i0, i1, i2, i3, i4⟩ hge
    refine t_X11_laysWord_2 hS ⟨fun _ => ?_, fun q => absurd hge q⟩
    rw [i2 125 (by decide), h5]
    exact ⟨inR_s (by omega) (by omega), hQ _ (by rw [up2_s]; omega) (fun x hx => by rw [up2_a (by decide)]; exact i3 x (by omega)) (fun x hx => by rw [up2_a (by decide)]; exact i4 x hx) ((i2.mono (by simp)).put (by simp)) (fun j hj => by rw [up2_i hj]; exact i2 125 (by decide) j)⟩
  · rintro i σ1 ⟨i0, i1, i2, i3, i4⟩ hlt kk
    obtain ⟨i, rfl⟩ := nat_of i0
    refine t_X11_laysWord_2 hS ⟨fun q => absurd q (by omega), fun _ => ?_⟩
    rw [i2 125 (by decide), h5, show ((t : Int) + (i : Int)).toNat = t + i by omega]
    refine ⟨inR_s (by omega) (by omega), inR_s (by omega) (by omega), inR_s (by omega) (by omega), ⟨by omega, by omega⟩, inR_s (by omega) (by omega), kk _ ⟨by omega, by omega, i2.put (by simp), fun x hx => ?_, fun x hx => ?_⟩⟩
    · by_cases e : x = i
      · subst e; rw [up2_s]
      · rw [up2_i (by omega)]; exact i3 x (by omega)
    · rw [up2_i (by omega)]; exact i4 x hx
theorem q_feed {a b c d e : Int} (hS : SHP S) : MC S mX11_feed [vR 125, vI a, vI b, vI c, vI d, vI e] M (A_feed M a b c d e) := fun σ Q ho h hQ => by
  unfold A_feed at hQ
  have h5 := h.1.1
  refine e_X11_feed hS ?_
  rw [h5]
  refine ⟨fun q => ?_, fun q => ?_⟩
  · rw [if_neg (by omega)] at hQ
    have s0 := h.s0
    refine m_laysWord (t := M.tl) hS s0.1.1 (by omega) ?_
    intro σ1 t1 n1 o1 f1 b1
    refine m_laysWord (t := M.tl + 4) hS t1 (by omega) ?_
    intro σ2 t2 n2 o2 f2 b2
    refine m_laysWord (t := M.tl + 4 + 4) hS t2 (by omega) ?_
    intro σ3 t3 n3 o3 f3 b3
    refine m_laysWord (t := M.tl + 4 + 4 + 4) hS t3 (by omega) ?_
    intro σ4 t4 n4 o4 f4 b4
    refine m_laysWord (t := M.tl + 4 + 4 + 4 + 4) hS t4 (by omega) ?_
    intro σ5 t5 n5 o5 f5 b5
    have F : fr [125, 126] (up2 σ 125 0 0) σ5 := f1.trans (f2.trans (f3.trans (f4.trans f5)))
    have B : ∀ j, j ≠ 5 → σ5 125 j = (up2 σ 125 0 0) 125 j := fun j hj => by rw [b5 j hj, b4 j hj, b3 j hj, b2 j hj, b1 j hj]
    rw [t5, show M.tl + 4 + 4 + 4 + 4 + 4 = M.tl + 20 by omega]
    have e127 : σ5 127 = (up2 σ 125 0 0) 127 := funext (F 127 (by decide))
    refine hQ σ5 ⟨⟨?_, fun x hx => ?_, ?_, ?_, ?_, fun q => ?_⟩, s0.2.1.ext (B 10 (by decide)) (F 130 (by decide)), fun q => ?_⟩ (R0.trans (F.R (by simp)))
    · rw [t5, show M.tl + 4 + 4 + 4 + 4 + 4 = M.tl + 20 by omega]; rfl
    · have hx' : x < M.tl + 20 := hx
      show σ5 126 x = (if x < M.tl then M.tb x else by5 a b c d e (x - M.tl)) ∧ 0 ≤ (if x < M.tl then M.tb x else by5 a b c d e (x - M.tl))
      refine ⟨?_, by
        split
        · rename_i c0; exact (s0.1.2.1 x c0).2
        · exact (iAnd_255 _).1⟩
      by_cases c0 : x < M.tl
      · rw [if_pos c0, o5 x (by omega), o4 x (by omega), o3 x (by omega), o2 x (by omega), o1 x (by omega)]
        exact (s0.1.2.1 x c0).1
      · rw [if_neg c0]
        obtain ⟨z, rfl⟩ : ∃ z, x = M.tl + z := ⟨x - M.tl, by omega⟩
        rw [Nat.add_sub_cancel_left]
        unfold by5
        by_cases c1 : z < 4
        · rw [o5 _ (by omega), o4 _ (by omega), o3 _ (by omega), o2 _ (by omega), n1 z c1, if_pos (by omega), show z % 4 = z by omega]
        · by_cases c2 : z < 8
          · have := n2 (z - 4) (by omega)
            rw [show M.tl + 4 + (z - 4) = M.tl + z by omega] at this
            rw [o5 _ (by omega), o4 _ (by omega), o3 _ (by omega), this, if_neg (by omega), if_pos (by omega), show z % 4 = z - 4 by omega]
          · by_cases c3 : z < 12
            · have := n3 (z - 8) (by omega)
              rw [show M.tl + 4 + 4 + (z - 8) = M.tl + z by omega] at this
              rw [o5 _ (by omega), o4 _ (by omega), this, if_neg (by omega), if_neg (by omega), if_pos (by omega), show z % 4 = z - 8 by omega]
            · by_cases c4 : z < 16
              · have := n4 (z - 12) (by omega)
                rw [show M.tl + 4 + 4 + 4 + (z - 12) = M.tl + z by omega] at this
                rw [o5 _ (by omega), this, if_neg (by omega), if_neg (by omega), if_neg (by omega), if_pos (by omega), show z % 4 = z - 12 by omega]
              · have := n5 (z - 16) (by omega)
                rw [show M.tl + 4 + 4 + 4 + 4 + (z - 16) = M.tl + z by omega] at this
                rw [this, if_neg (by omega), if_neg (by omega), if_neg (by omega), if_neg (by omega), show z % 4 = z - 16 by omega]
    · rw [B 11 (by decide)]; exact s0.1.2.2.1
    · rw [B 1 (by decide)]; exact s0.1.2.2.2.1
    · rw [B 2 (by decide)]; exact s0.1.2.2.2.2.1
    · rw [B 3 (by decide)]; exact s0.1.2.2.2.2.2 q
    · rw [e127]; exact s0.2.2 q
  · rw [if_pos (by omega)] at hQ
    exact hQ _ h.s0 R0
end MACTS2
