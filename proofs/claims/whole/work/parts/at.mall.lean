/-! Model: the whole text; sheet -/
section MALL
variable {S : ShT} {σ : StT} {Q : Int → StT → Prop} {b : Nat → Int} {n s : Nat} {P : Pst}
/-- before the four numbers of a stroke -/
theorem m_readStroke (hS : SHP S) (hC : rCm σ b n) (hs : s ≤ n) (hK : atKm σ b n s) (hM : pM σ P) (hok : P.1 = true → P.2.2.2.n ≤ 24) (hw0 : isW b n s 0 = false) (hw : isW b n s 1 = true)
    (h0 : ∀ (e : PF) (σ' : StT), pLine b n s P = .inl e → flm σ' e → pF σ σ' → Q 0 σ')
    (h1 : ∀ (q : Pst × Nat) (σ' : StT), pLine b n s P = .inr q → pM σ' q.1 → atKm σ' b n q.2 → pF σ σ' → Q 1 σ') : WPs mX11_readStroke [vR 125] S σ Q := by
  have hk := isW_k hw
  have e2 : σ 128 2 = P.2.2.2.n := by
    cases e : P.1 with
    | true => exact (hM.2.2.2.1 e).2.2.1
    | false =>
      obtain ⟨c1, c2, c3, c4, -⟩ := hM.2.2.2.2 e
      rw [c1]; exact c4
  have hn24 : P.2.2.2.n ≤ 24 := by
    cases e : P.1 with
    | true => exact hok e
    | false => rw [(hM.2.2.2.2 e).1]; show 0 ≤ 24; omega
  refine e_X11_readStroke hS ?_
  rw [e2, hM.1, b2i_0]
  refine ⟨fun q => ⟨fun q2 => ?_, fun q2 => m_errs hS hK (fun σ' a F => ⟨Or.inl rfl, h0 (6, tS b n s) σ' ?_ a F⟩)⟩, fun q => m_errs hS hK (fun σ' a F => ⟨Or.inl rfl, h0 (5, tS b n s) σ' ?_ a F⟩)⟩
  · have hP : P.1 = true := by cases e : P.1 <;> simp_all
    have hn : P.2.2.2.n < 24 := by omega
    have hp : pLine b n s P = pStroke b n (tN b n s) P := by unfold pLine; rw [if_neg (by simp [hw0]), if_pos (Or.inl hw), if_neg (by simp [hP]), if_pos hw, if_pos hn]
    rw [hp] at h0 h1
    obtain ⟨g1, g2, g3, g4, g5⟩ := hM
    obtain ⟨d0, d1, d2, d3, d4, d5, d6, d7⟩ := g4 hP
    generalize hN : P.2.2.2.n = N at hn d2 d7 e2
    refine m_goesOn (b := b) (n := n) (s := tN b n s) hS hC (tN_le hs).2 (hK.2.2.1 (by omega)) ?_
    intro σ1 a1 R1
    rw [R1.1 128 (by decide), d2]
    refine ⟨inR_s (by omega) (by omega), inR_s (by omega) (by omega), fun x hx => ?_⟩
    rw [show 7 + 4 * (N : Int) = ((7 + 4 * N : Nat) : Int) by omega] at hx
    subst hx
    have C1 := hC.k R1
    have r0 : σ1 128 0 = P.2.2.2.sz := by rw [R1.1 128 (by decide)]; exact d0
    -- first
    refine t_X11_readStroke_49 hS ⟨fun c => absurd c (by decide), fun _ => ⟨fun _ => ?_, fun c => absurd c (by decide)⟩⟩
    refine t_X11_readStroke_116 hS ⟨inR_s (by omega) (by omega), ?_⟩
    rw [r0, show (((7 + 4 * N : Nat) : Int) + 0) = ((7 + 4 * N : Nat) : Int) by omega]
    refine m_lays (to := 7 + 4 * N) hS (by omega) C1 (tN_le hs).2 a1 (fun e σ2 q3 q4 F2 => ⟨fun c => absurd rfl c, fun _ => h0 e σ2 ?_ q4 (R1.F.trans F2)⟩) (fun x σ2 q3 a2 l2 => ⟨fun _ => ⟨inR_s (by omega) (by omega), ?_⟩, fun c => absurd c (by decide)⟩)
    · unfold pStroke; rw [q3]; rfl
    obtain ⟨x1, x2, -, xn⟩ := pWh_ok q3 (tN_le hs).2
    have r0 : σ2 128 0 = P.2.2.2.sz := by rw [l2.1, if_neg (by omega)]; exact r0
    -- second
    refine t_X11_readStroke_49 hS ⟨fun c => absurd c (by decide), fun _ => ⟨fun _ => ?_, fun c => absurd c (by decide)⟩⟩
    refine t_X11_readStroke_116 hS ⟨inR_s (by omega) (by omega), ?_⟩
    rw [r0, show (((7 + 4 * N : Nat) : Int) + (0 + 1)) = ((8 + 4 * N : Nat) : Int) by omega]
    refine m_lays (to := 8 + 4 * N) hS (by omega) (C1.F l2.F) xn a2 (fun e σ3 q5 q6 F3 => ⟨fun c => absurd rfl c, fun _ => h0 e σ3 ?_ q6 (R1.F.trans (l2.F.trans F3))⟩) (fun y σ3 q5 a3 l3 => ⟨fun _ => ⟨inR_s (by omega) (by omega), ?_⟩, fun c => absurd c (by decide)⟩)
    · unfold pStroke; rw [q3]
      show bd (pWh b n x.2 0 P.2.2.2.sz) _ = _
      rw [q5]; rfl
    obtain ⟨y1, y2, -, yn⟩ := pWh_ok q5 xn
    have r0 : σ3 128 0 = P.2.2.2.sz := by rw [l3.1, if_neg (by omega)]; exact r0
    -- third
    refine t_X11_readStroke_49 hS ⟨fun c => absurd c (by decide), fun _ => ⟨fun _ => ?_, fun c => absurd c (by decide)⟩⟩
    refine t_X11_readStroke_116 hS ⟨inR_s (by omega) (by omega), ?_⟩
    rw [r0, show (((7 + 4 * N : Nat) : Int) + (0 + 1 + 1)) = ((9 + 4 * N : Nat) : Int) by omega]
    refine m_lays (to := 9 + 4 * N) hS (by omega) ((C1.F l2.F).F l3.F) yn a3 (fun e σ4 q7 q8 F4 => ⟨fun c => absurd rfl c, fun _ => h0 e σ4 ?_ q8 (R1.F.trans (l2.F.trans (l3.F.trans F4)))⟩) (fun u σ4 q7 a4 l4 => ⟨fun _ => ⟨inR_s (by omega) (by omega), ?_⟩, fun c => absurd c (by decide)⟩)
    · unfold pStroke; rw [q3]
      show bd (pWh b n x.2 0 P.2.2.2.sz) _ = _
      rw [q5]
      show bd (pWh b n y.2 0 P.2.2.2.sz) _ = _
      rw [q7]; rfl
    obtain ⟨u1, u2, -, un⟩ := pWh_ok q7 yn
    have r0 : σ4 128 0 = P.2.2.2.sz := by rw [l4.1, if_neg (by omega)]; exact r0
    have C4 := ((C1.F l2.F).F l3.F).F l4.F
    have F4 : pF σ σ4 := R1.F.trans (l2.F.trans (l3.F.trans l4.F))
    have ex : σ4 128 (7 + 4 * N) = x.1 := by rw [l4.1, if_neg (by omega), l3.1, if_neg (by omega), l2.1, if_pos rfl]
    have ey : σ4 128 (8 + 4 * N) = y.1 := by rw [l4.1, if_neg (by omega), l3.1, if_pos rfl]
    have eu : σ4 128 (9 + 4 * N) = u.1 := by rw [l4.1, if_pos rfl]
    have hps : ∀ r, pWh b n u.2 0 P.2.2.2.sz = r → pStroke b n (tN b n s) P = bd r (fun v => if x.1 = u.1 ∧ y.1 = v.1 then .inl (3, tS b n u.2) else .inr ((P.1, P.2.1, P.2.2.1, addD P.2.2.2 x.1 y.1 u.1 v.1), v.2)) := fun r hr => by
      unfold pStroke; rw [q3]
      show bd (pWh b n x.2 0 P.2.2.2.sz) _ = _
      rw [q5]
      show bd (pWh b n y.2 0 P.2.2.2.sz) _ = _
      rw [q7]
      show bd (pWh b n u.2 0 P.2.2.2.sz) _ = _
      rw [hr]
    -- fourth
    have four : ¬ (tK b n u.2 = 2 ∧ x.1 = u.1 ∧ y.1 = tV b n u.2 ∧ tV b n u.2 ≤ P.2.2.2.sz) → AWs mX11_readStroke 116 [(0, vR 125), (1, vI ((7 + 4 * N : Nat) : Int)), (2, vI (0 + 1 + 1 + 1))] [] S σ4 Q := fun nd => by
      refine t_X11_readStroke_116 hS ⟨inR_s (by omega) (by omega), ?_⟩
      rw [r0, show (((7 + 4 * N : Nat) : Int) + (0 + 1 + 1 + 1)) = ((10 + 4 * N : Nat) : Int) by omega]
      refine m_lays (to := 10 + 4 * N) hS (by omega) C4 un a4 (fun e σ5 q9 q10 F5 => ⟨fun c => absurd rfl c, fun _ => h0 e σ5 (by rw [hps _ q9]; rfl) q10 (F4.trans F5)⟩) (fun v σ5 q9 a5 l5 => ⟨fun _ => ⟨inR_s (by omega) (by omega), ?_⟩, fun c => absurd c (by decide)⟩)
      have hv : v = (tV b n u.2, tN b n u.2) ∧ tK b n u.2 = 2 ∧ tV b n u.2 ≤ P.2.2.2.sz := by
        unfold pWh at q9
        by_cases c : tK b n u.2 = 2
        · rw [if_pos c] at q9
          by_cases c2 : 0 ≤ tV b n u.2 ∧ tV b n u.2 ≤ P.2.2.2.sz
          · rw [if_pos c2] at q9; cases q9; exact ⟨rfl, c, c2.2⟩
          · rw [if_neg c2] at q9; cases q9
        · rw [if_neg c] at q9; cases q9
      have ne : ¬ (x.1 = u.1 ∧ y.1 = v.1) := fun c => nd ⟨hv.2.1, c.1, by rw [hv.1] at c; exact c.2, hv.2.2⟩
      refine t_X11_readStroke_49 hS ⟨fun _ => ?_, fun c => absurd (by decide) c⟩
      have K : ∀ i, σ5 128 i = if i = 10 + 4 * N then v.1 else if i = 9 + 4 * N then u.1 else if i = 8 + 4 * N then y.1 else if i = 7 + 4 * N then x.1 else σ 128 i := fun i => by
        rw [l5.1, l4.1, l3.1, l2.1, R1.1 128 (by decide)]
      have e22 : σ5 128 2 = N := by rw [K, if_neg (by omega), if_neg (by omega), if_neg (by omega), if_neg (by omega)]; exact d2
      rw [e22]
      refine ⟨inR_s (by omega) (by omega), h1 ((P.1, P.2.1, P.2.2.1, addD P.2.2.2 x.1 y.1 u.1 v.1), v.2) _ ?_ ⟨?_, ?_, ?_, fun _ => ?_, fun c => absurd hP (by rw [show P.1 = false from c]; decide)⟩ ⟨by rw [up2_a (by decide)]; exact a5.1, by rw [up2_a (by decide)]; exact a5.2.1, fun c => by rw [up2_a (by decide)]; exact a5.2.2.1 c, fun c => by rw [up2_a (by decide)]; exact a5.2.2.2 c⟩ (F4.trans l5.F).pb⟩
      · rw [hps _ q9]
        show (if x.1 = u.1 ∧ y.1 = v.1 then _ else _) = _
        rw [if_neg ne]
      · rw [up2_a (by decide), l5.2.2 19 (by decide) (by decide) (by decide) (by decide), l4.2.2 19 (by decide) (by decide) (by decide) (by decide), l3.2.2 19 (by decide) (by decide) (by decide) (by decide), l2.2.2 19 (by decide) (by decide) (by decide) (by decide), R1.2 19 (by decide) (by decide) (by decide) (by decide)]; exact g1
      · rw [up2_a (by decide), l5.2.2 20 (by decide) (by decide) (by decide) (by decide), l4.2.2 20 (by decide) (by decide) (by decide) (by decide), l3.2.2 20 (by decide) (by decide) (by decide) (by decide), l2.2.2 20 (by decide) (by decide) (by decide) (by decide), R1.2 20 (by decide) (by decide) (by decide) (by decide)]; exact g2
      · rw [up2_a (by decide), l5.2.2 21 (by decide) (by decide) (by decide) (by decide), l4.2.2 21 (by decide) (by decide) (by decide) (by decide), l3.2.2 21 (by decide) (by decide) (by decide) (by decide), l2.2.2 21 (by decide) (by decide) (by decide) (by decide), R1.2 21 (by decide) (by decide) (by decide) (by decide)]; exact g3
      · have K2 : ∀ i, i ≠ 2 → i < 7 + 4 * N → (up2 σ5 128 2 ((N : Int) + 1)) 128 i = σ 128 i := fun i i1 i2 => by rw [up2_i i1, K, if_neg (by omega), if_neg (by omega), if_neg (by omega), if_neg (by omega)]
        refine ⟨by rw [K2 0 (by decide) (by omega)]; exact d0, by rw [K2 1 (by decide) (by omega)]; exact d1, ?_, by rw [K2 3 (by decide) (by omega)]; exact d3, by rw [K2 4 (by decide) (by omega)]; exact d4, by rw [K2 5 (by decide) (by omega)]; exact d5, by rw [K2 6 (by decide) (by omega)]; exact d6, fun e he => ?_⟩
        · rw [up2_s]; show _ = ((P.2.2.2.n + 1 : Nat) : Int); omega
        · have he' : e < 2 * (P.2.2.2.n + 1) := he
          show _ = (if e = 2 * P.2.2.2.n then x.1 else if e = 2 * P.2.2.2.n + 1 then u.1 else P.2.2.2.X e) ∧ _ = (if e = 2 * P.2.2.2.n then y.1 else if e = 2 * P.2.2.2.n + 1 then v.1 else P.2.2.2.Y e)
          rw [hN] at he' ⊢
          by_cases c1 : e = 2 * N
          · rw [if_pos c1, if_pos c1]
            refine ⟨?_, ?_⟩
            · rw [up2_i (by omega), K, if_neg (by omega), if_neg (by omega), if_neg (by omega), if_pos (by omega)]
            · rw [up2_i (by omega), K, if_neg (by omega), if_neg (by omega), if_pos (by omega)]
          · rw [if_neg c1, if_neg c1]
            by_cases c2 : e = 2 * N + 1
            · rw [if_pos c2, if_pos c2]
              refine ⟨?_, ?_⟩
              · rw [up2_i (by omega), K, if_neg (by omega), if_pos (by omega)]
              · rw [up2_i (by omega), K, if_pos (by omega)]
            · rw [if_neg c2, if_neg c2, K2 _ (by omega) (by omega), K2 _ (by omega) (by omega)]
              exact d7 e (by omega)
    refine t_X11_readStroke_49 hS ⟨fun c => absurd c (by decide), fun _ => ⟨fun c => absurd (by decide) c, fun _ => ?_⟩⟩
    rw [a4.1, kc_2, show (((7 + 4 * N : Nat) : Int)).toNat = 7 + 4 * N from rfl, show (((7 + 4 * N : Nat) : Int) + 2).toNat = 9 + 4 * N by omega, show (((7 + 4 * N : Nat) : Int) + 1).toNat = 8 + 4 * N by omega, ex, ey, eu, r0]
    refine ⟨fun c => four (fun h => c h.1), fun c => ⟨⟨by omega, by omega⟩, inR_s (by omega) (by omega), ⟨by omega, by omega⟩, fun c2 => four (fun h => c2 h.2.1), fun c2 => ⟨inR_s (by omega) (by omega), ⟨by omega, by omega⟩, fun c3 => ?_, fun c3 => ⟨fun c4 => ?_, fun c4 => ?_⟩⟩⟩⟩
    · rw [a4.2.2.2 c] at c3
      exact four (fun h => c3 h.2.2.1)
    · rw [a4.2.2.2 c] at c4
      exact four (fun h => by omega)
    · rw [a4.2.2.2 c] at c3 c4
      refine m_errs hS a4 (fun σ5 q9 F5 => ⟨Or.inl rfl, h0 (3, tS b n u.2) σ5 ?_ q9 (F4.trans F5)⟩)
      have hw4 : pWh b n u.2 0 P.2.2.2.sz = .inr (tV b n u.2, tN b n u.2) := by unfold pWh; rw [if_pos c, if_pos ⟨by omega, by omega⟩]
      rw [hps _ hw4]
      show (if x.1 = u.1 ∧ y.1 = tV b n u.2 then _ else _) = _
      rw [if_pos ⟨c2, c3⟩]
  · unfold pLine; rw [if_neg (by simp [hw0]), if_pos (Or.inl hw), if_pos q2]
  · have hP : P.1 = true := by
      cases e : P.1 with
      | true => rfl
      | false =>
        have := (hM.2.2.2.2 e).1
        rw [this] at q
        exact absurd q (by decide)
    unfold pLine; rw [if_neg (by simp [hw0]), if_pos (Or.inl hw), if_neg (by simp [hP]), if_pos hw, if_neg (by omega)]
theorem m_readLine (hS : SHP S) (hC : rCm σ b n) (hs : s ≤ n) (hK : atKm σ b n s) (hM : pM σ P) (hok : okP P)
    (h0 : ∀ (e : PF) (σ' : StT), pLine b n s P = .inl e → flm σ' e → pF σ σ' → Q 0 σ')
    (h1 : ∀ (q : Pst × Nat) (σ' : StT), pLine b n s P = .inr q → pM σ' q.1 → atKm σ' b n q.2 → pF σ σ' → Q 1 σ') : WPs mX11_readLine [vR 125] S σ Q := by
  have w6 : ∀ w, w < 6 → isW b n s (6 + w) = isW b n s w := fun w hw => isW6 hw
  refine e_X11_readLine hS (m_isWord (w := 6) hS (by decide) hC hs hK ?_)
  rw [show isW b n s 6 = isW b n s 0 from w6 0 (by decide)]
  cases c0 : isW b n s 0 with
  | true =>
    rw [if_pos rfl]
    exact ⟨fun c => absurd c (by decide), fun _ => m_readSheet hS hC hs hK hM c0 (fun e σ' a f g => ⟨Or.inl rfl, h0 e σ' a f g⟩) (fun q σ' a f g k => ⟨Or.inr rfl, h1 q σ' a f g k⟩)⟩
  | false =>
    rw [if_neg (by simp)]
    refine ⟨fun _ => m_isWord (w := 7) hS (by decide) hC hs hK ?_, fun c => absurd rfl c⟩
    rw [show isW b n s 7 = isW b n s 1 from w6 1 (by decide)]
    cases c1 : isW b n s 1 with
    | true =>
      rw [if_pos rfl]
      exact ⟨fun c => absurd c (by decide), fun _ => m_readStroke hS hC hs hK hM (fun q => (hok.1 q).1) c0 c1 (fun e σ' a f g => ⟨Or.inl rfl, h0 e σ' a f g⟩) (fun q σ' a f g k => ⟨Or.inr rfl, h1 q σ' a f g k⟩)⟩
    | false =>
      rw [if_neg (by simp)]
      refine ⟨fun _ => m_isWord (w := 8) hS (by decide) hC hs hK ?_, fun c => absurd rfl c⟩
      rw [show isW b n s 8 = isW b n s 2 from w6 2 (by decide)]
      cases c2 : isW b n s 2 with
      | true =>
        rw [if_pos rfl]
        exact ⟨fun c => absurd c (by decide), fun _ => m_readHome hS hC hs hK hM c0 c1 c2 (fun e σ' a f g => ⟨Or.inl rfl, h0 e σ' a f g⟩) (fun q σ' a f g k => ⟨Or.inr rfl, h1 q σ' a f g k⟩)⟩
      | false =>
        rw [if_neg (by simp)]
        refine ⟨fun _ => m_isWord (w := 9) hS (by decide) hC hs hK ?_, fun c => absurd rfl c⟩
        rw [show isW b n s 9 = isW b n s 3 from w6 3 (by decide)]
        cases c3 : isW b n s 3 with
        | true =>
          rw [if_pos rfl]
          exact ⟨fun c => absurd c (by decide), fun _ => m_readPace hS hC hs hK hM c0 c1 c2 c3 (fun e σ' a f g => ⟨Or.inl rfl, h0 e σ' a f g⟩) (fun q σ' a f g k => ⟨Or.inr rfl, h1 q σ' a f g k⟩)⟩
        | false =>
          rw [if_neg (by simp)]
          refine ⟨fun _ => m_errs hS hK (fun σ' a F => ⟨Or.inl rfl, h0 (1, tS b n s) σ' ?_ a F⟩), fun c => absurd rfl c⟩
          unfold pLine; rw [if_neg (by simp [c0]), if_neg (by simp [c1, c2, c3])]
theorem m_rdAll (hS : SHP S) : ∀ (r s : Nat) (P : Pst) (σ : StT), n - s < r → s ≤ n → okP P → rCm σ b n → atKm σ b n s → pM σ P →
    (∀ (e : PF) (σ' : StT), pAll b n r s P = .inl e → flm σ' e → pF σ σ' → Q 0 σ') → (∀ (D : Dw) (σ' : StT), pAll b n r s P = .inr D → eD (σ' 128) D → pF σ σ' → Q 1 σ') →
    WPs mX11_readLine [vR 125] S σ (fun r66 s66 => (¬ r66 = 0 → AWs mX11_readAll 74 [(0, vR 125)] [] S s66 Q) ∧ (r66 = 0 → Q 0 s66))
  | 0, s, P, σ, hr, _, _, _, _, _, _, _ => by omega
  | r + 1, s, P, σ, hr, hs, hok, hC, hK, hM, h0, h1 => by
    refine m_readLine hS hC hs hK hM hok (fun e σ' a f g => ⟨fun c => absurd rfl c, fun _ => h0 e σ' ?_ f g⟩) (fun q σ1 a m1 k1 F1 => ⟨fun _ => ?_, fun c => absurd c (by decide)⟩)
    · unfold pAll; rw [a]; rfl
    · obtain ⟨p1, p2, p3, p4⟩ := pLine_ok a hs hok
      have hpa : pAll b n (r + 1) s P = if tK b n q.2 = 0 then .inr q.1.2.2.2 else if tK b n q.2 = 3 then pAll b n r (tN b n q.2) q.1 else .inl (1, tS b n q.2) := by
        show bd (pLine b n s P) _ = _
        rw [a]; rfl
      rw [hpa] at h0 h1
      have C1 := hC.F F1
      refine t_X11_readAll_74 hS ?_
      rw [k1.1, kc_3, kc_0]
      refine ⟨fun c => ⟨fun c2 => ⟨fun _ => ?_, fun c3 => ?_⟩, fun c2 => m_errs hS k1 (fun σ2 a2 F2 => ⟨Or.inl rfl, h0 (1, tS b n q.2) σ2 ?_ a2 (F1.trans F2)⟩)⟩, fun c => ?_⟩
      · rw [if_pos c2] at h1
        exact h1 _ σ1 rfl (m1.2.2.2.1 p3) F1
      · rw [m1.1, p3] at c3; exact absurd c3 (by decide)
      · rw [if_neg c2, if_neg c]
      · rw [if_neg (by omega), if_pos c] at h0 h1
        have ht := tN_lt (b := b) (s := q.2) p2 (Or.inr (Or.inr c))
        refine m_goesOn (b := b) (n := n) (s := tN b n q.2) hS C1 (tN_le p2).2 (k1.2.2.1 (by omega)) ?_
        intro σ2 a2 R2
        exact m_rdAll hS r (tN b n q.2) q.1 σ2 (by omega) (tN_le p2).2 p4 (C1.k R2) a2 (m1.k R2) (fun e σ' x y z => h0 e σ' x y (F1.trans (R2.F.trans z))) (fun D σ' x y z => h1 D σ' x y (F1.trans (R2.F.trans z)))
theorem m_readAll (hS : SHP S) (hn : n ≤ 700) (hb : ∀ x, x < n → σ 126 x = b x ∧ 0 ≤ b x)
    (h0 : ∀ (e : PF) (σ' : StT), prs b n = .inl e → flm σ' e → fr [125, 128] σ σ' → (∀ j, (j < 12 ∨ 21 < j) → σ' 125 j = σ 125 j) → Q 0 σ') (h1 : ∀ (D : Dw) (σ' : StT), prs b n = .inr D → eD (σ' 128) D → fr [125, 128] σ σ' → (∀ j, (j < 12 ∨ 21 < j) → σ' 125 j = σ 125 j) → Q 1 σ') : WPs mX11_readAll [vR 125, vI (n : Int)] S σ Q := by
  refine e_X11_readAll hS ?_
  have F : fr [125, 128] σ (up2 (up2 (up2 (up2 (up2 (up2 (up2 (up2 (up2 (up2 σ 125 12 (n : Int)) 125 14 0) 125 19 0) 125 20 0) 125 21 0) 128 2 0) 128 3 0) 128 4 0) 128 5 1) 128 6 1) := (((((((((fr.rf.put (by simp)).put (by simp)).put (by simp)).put (by simp)).put (by simp)).put (by simp)).put (by simp)).put (by simp)).put (by simp)).put (by simp)
  have A : ∀ j, (up2 (up2 (up2 (up2 (up2 (up2 (up2 (up2 (up2 (up2 σ 125 12 (n : Int)) 125 14 0) 125 19 0) 125 20 0) 125 21 0) 128 2 0) 128 3 0) 128 4 0) 128 5 1) 128 6 1) 125 j = if j = 21 then 0 else if j = 20 then 0 else if j = 19 then 0 else if j = 14 then 0 else if j = 12 then (n : Int) else σ 125 j := fun j => by simp only [up2]; simp
  have B : ∀ j, (up2 (up2 (up2 (up2 (up2 (up2 (up2 (up2 (up2 (up2 σ 125 12 (n : Int)) 125 14 0) 125 19 0) 125 20 0) 125 21 0) 128 2 0) 128 3 0) 128 4 0) 128 5 1) 128 6 1) 128 j = if j = 6 then 1 else if j = 5 then 1 else if j = 4 then 0 else if j = 3 then 0 else if j = 2 then 0 else σ 128 j := fun j => by simp only [up2]; simp
  generalize (up2 (up2 (up2 (up2 (up2 (up2 (up2 (up2 (up2 (up2 σ 125 12 (n : Int)) 125 14 0) 125 19 0) 125 20 0) 125 21 0) 128 2 0) 128 3 0) 128 4 0) 128 5 1) 128 6 1) = σ1 at F A B
  have C1 : rCm σ1 b n := ⟨hn, by rw [A]; rfl, fun x hx => by rw [F 126 (by decide)]; exact hb x hx⟩
  refine m_goesOn (b := b) (n := n) (s := 0) hS C1 (by omega) (by rw [A]; rfl) ?_
  intro σ2 a2 R2
  have M1 : pM σ1 (false, false, false, D0) := ⟨by rw [A]; rfl, by rw [A]; rfl, by rw [A]; rfl, fun c => (by cases c), fun _ => ⟨rfl, rfl, rfl, by rw [B]; rfl, by rw [B]; rfl, by rw [B]; rfl, by rw [B]; rfl, by rw [B]; rfl⟩⟩
  have G : ∀ σ' : StT, pF σ2 σ' → fr [125, 128] σ σ' ∧ ∀ j, (j < 12 ∨ 21 < j) → σ' 125 j = σ 125 j := fun σ' z => ⟨F.trans ((R2.1.mono (by simp)).trans z.1), fun j hj => by rw [z.2 j (by omega), R2.2 j (by omega) (by omega) (by omega) (by omega), A, if_neg (by omega), if_neg (by omega), if_neg (by omega), if_neg (by omega), if_neg (by omega)]⟩
  exact m_rdAll hS (n + 1) 0 (false, false, false, D0) σ2 (by omega) (by omega) ⟨fun c => (by cases c), fun _ => rfl⟩ (C1.k R2) a2 (M1.k R2) (fun e σ' x y z => h0 e σ' x y (G σ' z).1 (G σ' z).2) (fun D σ' x y z => h1 D σ' x y (G σ' z).1 (G σ' z).2)
end MALL
