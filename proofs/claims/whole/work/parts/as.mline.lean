/-! Model: lines of the text -/
/-- what was read so far -/
def pM (σ : StT) (P : Pst) : Prop := σ 125 19 = b2i P.1 ∧ σ 125 20 = b2i P.2.1 ∧ σ 125 21 = b2i P.2.2.1 ∧ (P.1 = true → eD (σ 128) P.2.2.2) ∧ (P.1 = false → P.2.2.2 = D0 ∧ P.2.1 = false ∧ P.2.2.1 = false ∧ σ 128 2 = 0 ∧ σ 128 3 = 0 ∧ σ 128 4 = 0 ∧ σ 128 5 = 1 ∧ σ 128 6 = 1)
theorem pM.k {σ σ' : StT} {P : Pst} (h : pM σ P) (hk : rkm σ σ') : pM σ' P := by
  have e : σ' 128 = σ 128 := funext (hk.1 128 (by decide))
  unfold pM
  rw [e, hk.2 19 (by decide) (by decide) (by decide) (by decide), hk.2 20 (by decide) (by decide) (by decide) (by decide), hk.2 21 (by decide) (by decide) (by decide) (by decide)]
  exact h
theorem b2i_0 {x : Bool} : b2i x = 0 ↔ x = false := by cases x <;> simp [b2i]
section MLINE
variable {S : ShT} {σ : StT} {Q : Int → StT → Prop} {b : Nat → Int} {n s : Nat} {P : Pst}
theorem m_readSheet (hS : SHP S) (hC : rCm σ b n) (hs : s ≤ n) (hK : atKm σ b n s) (hM : pM σ P) (hw : isW b n s 0 = true)
    (h0 : ∀ (e : PF) (σ' : StT), pLine b n s P = .inl e → flm σ' e → pF σ σ' → Q 0 σ')
    (h1 : ∀ (q : Pst × Nat) (σ' : StT), pLine b n s P = .inr q → pM σ' q.1 → atKm σ' b n q.2 → pF σ σ' → Q 1 σ') : WPs mX11_readSheet [vR 125] S σ Q := by
  have hk := isW_k hw
  refine e_X11_readSheet hS ?_
  rw [hM.1, b2i_0]
  refine ⟨fun q => ?_, fun q => m_errs hS hK (fun σ' a F => ⟨Or.inl rfl, h0 (4, tS b n s) σ' ?_ a F⟩)⟩
  · have hp : pLine b n s P = pSheet b n (tN b n s) P := by unfold pLine; rw [if_pos hw, q, if_neg (by simp)]
    rw [hp] at h0 h1
    have hsh : pSheet b n (tN b n s) P = bd (bd (pWd b n (tN b n s) 4) (fun s1 => pWh b n s1 1 200)) (fun z => bd (bd (pWd b n z.2 5) (fun s3 => pWh b n s3 0 50)) (fun j => .inr ((true, P.2.1, P.2.2.1, mkD P.2.2.2.n z.1 j.1 P.2.2.2.hx P.2.2.2.hy P.2.2.2.dn P.2.2.2.up P.2.2.2.X P.2.2.2.Y), j.2))) := by
      unfold pSheet
      rw [bd_as]
      congr 1
      funext s1
      congr 1
      funext z
      rw [bd_as]
    have e10 : ∀ s, pWd b n s 10 = pWd b n s 4 := fun s => by
      have := isW6 (b := b) (n := n) (s := s) (w := 4) (by decide)
      unfold pWd
      rw [show (10 : Nat) = 6 + 4 from rfl, this]
    have e11 : ∀ s, pWd b n s 11 = pWd b n s 5 := fun s => by
      have := isW6 (b := b) (n := n) (s := s) (w := 5) (by decide)
      unfold pWd
      rw [show (11 : Nat) = 6 + 5 from rfl, this]
    refine m_goesOn (b := b) (n := n) (s := tN b n s) hS hC (tN_le hs).2 (hK.2.2.1 (by omega)) ?_
    intro σ1 a1 R1
    refine m_after (to := 0) (w := 10) hS (by decide) (by decide) (hC.k R1) (tN_le hs).2 a1 ?_ ?_
    · intro e σ2 q1 q2 F2
      refine ⟨fun _ => h0 e _ ?_ ⟨by rw [up2_i (by decide)]; exact q2.1, by rw [up2_i (by decide)]; exact q2.2⟩ ((R1.F.trans F2).pa (by omega)), fun c => absurd rfl c⟩
      rw [e10] at q1
      rw [hsh, q1]; rfl
    · intro z σ2 q1 zn a2 l2
      rw [e10] at q1
      refine ⟨fun c => absurd c (by decide), fun _ => ?_⟩
      refine m_after (to := 1) (w := 11) hS (by decide) (by decide) ((hC.k R1).F l2.F) zn a2 ?_ ?_
      · intro e σ3 q3 q4 F3
        rw [e11] at q3
        refine ⟨fun _ => h0 e _ ?_ ⟨by rw [up2_i (by decide)]; exact q4.1, by rw [up2_i (by decide)]; exact q4.2⟩ ((R1.F.trans (l2.F.trans F3)).pa (by omega)), fun c => absurd rfl c⟩
        rw [hsh, q1]
        show bd (bd (pWd b n z.2 5) (fun s3 => pWh b n s3 0 50)) _ = _
        rw [q3]; rfl
      · intro j σ3 q3 jn a3 l3
        rw [e11] at q3
        refine ⟨fun c => absurd c (by decide), fun _ => h1 ((true, P.2.1, P.2.2.1, mkD P.2.2.2.n z.1 j.1 P.2.2.2.hx P.2.2.2.hy P.2.2.2.dn P.2.2.2.up P.2.2.2.X P.2.2.2.Y), j.2) _ ?_ ?_ ⟨by rw [up2_i (by decide)]; exact a3.1, by rw [up2_i (by decide)]; exact a3.2.1, fun c => by rw [up2_i (by decide)]; exact a3.2.2.1 c, fun c => by rw [up2_i (by decide)]; exact a3.2.2.2 c⟩ ((R1.F.trans (l2.F.trans l3.F)).pa (by omega))⟩
        · rw [hsh, q1]
          show bd (bd (pWd b n z.2 5) (fun s3 => pWh b n s3 0 50)) _ = _
          rw [q3]; rfl
        · obtain ⟨g1, g2, g3, g4, g5⟩ := hM
          obtain ⟨c1, c2, c3, c4, c5, c6, c7, c8⟩ := g5 q
          have K : ∀ i, (up2 σ3 125 19 1) 128 i = if i = 1 then j.1 else if i = 0 then z.1 else σ 128 i := fun i => by
            rw [up2_a (by decide), l3.1, l2.1, R1.1 128 (by decide)]
          have B : ∀ i, i ≠ 19 → i = 20 ∨ i = 21 → (up2 σ3 125 19 1) 125 i = σ 125 i := fun i i1 i2 => by
            rw [up2_i i1, l3.2.2 i (by omega) (by omega) (by omega) (by omega), l2.2.2 i (by omega) (by omega) (by omega) (by omega), R1.2 i (by omega) (by omega) (by omega) (by omega)]
          refine ⟨by rw [up2_s]; rfl, by rw [B 20 (by decide) (by omega)]; exact g2, by rw [B 21 (by decide) (by omega)]; exact g3, fun _ => ?_, fun c => absurd (show true = false from c) (by simp)⟩
          show eD _ (mkD P.2.2.2.n z.1 j.1 P.2.2.2.hx P.2.2.2.hy P.2.2.2.dn P.2.2.2.up P.2.2.2.X P.2.2.2.Y)
          rw [c1]
          exact ⟨by rw [K 0]; rfl, by rw [K 1]; rfl, by rw [K 2]; exact c4, by rw [K 3]; exact c5, by rw [K 4]; exact c6, by rw [K 5]; exact c7, by rw [K 6]; exact c8, fun e he => by replace he : e < 2 * 0 := he; omega⟩
  · have : P.1 = true := by cases e : P.1 <;> simp_all
    unfold pLine; rw [if_pos hw, if_pos this]
theorem m_readHome (hS : SHP S) (hC : rCm σ b n) (hs : s ≤ n) (hK : atKm σ b n s) (hM : pM σ P) (hw0 : isW b n s 0 = false) (hw1 : isW b n s 1 = false) (hw : isW b n s 2 = true)
    (h0 : ∀ (e : PF) (σ' : StT), pLine b n s P = .inl e → flm σ' e → pF σ σ' → Q 0 σ')
    (h1 : ∀ (q : Pst × Nat) (σ' : StT), pLine b n s P = .inr q → pM σ' q.1 → atKm σ' b n q.2 → pF σ σ' → Q 1 σ') : WPs mX11_readHome [vR 125] S σ Q := by
  have hk := isW_k hw
  refine e_X11_readHome hS ?_
  rw [hM.2.1, hM.1, b2i_0, b2i_0]
  refine ⟨fun q => ⟨fun q2 => ?_, fun q2 => m_errs hS hK (fun σ' a F => ⟨Or.inl rfl, h0 (6, tS b n s) σ' ?_ a F⟩)⟩, fun q => m_errs hS hK (fun σ' a F => ⟨Or.inl rfl, h0 (4, tS b n s) σ' ?_ a F⟩)⟩
  · have hP : P.1 = true := by cases e : P.1 <;> simp_all
    have hp : pLine b n s P = pHome b n (tN b n s) P := by unfold pLine; rw [if_neg (by simp [hw0]), if_pos (Or.inr (Or.inl hw)), if_neg (by simp [hP]), if_neg (by simp [hw1]), if_pos hw, if_neg (by simp [q])]
    rw [hp] at h0 h1
    obtain ⟨g1, g2, g3, g4, g5⟩ := hM
    obtain ⟨d0, d1, d2, d3, d4, d5, d6, d7⟩ := g4 hP
    refine m_goesOn (b := b) (n := n) (s := tN b n s) hS hC (tN_le hs).2 (hK.2.2.1 (by omega)) ?_
    intro σ1 a1 R1
    rw [R1.1 128 (by decide), d0]
    have R1' : pF σ (up2 σ1 125 20 1) := R1.F.pa (by omega)
    have a1' : atKm (up2 σ1 125 20 1) b n (tN b n s) := ⟨by rw [up2_i (by decide)]; exact a1.1, by rw [up2_i (by decide)]; exact a1.2.1, fun c => by rw [up2_i (by decide)]; exact a1.2.2.1 c, fun c => by rw [up2_i (by decide)]; exact a1.2.2.2 c⟩
    refine m_lays (to := 3) hS (by decide) (hC.F R1') (tN_le hs).2 a1' ?_ ?_
    · intro e σ2 q3 q4 F2
      refine ⟨fun _ => h0 e σ2 ?_ q4 (R1'.trans F2), fun c => absurd rfl c⟩
      unfold pHome; rw [q3]; rfl
    · intro x σ2 q3 a2 l2
      have xn := (pWh_ok q3 (tN_le hs).2).2.2.2
      refine ⟨fun c => absurd c (by decide), fun _ => ?_⟩
      have e0 : σ2 128 0 = P.2.2.2.sz := by rw [l2.1, if_neg (by decide), up2_a (by decide), R1.1 128 (by decide)]; exact d0
      rw [e0]
      refine m_lays (to := 4) hS (by decide) ((hC.F R1').F l2.F) xn a2 ?_ ?_
      · intro e σ3 q5 q6 F3
        refine ⟨fun _ => h0 e σ3 ?_ q6 (R1'.trans (l2.F.trans F3)), fun c => absurd rfl c⟩
        unfold pHome; rw [q3]
        show bd (pWh b n x.2 0 P.2.2.2.sz) _ = _
        rw [q5]; rfl
      · intro y σ3 q5 a3 l3
        refine ⟨fun c => absurd c (by decide), fun _ => h1 ((P.1, true, P.2.2.1, mkD P.2.2.2.n P.2.2.2.sz P.2.2.2.jo x.1 y.1 P.2.2.2.dn P.2.2.2.up P.2.2.2.X P.2.2.2.Y), y.2) σ3 ?_ ?_ a3 (R1'.trans (l2.F.trans l3.F))⟩
        · unfold pHome; rw [q3]
          show bd (pWh b n x.2 0 P.2.2.2.sz) _ = _
          rw [q5]; rfl
        · have K : ∀ i, σ3 128 i = if i = 4 then y.1 else if i = 3 then x.1 else σ 128 i := fun i => by
            rw [l3.1, l2.1, up2_a (by decide), R1.1 128 (by decide)]
          have B : ∀ i, i = 19 ∨ i = 21 → σ3 125 i = σ 125 i := fun i i2 => by
            rw [l3.2.2 i (by omega) (by omega) (by omega) (by omega), l2.2.2 i (by omega) (by omega) (by omega) (by omega), up2_i (by omega), R1.2 i (by omega) (by omega) (by omega) (by omega)]
          refine ⟨by rw [B 19 (by omega)]; exact g1, ?_, by rw [B 21 (by omega)]; exact g3, fun _ => ?_, fun c => absurd hP (by rw [show P.1 = false from c]; decide)⟩
          · rw [l3.2.2 20 (by omega) (by omega) (by omega) (by omega), l2.2.2 20 (by omega) (by omega) (by omega) (by omega), up2_s]; rfl
          · refine ⟨by rw [K 0]; exact d0, by rw [K 1]; exact d1, by rw [K 2]; exact d2, by rw [K 3]; rfl, by rw [K 4]; rfl, by rw [K 5]; exact d5, by rw [K 6]; exact d6, fun e he => ?_⟩
            rw [K, K, if_neg (by omega), if_neg (by omega), if_neg (by omega), if_neg (by omega)]; exact d7 e he
  · unfold pLine; rw [if_neg (by simp [hw0]), if_pos (Or.inr (Or.inl hw)), if_pos q2]
  · have hh : P.2.1 = true := by cases e : P.2.1 <;> simp_all
    have hP : P.1 = true := by
      cases e : P.1 with
      | true => rfl
      | false => have := (hM.2.2.2.2 e).2.1; rw [hh] at this; cases this
    unfold pLine; rw [if_neg (by simp [hw0]), if_pos (Or.inr (Or.inl hw)), if_neg (by simp [hP]), if_neg (by simp [hw1]), if_pos hw, if_pos hh]
theorem m_readPace (hS : SHP S) (hC : rCm σ b n) (hs : s ≤ n) (hK : atKm σ b n s) (hM : pM σ P) (hw0 : isW b n s 0 = false) (hw1 : isW b n s 1 = false) (hw2 : isW b n s 2 = false) (hw : isW b n s 3 = true)
    (h0 : ∀ (e : PF) (σ' : StT), pLine b n s P = .inl e → flm σ' e → pF σ σ' → Q 0 σ')
    (h1 : ∀ (q : Pst × Nat) (σ' : StT), pLine b n s P = .inr q → pM σ' q.1 → atKm σ' b n q.2 → pF σ σ' → Q 1 σ') : WPs mX11_readPace [vR 125] S σ Q := by
  have hk := isW_k hw
  refine e_X11_readPace hS ?_
  rw [hM.2.2.1, hM.1, b2i_0, b2i_0]
  refine ⟨fun q => ⟨fun q2 => ?_, fun q2 => m_errs hS hK (fun σ' a F => ⟨Or.inl rfl, h0 (6, tS b n s) σ' ?_ a F⟩)⟩, fun q => m_errs hS hK (fun σ' a F => ⟨Or.inl rfl, h0 (4, tS b n s) σ' ?_ a F⟩)⟩
  · have hP : P.1 = true := by cases e : P.1 <;> simp_all
    have hp : pLine b n s P = pPace b n (tN b n s) P := by unfold pLine; rw [if_neg (by simp [hw0]), if_pos (Or.inr (Or.inr hw)), if_neg (by simp [hP]), if_neg (by simp [hw1]), if_neg (by simp [hw2]), if_neg (by simp [q])]
    rw [hp] at h0 h1
    obtain ⟨g1, g2, g3, g4, g5⟩ := hM
    obtain ⟨d0, d1, d2, d3, d4, d5, d6, d7⟩ := g4 hP
    refine m_goesOn (b := b) (n := n) (s := tN b n s) hS hC (tN_le hs).2 (hK.2.2.1 (by omega)) ?_
    intro σ1 a1 R1
    have R1' : pF σ (up2 σ1 125 21 1) := R1.F.pa (by omega)
    have a1' : atKm (up2 σ1 125 21 1) b n (tN b n s) := ⟨by rw [up2_i (by decide)]; exact a1.1, by rw [up2_i (by decide)]; exact a1.2.1, fun c => by rw [up2_i (by decide)]; exact a1.2.2.1 c, fun c => by rw [up2_i (by decide)]; exact a1.2.2.2 c⟩
    refine m_lays (to := 5) hS (by decide) (hC.F R1') (tN_le hs).2 a1' ?_ ?_
    · intro e σ2 q3 q4 F2
      refine ⟨fun _ => h0 e σ2 ?_ q4 (R1'.trans F2), fun c => absurd rfl c⟩
      unfold pPace; rw [q3]; rfl
    · intro x σ2 q3 a2 l2
      have xn := (pWh_ok q3 (tN_le hs).2).2.2.2
      refine ⟨fun c => absurd c (by decide), fun _ => ?_⟩
      refine m_lays (to := 6) hS (by decide) ((hC.F R1').F l2.F) xn a2 ?_ ?_
      · intro e σ3 q5 q6 F3
        refine ⟨fun _ => h0 e σ3 ?_ q6 (R1'.trans (l2.F.trans F3)), fun c => absurd rfl c⟩
        unfold pPace; rw [q3]
        show bd (pWh b n x.2 1 9) _ = _
        rw [q5]; rfl
      · intro y σ3 q5 a3 l3
        refine ⟨fun c => absurd c (by decide), fun _ => h1 ((P.1, P.2.1, true, mkD P.2.2.2.n P.2.2.2.sz P.2.2.2.jo P.2.2.2.hx P.2.2.2.hy x.1 y.1 P.2.2.2.X P.2.2.2.Y), y.2) σ3 ?_ ?_ a3 (R1'.trans (l2.F.trans l3.F))⟩
        · unfold pPace; rw [q3]
          show bd (pWh b n x.2 1 9) _ = _
          rw [q5]; rfl
        · have K : ∀ i, σ3 128 i = if i = 6 then y.1 else if i = 5 then x.1 else σ 128 i := fun i => by
            rw [l3.1, l2.1, up2_a (by decide), R1.1 128 (by decide)]
          have B : ∀ i, i = 19 ∨ i = 20 → σ3 125 i = σ 125 i := fun i i2 => by
            rw [l3.2.2 i (by omega) (by omega) (by omega) (by omega), l2.2.2 i (by omega) (by omega) (by omega) (by omega), up2_i (by omega), R1.2 i (by omega) (by omega) (by omega) (by omega)]
          refine ⟨by rw [B 19 (by omega)]; exact g1, by rw [B 20 (by omega)]; exact g2, ?_, fun _ => ?_, fun c => absurd hP (by rw [show P.1 = false from c]; decide)⟩
          · rw [l3.2.2 21 (by omega) (by omega) (by omega) (by omega), l2.2.2 21 (by omega) (by omega) (by omega) (by omega), up2_s]; rfl
          · refine ⟨by rw [K 0]; exact d0, by rw [K 1]; exact d1, by rw [K 2]; exact d2, by rw [K 3]; exact d3, by rw [K 4]; exact d4, by rw [K 5]; rfl, by rw [K 6]; rfl, fun e he => ?_⟩
            rw [K, K, if_neg (by omega), if_neg (by omega), if_neg (by omega), if_neg (by omega)]; exact d7 e he
  · unfold pLine; rw [if_neg (by simp [hw0]), if_pos (Or.inr (Or.inr hw)), if_pos q2]
  · have hh : P.2.2.1 = true := by cases e : P.2.2.1 <;> simp_all
    have hP : P.1 = true := by
      cases e : P.1 with
      | true => rfl
      | false => have := (hM.2.2.2.2 e).2.2.1; rw [hh] at this; cases this
    unfold pLine; rw [if_neg (by simp [hw0]), if_pos (Or.inr (Or.inr hw)), if_neg (by simp [hP]), if_neg (by simp [hw1]), if_neg (by simp [hw2]), if_pos hh]
end MLINE
