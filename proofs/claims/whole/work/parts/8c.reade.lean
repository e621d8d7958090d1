/-! Reader: home, pace, a line, all -/
section READE
variable {S : ShT} {σ : StT} {Q : Int → StT → Prop} {b : Nat → Int} {n s t : Nat} {P : Pst}
theorem sp_readsHome (hS : SHP S) (h : rS σ b n P) (hs : s ≤ n) (h3 : σ 2 3 = s) (h5 : σ 2 5 = t) (hQ : oc b n (if P.2.1 = true then .inl (4, t) else pHome b n s P) σ Q) : WPs mX6_readsHome [vR 124] S σ Q := by
  obtain ⟨hC, hD, f2, f3, f4⟩ := h
  refine e_X6_readsHome hS ?_
  rw [f3]
  cases c : P.2.1 with
  | true =>
    rw [c] at hQ
    refine ⟨fun q => absurd q (by decide), fun _ => sp_fails hS h5 (fun σ1 f R => ⟨Or.inl rfl, hQ.1 _ σ1 rfl f R.fm⟩)⟩
  | false =>
    rw [c, if_neg (by simp)] at hQ
    refine ⟨fun _ => ?_, fun q => absurd rfl q⟩
    rw [hD.2.1]
    have hC0 : rC (up2 σ 124 3 1) b n := hC.u (by omega)
    have M0 : rfm σ (up2 σ 124 3 1) := (rkp.rf.fm).put (by simp)
    refine sp_readsWhole hS hC0 hs (by rw [up2_a (by decide)]; exact h3) (fun e σ1 r1 f1 R1 => ⟨fun q => absurd rfl q, fun _ => hQ.1 e σ1 (bd_l r1) f1 (M0.trans R1.fm)⟩) (fun x σ1 r1 x6 x3 x5 R1 z1 => ⟨fun _ => ?_, fun q => absurd q (by decide)⟩)
    have k1 := pWh_ok r1 hs
    rw [x6, show σ1 106 3 = P.2.2.2.sz by rw [R1.1 106 (by decide), up2_a (by decide)]; exact hD.2.1]
    have hC2 : rC (up2 σ1 106 5 x.1) b n := (hC0.k R1).u (by omega)
    have M2 : rfm σ (up2 σ1 106 5 x.1) := (M0.trans R1.fm).put (by simp)
    refine sp_readsWhole hS hC2 k1.2.2.2 (by rw [up2_a (by decide)]; exact x3) (fun e σ2 r2 f2 R2 => ⟨fun q => absurd rfl q, fun _ => hQ.1 e σ2 ((bd_r r1).trans (bd_l r2)) f2 (M2.trans R2.fm)⟩) (fun y σ2 r2 y6 y3 y5 R2 z2 => ⟨fun _ => ?_, fun q => absurd q (by decide)⟩)
    rw [y6]
    obtain ⟨a1, a2, a3, a4, a5, a6, a7, a8⟩ := hD
    have g : ∀ b', b' ≠ 2 → b' ≠ 124 → b' ≠ 106 → ∀ i, σ2 b' i = σ b' i := fun b' b1 b2 b3 i => by rw [R2.1 b' (by simp; omega) i, up2_a b3, R1.1 b' (by simp; omega) i, up2_a b2]
    have g6 : ∀ i, i ≠ 5 → σ2 106 i = σ 106 i := fun i hi => by rw [R2.1 106 (by decide) i, up2_i hi, R1.1 106 (by decide) i, up2_a (by decide)]
    have g5 : σ2 106 5 = x.1 := by rw [R2.1 106 (by decide), up2_s]
    have fl : ∀ i, i < 5 → σ2 124 i = if i = 3 then 1 else σ 124 i := fun i hi => by
      rw [R2.2.2.2 i hi, up2_a (by decide), R1.2.2.2 i hi]
      by_cases e : i = 3
      · rw [if_pos e, e, up2_s]
      · rw [if_neg e, up2_i e]
    refine hQ.2 _ _ ((bd_r r1).trans (bd_r r2)) ⟨(hC2.k R2).u (by omega), ⟨?_, ?_, ?_, ?_, ?_, ?_, ?_, fun e he => ⟨?_, ?_⟩⟩, ?_, ?_, ?_⟩ ?_ ((M2.trans R2.fm).put (by simp)) (by rw [up2_a (by decide), z2, up2_a (by decide), z1, up2_i (by decide)])
    · rw [up2_i (by decide), g6 2 (by decide)]; exact a1
    · rw [up2_i (by decide), g6 3 (by decide)]; exact a2
    · rw [up2_i (by decide), g6 4 (by decide)]; exact a3
    · rw [up2_i (by decide), g5]; rfl
    · rw [up2_s]; rfl
    · rw [up2_i (by decide), g6 7 (by decide)]; exact a6
    · rw [up2_i (by decide), g6 8 (by decide)]; exact a7
    · rw [up2_a (by decide), g _ (by decide) (by decide) (by decide)]; exact (a8 e he).1
    · rw [up2_a (by decide), g _ (by decide) (by decide) (by decide)]; exact (a8 e he).2
    · rw [up2_a (by decide), fl 2 (by decide), if_neg (by decide)]; exact f2
    · rw [up2_a (by decide), fl 3 (by decide), if_pos rfl]; rfl
    · rw [up2_a (by decide), fl 4 (by decide), if_neg (by decide)]; exact f4
    · rw [up2_a (by decide)]; exact y3
theorem sp_readsPace (hS : SHP S) (h : rS σ b n P) (hs : s ≤ n) (h3 : σ 2 3 = s) (h5 : σ 2 5 = t) (hQ : oc b n (if P.2.2.1 = true then .inl (4, t) else pPace b n s P) σ Q) : WPs mX6_readsPace [vR 124] S σ Q := by
  obtain ⟨hC, hD, f2, f3, f4⟩ := h
  refine e_X6_readsPace hS ?_
  rw [f4]
  cases c : P.2.2.1 with
  | true =>
    rw [c] at hQ
    refine ⟨fun q => absurd q (by decide), fun _ => sp_fails hS h5 (fun σ1 f R => ⟨Or.inl rfl, hQ.1 _ σ1 rfl f R.fm⟩)⟩
  | false =>
    rw [c, if_neg (by simp)] at hQ
    refine ⟨fun _ => ?_, fun q => absurd rfl q⟩
    have hC0 : rC (up2 σ 124 4 1) b n := hC.u (by omega)
    have M0 : rfm σ (up2 σ 124 4 1) := (rkp.rf.fm).put (by simp)
    refine sp_readsWhole hS hC0 hs (by rw [up2_a (by decide)]; exact h3) (fun e σ1 r1 f1 R1 => ⟨fun q => absurd rfl q, fun _ => hQ.1 e σ1 (bd_l r1) f1 (M0.trans R1.fm)⟩) (fun x σ1 r1 x6 x3 x5 R1 z1 => ⟨fun _ => ?_, fun q => absurd q (by decide)⟩)
    have k1 := pWh_ok r1 hs
    rw [x6]
    have hC2 : rC (up2 σ1 106 7 x.1) b n := (hC0.k R1).u (by omega)
    have M2 : rfm σ (up2 σ1 106 7 x.1) := (M0.trans R1.fm).put (by simp)
    refine sp_readsWhole hS hC2 k1.2.2.2 (by rw [up2_a (by decide)]; exact x3) (fun e σ2 r2 f2 R2 => ⟨fun q => absurd rfl q, fun _ => hQ.1 e σ2 ((bd_r r1).trans (bd_l r2)) f2 (M2.trans R2.fm)⟩) (fun y σ2 r2 y6 y3 y5 R2 z2 => ⟨fun _ => ?_, fun q => absurd q (by decide)⟩)
    rw [y6]
    obtain ⟨a1, a2, a3, a4, a5, a6, a7, a8⟩ := hD
    have g : ∀ b', b' ≠ 2 → b' ≠ 124 → b' ≠ 106 → ∀ i, σ2 b' i = σ b' i := fun b' b1 b2 b3 i => by rw [R2.1 b' (by simp; omega) i, up2_a b3, R1.1 b' (by simp; omega) i, up2_a b2]
    have g6 : ∀ i, i ≠ 7 → σ2 106 i = σ 106 i := fun i hi => by rw [R2.1 106 (by decide) i, up2_i hi, R1.1 106 (by decide) i, up2_a (by decide)]
    have g5 : σ2 106 7 = x.1 := by rw [R2.1 106 (by decide), up2_s]
    have fl : ∀ i, i < 5 → σ2 124 i = if i = 4 then 1 else σ 124 i := fun i hi => by
      rw [R2.2.2.2 i hi, up2_a (by decide), R1.2.2.2 i hi]
      by_cases e : i = 4
      · rw [if_pos e, e, up2_s]
      · rw [if_neg e, up2_i e]
    refine hQ.2 _ _ ((bd_r r1).trans (bd_r r2)) ⟨(hC2.k R2).u (by omega), ⟨?_, ?_, ?_, ?_, ?_, ?_, ?_, fun e he => ⟨?_, ?_⟩⟩, ?_, ?_, ?_⟩ ?_ ((M2.trans R2.fm).put (by simp)) (by rw [up2_a (by decide), z2, up2_a (by decide), z1, up2_i (by decide)])
    · rw [up2_i (by decide), g6 2 (by decide)]; exact a1
    · rw [up2_i (by decide), g6 3 (by decide)]; exact a2
    · rw [up2_i (by decide), g6 4 (by decide)]; exact a3
    · rw [up2_i (by decide), g6 5 (by decide)]; exact a4
    · rw [up2_i (by decide), g6 6 (by decide)]; exact a5
    · rw [up2_i (by decide), g5]; rfl
    · rw [up2_s]; rfl
    · rw [up2_a (by decide), g _ (by decide) (by decide) (by decide)]; exact (a8 e he).1
    · rw [up2_a (by decide), g _ (by decide) (by decide) (by decide)]; exact (a8 e he).2
    · rw [up2_a (by decide), fl 2 (by decide), if_neg (by decide)]; exact f2
    · rw [up2_a (by decide), fl 3 (by decide), if_neg (by decide)]; exact f3
    · rw [up2_a (by decide), fl 4 (by decide), if_pos rfl]; rfl
    · rw [up2_a (by decide)]; exact y3
theorem oc.mono {res : PF ⊕ (Pst × Nat)} {σ1 : StT} (h : oc b n res σ Q) (k : rfm σ σ1) (z : σ1 124 5 = σ 124 5) : oc b n res σ1 Q := ⟨fun e σ' r f R => h.1 e σ' r f (k.trans R), fun q σ' r1 r2 r3 R z2 => h.2 q σ' r1 r2 r3 (k.trans R) (z2.trans z)⟩
theorem oc.r01 {res : PF ⊕ (Pst × Nat)} (h : oc b n res σ Q) : oc b n res σ (fun r σ' => (r = 0 ∨ r = 1) ∧ Q r σ') := ⟨fun e σ' r f R => ⟨Or.inl rfl, h.1 e σ' r f R⟩, fun q σ' r1 r2 r3 R z => ⟨Or.inr rfl, h.2 q σ' r1 r2 r3 R z⟩⟩
theorem sp_readsLine (hS : SHP S) (h : rS σ b n P) (hs : s ≤ n) (h3 : σ 2 3 = s) (hQ : oc b n (pLine b n s P) σ Q) : WPs mX6_readsLine [vR 124] S σ Q := by
  refine e_X6_readsLine hS (sp_stepR hS h.1 hs h3 (fun σ1 a R z => ?_))
  have h1 := h.k R
  have hC := h1.1
  have hQ := hQ.mono R.fm z
  have hNl := (tN_le (b := b) hs).2
  have wd : ∀ w, isW b n s w = true → σ1 2 3 = tN b n s := fun w hw => a.2.2.1 (by have := isW_k hw; omega)
  unfold pLine at hQ
  -- behind the name of a line that wants a sheet
  have rest : isW b n s 0 = false → (isW b n s 1 = true ∨ isW b n s 2 = true ∨ isW b n s 3 = true) → AWs mX6_readsLine 66 [(0, vR 124)] [] S σ1 Q := fun c0 c1 => by
    rw [if_neg (by rw [c0]; simp), if_pos c1] at hQ
    have e3 : σ1 2 3 = tN b n s := by rcases c1 with c | c | c <;> exact wd _ c
    refine t_X6_readsLine_66 hS ?_
    rw [h1.2.2.1]
    cases c2 : P.1 with
    | false =>
      rw [c2, if_pos rfl] at hQ
      refine ⟨fun q => absurd rfl q, fun _ => sp_fails hS a.2.1 (fun σ2 f R2 => ⟨Or.inl rfl, hQ.1 _ σ2 rfl f R2.fm⟩)⟩
    | true =>
      rw [c2, if_neg (by simp)] at hQ
      refine ⟨fun _ => sp_isWord hS (by decide) hC hs a ⟨fun q => ?_, fun q => ?_⟩, fun q => absurd q (by decide)⟩
      · have c3 : ¬ isW b n s 1 = true := fun z => by rw [z] at q; exact absurd q (by decide)
        rw [if_neg c3] at hQ
        refine sp_isWord hS (by decide) hC hs a ⟨fun q => ?_, fun q => ?_⟩
        · have c4 : ¬ isW b n s 2 = true := fun z => by rw [z] at q; exact absurd q (by decide)
          rw [if_neg c4] at hQ
          exact sp_readsPace hS h1 hNl e3 a.2.1 hQ.r01
        · have c4 : isW b n s 2 = true := by
            cases z : isW b n s 2 with
            | true => rfl
            | false => rw [z] at q; exact absurd rfl q
          rw [if_pos c4] at hQ
          exact sp_readsHome hS h1 hNl e3 a.2.1 hQ.r01
      · have c3 : isW b n s 1 = true := by
          cases z : isW b n s 1 with
          | true => rfl
          | false => rw [z] at q; exact absurd rfl q
        rw [if_pos c3] at hQ
        exact sp_readsStroke hS h1 hNl e3 a.2.1 hQ.r01
  refine sp_isWord hS (by decide) hC hs a ⟨fun q => ?_, fun q => ?_⟩
  · have c0 : isW b n s 0 = false := by
      cases z : isW b n s 0 with
      | true => rw [z] at q; exact absurd q (by decide)
      | false => rfl
    refine sp_isWord hS (by decide) hC hs a ⟨fun q => ?_, fun q => ?_⟩
    · have c1 : isW b n s 1 = true := by
        cases z : isW b n s 1 with
        | true => rfl
        | false => rw [z] at q; exact absurd rfl q
      exact rest c0 (Or.inl c1)
    · have c1 : isW b n s 1 = false := by
        cases z : isW b n s 1 with
        | true => rw [z] at q; exact absurd q (by decide)
        | false => rfl
      refine sp_isWord hS (by decide) hC hs a ⟨fun q => ?_, fun q => ?_⟩
      · have c2 : isW b n s 2 = true := by
          cases z : isW b n s 2 with
          | true => rfl
          | false => rw [z] at q; exact absurd rfl q
        exact rest c0 (Or.inr (Or.inl c2))
      · have c2 : isW b n s 2 = false := by
          cases z : isW b n s 2 with
          | true => rw [z] at q; exact absurd q (by decide)
          | false => rfl
        refine sp_isWord hS (by decide) hC hs a ⟨fun q => ?_, fun q => ?_⟩
        · have c3 : isW b n s 3 = true := by
            cases z : isW b n s 3 with
            | true => rfl
            | false => rw [z] at q; exact absurd rfl q
          exact rest c0 (Or.inr (Or.inr c3))
        · have c3 : isW b n s 3 = false := by
            cases z : isW b n s 3 with
            | true => rw [z] at q; exact absurd q (by decide)
            | false => rfl
          rw [if_neg (by rw [c0]; simp), if_neg (by rw [c1, c2, c3]; simp)] at hQ
          exact sp_fails hS a.2.1 (fun σ2 f R2 => ⟨Or.inl rfl, hQ.1 _ σ2 rfl f R2.fm⟩)
  · have c0 : isW b n s 0 = true := by
      cases z : isW b n s 0 with
      | true => rfl
      | false => rw [z] at q; exact absurd rfl q
    rw [if_pos c0] at hQ
    exact sp_readsSheet hS h1 hNl (wd 0 c0) a.2.1 hQ.r01
theorem sp_reads {len : Nat} (hS : SHP S) (hn : n ≤ len) (hl : len ≤ 700) (h1 : σ 2 1 = len) (hb : ∀ x, x < n → σ 3 x = b x) (h0 : ∀ (e : PF) (σ' : StT), prs b n = .inl e → fl1 σ' e → rfm σ σ' → Q 0 σ') (hr : ∀ (D : Dw) (σ' : StT), prs b n = .inr D → cD σ' 106 D → σ' 124 5 = 0 → rfm σ σ' → Q 1 σ') : WPs mX6_reads [vR 124, vI (n : Int)] S σ Q := by
  refine e_X6_reads hS (e_X6_begin hS (e_X7_rewind hS ?_))
  rw [h1, show min (n : Int) (len : Int) = (n : Int) by omega]
  refine e_X0_clear hS isD_o ?_
  generalize hσ : (up2 (up2 (up2 (up2 (up2 (up2 (up2 (up2 (up2 (up2 (up2 (up2 (up2 (up2 σ 2 2 (n : Int)) 2 3 0) 106 2 0) 106 3 0) 106 4 0) 106 5 0) 106 6 0) 106 7 1) 106 8 1) 124 2 0) 124 3 0) 124 4 0) 124 5 0) 124 6 (-1)) = σ0
  have M0 : rfm σ σ0 := by
    rw [← hσ]
    refine ⟨?_, by simp [up2]⟩
    exact (((((((((((((fr.rf.put (by simp)).put (by simp)).put (by simp)).put (by simp)).put (by simp)).put (by simp)).put (by simp)).put (by simp)).put (by simp)).put (by simp)).put (by simp)).put (by simp)).put (by simp)).put (by simp)
  have R0 : rS σ0 b n (false, false, false, D0) := by
    rw [← hσ]
    refine ⟨⟨by omega, by simp [up2], fun x hx => by simp [up2]; exact hb x hx⟩, ⟨by simp [up2]; rfl, by simp [up2]; rfl, by simp [up2]; rfl, by simp [up2]; rfl, by simp [up2]; rfl, by simp [up2]; rfl, by simp [up2]; rfl, fun e he => absurd he (by show ¬ e < 2 * 0; omega)⟩, by simp [up2]; rfl, by simp [up2]; rfl, by simp [up2]; rfl⟩
  have e3 : σ0 2 3 = ((0 : Nat) : Int) := by rw [← hσ]; simp [up2]
  have e5 : σ0 124 5 = 0 := by rw [← hσ]; simp [up2]
  clear hσ
  have key : ∀ (r s l : Nat) (P : Pst) (σ1 : StT), r + l = n + 1 → l ≤ s → s ≤ n → rS σ1 b n P → okP P → σ1 2 3 = s → rfm σ σ1 → σ1 124 5 = 0 → prs b n = pAll b n r s P → AWs mX6_reads 7 [(0, vR 124), (1, vI (n : Int)), (2, vI (l : Int))] [] S σ1 Q := by
    intro r
    induction r with
    | zero => intro s l P σ1 hr hls hs _ _ _ _ _ _; omega
    | succ r ih =>
      intro s l P σ1 hrl hls hs hS1 hP hs3 M1 h5 e
      rw [pAll] at e
      refine t_X6_reads_7 hS ⟨fun q => absurd q (by omega), fun _ => sp_readsLine hS hS1 hs hs3 ⟨fun er σ2 r2 f2 R2 => ⟨fun q => absurd rfl q, fun _ => h0 er σ2 (e.trans (bd_l r2)) f2 (M1.trans R2)⟩, fun q σ2 r2 S2 p2 R2 z2 => ⟨fun _ => ?_, fun q => absurd q (by decide)⟩⟩⟩
      obtain ⟨k1, k2, k3, k4⟩ := pLine_ok r2 hs hP
      rw [bd_r r2] at e
      refine sp_stepR hS S2.1 k2 p2 (fun σ3 a3 R3 z3 => ?_)
      rw [a3.1]
      refine ⟨fun c => ⟨fun c2 => ⟨inR_s (by omega) (by omega), ?_⟩, fun c2 => ?_⟩, fun c => ?_⟩
      · rw [if_neg c, if_pos c2] at e
        have hlt := tN_lt (b := b) k2 (by omega)
        have hNl := (tN_le (b := b) k2).2
        refine ih (tN b n q.2) (l + 1) q.1 σ3 (by omega) (by omega) hNl (S2.k R3) k4 (a3.2.2.1 (by omega)) ((M1.trans R2).trans R3.fm) (by rw [z3, z2]; exact h5) e
      · rw [if_neg c, if_neg c2] at e
        exact sp_fails hS a3.2.1 (fun σ4 f4 R4 => ⟨Or.inl rfl, h0 _ σ4 e f4 ((M1.trans R2).trans (R3.trans R4).fm)⟩)
      · rw [if_pos c] at e
        refine hr _ σ3 e (S2.k R3).2.1 (by rw [z3, z2]; exact h5) ((M1.trans R2).trans R3.fm)
  exact key (n + 1) 0 0 (false, false, false, D0) σ0 rfl (Nat.le_refl _) (Nat.zero_le _) R0 ⟨fun q => (by cases q), fun _ => rfl⟩ e3 M0 e5 rfl
end READE
