/-! Model: sheet, loose -/
section MSHEET
variable {S : ShT} {σ : StT} {Q : Int → StT → Prop} {M : Ms}
theorem q_sheet {n : Int} (hS : SHP S) : MC S mX11_sheet [vR 125, vI n] M (A_sheet M n) := fun σ Q ho h hQ => by
  unfold A_sheet at hQ
  have h5 := h.1.1
  refine e_X11_sheet hS ?_
  rw [h5]
  refine m_in hS (fun q => ⟨fun _ => ?_, fun c => absurd rfl c⟩) (fun q => ⟨fun c => absurd c (by decide), fun _ => ?_⟩)
  · rw [if_pos (by omega)] at hQ
    exact m_isRefused hS (fun c => absurd c (by decide)) (fun _ => ⟨fun c => absurd c (by decide), fun _ => hQ _ (h.t (by decide)) (rfu_R _ _)⟩)
  · rw [if_neg (by omega)] at hQ
    obtain ⟨n, rfl⟩ := nat_of q.1
    rw [tn_cast] at hQ
    refine m_isRefused hS (fun _ => ⟨fun _ => ?_, fun c => absurd rfl c⟩) (fun c => absurd rfl c)
    have F1 : frR 125 154 σ (up2 (up2 (rfu σ 0) 125 5 0) 125 2 0) := ((rfu_R σ 0).put (by omega) (by omega)).put (by omega) (by omega)
    have G1 : ∀ b, b ≠ 125 → ∀ j, (up2 (up2 (rfu σ 0) 125 5 0) 125 2 0) b j = σ b j := fun b hb j => by rw [up2_a hb, up2_a hb]; exact rfu_b hb j
    have H1 : ∀ j, (up2 (up2 (rfu σ 0) 125 5 0) 125 2 0) 125 j = if j = 2 then 0 else if j = 5 then 0 else if j = 1 then 0 else if j = 3 then -1 else if j = 0 then 0 else σ 125 j := fun j => by unfold rfu; simp only [up2]; simp
    generalize up2 (up2 (rfu σ 0) 125 5 0) 125 2 0 = σ1 at F1 G1 H1
    refine m_readAll (b := M.tb) (n := n) hS (by have := ho.1; omega) (fun x hx => by rw [G1 126 (by decide)]; exact h.1.2.1 x (by omega)) ?_ ?_
    · intro e σ2 q1 q2 F2 B2
      rw [q1] at hQ
      refine ⟨fun c => absurd rfl c, fun _ => ?_⟩
      rw [q2.1, q2.2]
      refine e_X11_no hS ?_
      have K : ∀ j, (up2 (up2 (up2 σ2 125 2 e.1) 125 3 (e.2 : Int)) 125 1 4) 125 j = if j = 1 then 4 else if j = 3 then (e.2 : Int) else if j = 2 then e.1 else σ2 125 j := fun j => by simp only [up2]; simp
      have L : ∀ b, b ≠ 125 → ∀ j, (up2 (up2 (up2 σ2 125 2 e.1) 125 3 (e.2 : Int)) 125 1 4) b j = σ2 b j := fun b hb j => by rw [up2_a hb, up2_a hb, up2_a hb]
      have R3 : frR 125 154 σ2 (up2 (up2 (up2 σ2 125 2 e.1) 125 3 (e.2 : Int)) 125 1 4) := ((frR.rf.put (by omega) (by omega)).put (by omega) (by omega)).put (by omega) (by omega)
      generalize (up2 (up2 (up2 σ2 125 2 e.1) 125 3 (e.2 : Int)) 125 1 4) = σ3 at K L R3
      refine hQ σ3 ⟨⟨?_, fun x hx => absurd hx (Nat.not_lt_zero x), ?_, ?_, ?_, fun _ => ?_⟩, h.2.1.ext ?_ (fun j => ?_), fun d => ?_⟩ (F1.trans ((F2.R (by simp)).trans R3))
      · rw [K, if_neg (by decide), if_neg (by decide), if_neg (by decide), B2 5 (by omega), H1]; rfl
      · rw [K, if_neg (by decide), if_neg (by decide), if_neg (by decide), B2 11 (by omega), H1]; exact h.1.2.2.1
      · rw [K]; rfl
      · rw [K]; rfl
      · rw [K]; rfl
      · rw [K, if_neg (by decide), if_neg (by decide), if_neg (by decide), B2 10 (by omega), H1]; rfl
      · rw [L 130 (by decide), F2 130 (by decide), G1 130 (by decide)]
      · have e127 : σ3 127 = σ 127 := funext (fun j => by rw [L 127 (by decide), F2 127 (by decide), G1 127 (by decide)])
        rw [e127]; exact h.2.2 d
    · intro D σ2 q1 d2 F2 B2
      rw [q1] at hQ
      have hD := prs_ok q1
      refine ⟨fun _ => ?_, fun c => absurd c (by decide)⟩
      refine m_copies (f := 0) (t := 0) hS (k_128 hS) (k_127 hS) (by decide) (by decide) (by decide) (by decide) (by decide) ?_
      intro σ3 c3 _ f3
      have d3 : eD (σ3 127) D := d2.ext hD.1 (fun k hk => by have := c3 k (by omega); rw [Nat.zero_add] at this; exact this)
      have K : ∀ j, (up2 (up2 σ3 125 11 1) 125 10 0) 125 j = if j = 10 then 0 else if j = 11 then 1 else σ3 125 j := fun j => by simp only [up2]; simp
      have L : ∀ b, b ≠ 125 → ∀ j, (up2 (up2 σ3 125 11 1) 125 10 0) b j = σ3 b j := fun b hb j => by rw [up2_a hb, up2_a hb]
      have R4 : frR 125 154 σ3 (up2 (up2 σ3 125 11 1) 125 10 0) := (frR.rf.put (by omega) (by omega)).put (by omega) (by omega)
      generalize (up2 (up2 σ3 125 11 1) 125 10 0) = σ4 at K L R4
      have d4 : eD (σ4 127) D := d3.ext hD.1 (fun k _ => L 127 (by decide) k)
      refine m_plansAnew (G := gG D) hS hD.g d4.toG ?_
      intro σ5 z5 c5 p103 pi prow
      have d5 : eD (σ5 127) D := d4.ext hD.1 (fun k hk => prow k hk)
      rw [d5.2.2.1]
      have X : ∀ j, j = 5 ∨ j = 11 ∨ j = 1 ∨ j = 2 ∨ j = 10 → σ5 125 j = if j = 10 then 0 else if j = 11 then 1 else σ1 125 j := fun j hj => by
        rw [c5.2 j (by omega) (by omega) (by omega) (by omega) (by omega) (by omega), K, f3 125 (by decide), B2 j (by omega)]
      refine hQ σ5 ⟨⟨?_, fun x hx => absurd hx (Nat.not_lt_zero x), ?_, ?_, ?_, fun c => absurd (show (0 : Int) = 4 from c) (by decide)⟩, ⟨?_, fun i hi => absurd hi (Nat.not_lt_zero i)⟩, fun _ => ⟨d5, eP.st p103 pi⟩⟩ (F1.trans ((F2.R (by simp)).trans ((f3.R (by simp)).trans (R4.trans c5.R))))
      · rw [X 5 (by omega), if_neg (by decide), if_neg (by decide), H1]; rfl
      · rw [X 11 (by omega)]; rfl
      · rw [X 1 (by omega), if_neg (by decide), if_neg (by decide), H1]; rfl
      · rw [X 2 (by omega), if_neg (by decide), if_neg (by decide), H1]; rfl
      · rw [X 10 (by omega)]; rfl
end MSHEET
