/-! the class's world: a drawing, what is gathered of it, its plan -/
def gG (D : Dw) : Geo := gD D D.jo
noncomputable def TT (D : Dw) : Tr := TR (gG D) (pcn (gG D))
def hm (D : Dw) : Int × Int := (D.hx, D.hy)
def okE (D : Dw) (N : Nat) (f : Nat → Nat) : Prop := okDw D ∧ N = (TT D).length ∧ okF (TT D) N f
def cW (σ : StT) (D : Dw) (N : Nat) (f : Nat → Nat) : Prop := cD σ 4 D ∧ okE D N f ∧ atM σ 7 (gG D) ∧ atR σ (gG D) ∧ atW σ (gG D) ∧ atT σ (gG D) (TT D) ∧ pl σ 51 N f
theorem okDw.g {D : Dw} (h : okDw D) : okG (gG D) := h.G h.2.2.1.1 h.2.2.1.2
theorem okDw.H {D : Dw} (h : okDw D) : okH (hm D) := by
  obtain ⟨k1, k2, k3, k4, k5, -⟩ := h
  exact ⟨k4.1, by show D.hx ≤ 200; omega, k5.1, by show D.hy ≤ 200; omega⟩
theorem okDw.T {D : Dw} (h : okDw D) : okTr (gG D) (TT D) := okTr_TR h.g.1
theorem okDw.l {D : Dw} (h : okDw D) : (TT D).length ≤ 24 := Nat.le_trans h.T.le h.g.1
theorem okE.st {D : Dw} (h : okDw D) : okE D (TT D).length (fun i => 2 * i) := ⟨h, rfl, h.l, fun i hi => by show 2 * i / 2 < _; omega⟩
theorem wT_of {σ : StT} {D : Dw} (h : cD σ 4 D) (ho : okDw D) (hM : atM σ 7 (gG D)) : wT σ (gG D) := ⟨h.ok ho, h.geo D.jo, ho.g, hM⟩
theorem wP_of {σ : StT} {D : Dw} (h : cD σ 4 D) (ho : okDw D) (hM : atM σ 7 (gG D)) (hT : atT σ (gG D) (TT D)) : wP σ (gG D) (hm D) (TT D) := ⟨wT_of h ho hM, h.2.2.2.1, h.2.2.2.2.1, ho.H, hT, ho.T⟩
theorem cW.wP {σ : StT} {D : Dw} {N : Nat} {f : Nat → Nat} (h : cW σ D N f) : wP σ (gG D) (hm D) (TT D) := wP_of h.1 h.2.1.1 h.2.2.1 h.2.2.2.2.2.1
theorem cW.wT {σ : StT} {D : Dw} {N : Nat} {f : Nat → Nat} (h : cW σ D N f) : wT σ (gG D) := wT_of h.1 h.2.1.1 h.2.2.1
theorem cW.ext {σ σ' : StT} {D : Dw} {N : Nat} {f : Nat → Nat} (h : cW σ D N f) (hf : ∀ b, 4 ≤ b → b < 53 → b ≠ 49 → b ≠ 50 → ∀ j, σ' b j = σ b j) : cW σ' D N f := by
  obtain ⟨h1, h2, h3, h4, h5, h6, h7⟩ := h
  exact ⟨h1.ext (fun j => hf 4 (by omega) (by omega) (by omega) (by omega) j) (fun j => hf 5 (by omega) (by omega) (by omega) (by omega) j) (fun j => hf 6 (by omega) (by omega) (by omega) (by omega) j), h2, h3.ext (fun b b1 b2 j => hf b (by omega) (by omega) (by omega) (by omega) j), h4.ext (fun b b1 b2 j => hf b (by omega) (by omega) (by omega) (by omega) j), h5.ext (fun j => hf 33 (by omega) (by omega) (by omega) (by omega) j) (fun j => hf 32 (by omega) (by omega) (by omega) (by omega) j), h6.ext (hf 40 (by omega) (by omega) (by omega) (by omega) 9) (hf 40 (by omega) (by omega) (by omega) (by omega) 12) (fun b b1 b2 j => hf b (by omega) (by omega) (by omega) (by omega) j), h7.ext (hf 51 (by omega) (by omega) (by omega) (by omega) 4) (fun j => hf 52 (by omega) (by omega) (by omega) (by omega) j)⟩
def z30 (σ : StT) : Prop := ∀ u, u < 4096 → σ 30 u = 0
section WORLD
variable {S : ShT} {σ : StT} {Q : Int → StT → Prop} {D : Dw} {N : Nat} {f : Nat → Nat}
theorem sp_startPlan (hS : SHP S) (h : cD σ 4 D) (ho : okDw D) (hz : z30 σ) (hQ : ∀ σ' : StT, cW σ' D (TT D).length (fun i => 2 * i) → z30 σ' → frR 7 53 σ σ' → Q 0 σ') : WPs mX10_startPlan [vR 1] S σ Q := by
  have hG : geoD σ 4 (σ 4 4) = gG D := by rw [h.2.2.1]; exact h.geo D.jo
  refine e_X10_startPlan hS (sp_gather hS isM_a (h.ok ho) (by rw [h.2.2.1]; exact ho.2.2.1.1) (by rw [h.2.2.1]; exact ho.2.2.1.2) ?_)
  intro σ1 m1 f1
  rw [hG] at m1
  have F1 : frR 7 53 σ σ1 := f1.mono (by omega) (by omega)
  have hz1 : z30 σ1 := fun u hu => by rw [F1.mono (lo' := 7) (hi' := 53) (by omega) (by omega) |> fun _ => f1 30 (by omega)]; exact hz u hu
  refine sp_pgather hS ho.g m1 hz1 ?_
  intro σ2 r2 f2
  have m2 : atM σ2 7 (gG D) := m1.ext (fun b b1 b2 j => f2 b (by omega) j)
  have h2 : cD σ2 4 D := h.ext (fun j => by rw [f2 4 (by omega), f1 4 (by omega)]) (fun j => by rw [f2 5 (by omega), f1 5 (by omega)]) (fun j => by rw [f2 6 (by omega), f1 6 (by omega)])
  refine sp_wgather hS ⟨h2.1, ho.1, m2, r2⟩ ?_
  intro σ3 w3 f3
  have m3 : atM σ3 7 (gG D) := m2.ext (fun b b1 b2 j => f3 b (by omega) j)
  have h3 : cD σ3 4 D := h2.ext (fun j => f3 4 (by omega) j) (fun j => f3 5 (by omega) j) (fun j => f3 6 (by omega) j)
  refine sp_tgather hS (wT_of h3 ho m3) w3 ?_
  intro σ4 t4 f4
  refine sp_start (T := TT D) hS (Or.inl rfl) t4.1 ho.l ?_
  intro σ5 p5 f5
  have b4 : ∀ b, b < 40 → ∀ j, σ5 b j = σ3 b j := fun b hb j => by rw [f5 b (by simp; omega), f4 b (by omega)]
  refine hQ σ5 ⟨h3.ext (fun j => b4 4 (by omega) j) (fun j => b4 5 (by omega) j) (fun j => b4 6 (by omega) j), okE.st ho, m3.ext (fun b b1 b2 j => b4 b (by omega) j), r2.ext (fun b b1 b2 j => by rw [b4 b (by omega), f3 b (by omega)]), w3.ext (fun j => b4 33 (by omega) j) (fun j => b4 32 (by omega) j), t4.ext (f5 40 (by simp) 9) (f5 40 (by simp) 12) (fun b b1 b2 j => f5 b (by simp; omega) j), p5⟩ (fun u hu => ?_) ((((F1.trans (f2.mono (by omega) (by omega))).trans (f3.mono (by omega) (by omega))).trans (f4.mono (by omega) (by omega))).trans (f5.R (by simp)))
  rw [b4 30 (by omega), f3 30 (by omega)]
  exact r2.2.2.2 u hu
end WORLD
