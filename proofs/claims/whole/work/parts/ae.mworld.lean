/-! Model: its world -/
def eD (g : Nat → Int) (D : Dw) : Prop := g 0 = D.sz ∧ g 1 = D.jo ∧ g 2 = D.n ∧ g 3 = D.hx ∧ g 4 = D.hy ∧ g 5 = D.dn ∧ g 6 = D.up ∧ ∀ e, e < 2 * D.n → g (7 + 2 * e) = D.X e ∧ g (8 + 2 * e) = D.Y e
def eP (g : Nat → Int) (N : Nat) (f : Nat → Nat) : Prop := g 103 = N ∧ ∀ i, i < N → g (104 + i) = ((f i / 2 : Nat) : Int) ∧ g (128 + i) = ((f i % 2 : Nat) : Int)
theorem eD.ext {g g' : Nat → Int} {D : Dw} (h : eD g D) (hn : D.n ≤ 24) (hg : ∀ k, k < 103 → g' k = g k) : eD g' D := by
  obtain ⟨a0, a1, a2, a3, a4, a5, a6, a7⟩ := h
  refine ⟨by rw [hg _ (by omega)]; exact a0, by rw [hg _ (by omega)]; exact a1, by rw [hg _ (by omega)]; exact a2, by rw [hg _ (by omega)]; exact a3, by rw [hg _ (by omega)]; exact a4, by rw [hg _ (by omega)]; exact a5, by rw [hg _ (by omega)]; exact a6, fun e he => ?_⟩
  rw [hg _ (by omega), hg _ (by omega)]; exact a7 e he
theorem eP.ext {g g' : Nat → Int} {N : Nat} {f : Nat → Nat} (h : eP g N f) (hn : N ≤ 24) (hg : ∀ k, 103 ≤ k → k < 152 → g' k = g k) : eP g' N f := by
  refine ⟨by rw [hg _ (by omega) (by omega)]; exact h.1, fun i hi => ?_⟩
  rw [hg _ (by omega) (by omega), hg _ (by omega) (by omega)]; exact h.2 i hi
theorem eD.toJ {σ : StT} {D : Dw} {j : Int} (h : eD (σ 127) D) (hj : σ 127 1 = j) : rG σ (gD D j) := by
  obtain ⟨a0, a1, a2, a3, a4, a5, a6, a7⟩ := h
  refine ⟨a2, hj, fun e he => ?_⟩
  have he' : e < 2 * D.n := he
  refine ⟨(a7 e he').1.trans ?_, (a7 e he').2.trans ?_⟩
  · show D.X e = if e < 2 * D.n then D.X e else 0
    rw [if_pos he']
  · show D.Y e = if e < 2 * D.n then D.Y e else 0
    rw [if_pos he']
theorem eD.toG {σ : StT} {D : Dw} (h : eD (σ 127) D) : rG σ (gG D) := h.toJ h.2.1
/-- what was kept -/
def mK (σ : StT) (L : Hs) : Prop := σ 125 10 = L.length ∧ ∀ i, i < L.length → eD (fun k => σ 130 (152 * (L.length - 1 - i) + k)) (hg L i).1 ∧ eP (fun k => σ 130 (152 * (L.length - 1 - i) + k)) (hg L i).2.1 (hg L i).2.2
theorem mK.ext {σ σ' : StT} {L : Hs} (h : mK σ L) (h0 : σ' 125 10 = σ 125 10) (h1 : ∀ j, σ' 130 j = σ 130 j) : mK σ' L := by
  have e : σ' 130 = σ 130 := funext h1
  unfold mK
  rw [h0, e]; exact h
/-- the tape and what the last call left -/
def mW (σ : StT) (M : Ms) : Prop := σ 125 5 = M.tl ∧ (∀ x, x < M.tl → σ 126 x = M.tb x ∧ 0 ≤ M.tb x) ∧ σ 125 11 = b2i M.dr ∧ σ 125 1 = M.tr ∧ σ 125 2 = M.fa ∧ (M.tr = 4 → σ 125 3 = M.wh)
def mT (σ : StT) (M : Ms) : Prop := mW σ M ∧ mK σ M.L ∧ (M.dr = true → eD (σ 127) M.D ∧ eP (σ 127) M.N M.f)
theorem mW.ext {σ σ' : StT} {M : Ms} (h : mW σ M) (h0 : ∀ j, j = 5 ∨ j = 11 ∨ j = 1 ∨ j = 2 ∨ j = 3 → σ' 125 j = σ 125 j) (h1 : ∀ j, σ' 126 j = σ 126 j) : mW σ' M :=
  ⟨by rw [h0 5 (by omega)]; exact h.1, fun x hx => by rw [h1]; exact h.2.1 x hx, by rw [h0 11 (by omega)]; exact h.2.2.1, by rw [h0 1 (by omega)]; exact h.2.2.2.1, by rw [h0 2 (by omega)]; exact h.2.2.2.2.1, fun q => by rw [h0 3 (by omega)]; exact h.2.2.2.2.2 q⟩
theorem mT.ext {σ σ' : StT} {M : Ms} (h : mT σ M) (h0 : ∀ j, j = 5 ∨ j = 11 ∨ j = 1 ∨ j = 2 ∨ j = 3 ∨ j = 10 → σ' 125 j = σ 125 j) (h1 : ∀ b, b = 126 ∨ b = 127 ∨ b = 130 → ∀ j, σ' b j = σ b j) : mT σ' M := by
  have e : σ' 127 = σ 127 := funext (h1 127 (by omega))
  refine ⟨h.1.ext (fun j hj => h0 j (by omega)) (h1 126 (by omega)), h.2.1.ext (h0 10 (by omega)) (h1 130 (by omega)), fun q => ?_⟩
  rw [e]; exact h.2.2 q
theorem mT.fC {σ σ' : StT} {M : Ms} (h : mT σ M) (hc : fC σ σ') : mT σ' M := h.ext (fun j hj => hc.2 j (by omega) (by omega) (by omega) (by omega) (by omega) (by omega)) (fun b hb => hc.1 b (by omega) (by omega))
/-- a call of the reference -/
def MC (S : ShT) (y : ME) (as : List AV) (M : Ms) (r : Int × Ms) : Prop := ∀ (σ : StT) (Q : Int → StT → Prop), okM M → mT σ M → (∀ σ' : StT, mT σ' r.2 → frR 125 154 σ σ' → Q r.1 σ') → WPs y as S σ Q
theorem fC.R {σ σ' : StT} (h : fC σ σ') : frR 125 154 σ σ' := fun b hb j => h.1 b (by omega) (by omega) j
theorem fD.R {σ σ' : StT} (h : fD σ σ') : frR 125 154 σ σ' := fun b hb j => h.1 b (by omega) (by omega) (by omega) j
section MWORLD
variable {S : ShT} {σ : StT} {Q : Int → StT → Prop} {M : Ms}
theorem mT.dr1 (h : mT σ M) (c : M.dr = true) : σ 125 11 ≠ 0 := by rw [h.1.2.2.1, c]; decide
theorem mT.dr0 (h : mT σ M) (c : M.dr = false) : σ 125 11 = 0 := by rw [h.1.2.2.1, c]; rfl
theorem m_in {v a b : Int} (hS : SHP S) (h0 : ¬ (a ≤ v ∧ v ≤ b) → Q 0 σ) (h1 : (a ≤ v ∧ v ≤ b) → Q 1 σ) : WPs mX11_in [vI v, vI a, vI b] S σ Q :=
  e_X11_in hS ⟨fun q => h0 (by omega), fun q => ⟨fun q2 => h0 (by omega), fun q2 => h1 (by omega)⟩⟩
/-- behind isRefused -/
def rfu (σ : StT) (k : Int) : StT := up2 (up2 (up2 σ 125 0 0) 125 3 (-1)) 125 1 k
theorem rfu_R (σ : StT) (k : Int) : frR 125 154 σ (rfu σ k) := ((frR.rf.put (by omega) (by omega)).put (by omega) (by omega)).put (by omega) (by omega)
theorem rfu_b {σ : StT} {k : Int} {b : Nat} (hb : b ≠ 125) (j : Nat) : rfu σ k b j = σ b j := by unfold rfu; rw [up2_a hb, up2_a hb, up2_a hb]
theorem rfu_f {σ : StT} {k : Int} {j : Nat} (h0 : j ≠ 0) (h1 : j ≠ 1) (h3 : j ≠ 3) : rfu σ k 125 j = σ 125 j := by unfold rfu; rw [up2_i h1, up2_i h3, up2_i h0]
theorem mT.t (h : mT σ M) {k : Int} (hk : k ≠ 4) : mT (rfu σ k) (M.t k) := by
  have e : rfu σ k 127 = σ 127 := funext (rfu_b (by decide))
  refine ⟨⟨by rw [rfu_f (by decide) (by decide) (by decide)]; exact h.1.1, fun x hx => by rw [rfu_b (by decide)]; exact h.1.2.1 x hx, by rw [rfu_f (by decide) (by decide) (by decide)]; exact h.1.2.2.1, ?_, by rw [rfu_f (by decide) (by decide) (by decide)]; exact h.1.2.2.2.2.1, fun q => absurd q hk⟩, h.2.1.ext (rfu_f (by decide) (by decide) (by decide)) (rfu_b (by decide)), fun q => by rw [e]; exact h.2.2 q⟩
  unfold rfu; rw [up2_s]; rfl
theorem m_isRefused {k : Int} (hS : SHP S) (h0 : k = 0 → Q 0 (rfu σ k)) (h1 : k ≠ 0 → Q 1 (rfu σ k)) : WPs mX11_isRefused [vR 125, vI k] S σ Q := e_X11_isRefused hS ⟨h0, h1⟩
theorem m_no {k : Int} (hS : SHP S) (hk : k ≠ 4) (h : mT σ M) (hQ : ∀ σ' : StT, mT σ' (M.t k) → frR 125 154 σ σ' → Q (-1) σ') : WPs mX11_no [vR 125, vI k] S σ Q := by
  refine e_X11_no hS (hQ _ ⟨⟨by rw [up2_i (by decide)]; exact h.1.1, fun x hx => by rw [up2_a (by decide)]; exact h.1.2.1 x hx, by rw [up2_i (by decide)]; exact h.1.2.2.1, up2_s _ _ _ _, by rw [up2_i (by decide)]; exact h.1.2.2.2.2.1, fun q => absurd q hk⟩, h.2.1.ext (up2_i (by decide)) (fun j => up2_a (by decide)), fun q => ?_⟩ (frR.rf.put (by omega) (by omega)))
  have e : (up2 σ 125 1 k) 127 = σ 127 := funext (fun j => up2_a (by decide))
  rw [e]; exact h.2.2 q
theorem okM.E (h : okM M) (d : M.dr = true) : okE M.D M.N M.f := h.2.1 d
theorem okM.G (h : okM M) (d : M.dr = true) : okG M.g := (h.E d).1.G (h.E d).1.2.2.1.1 (h.E d).1.2.2.1.2
theorem okM.n (h : okM M) (d : M.dr = true) : M.D.n ≤ 24 := (h.E d).1.1
theorem m_isAsked {v : Int} (hS : SHP S) (ho : okM M) (h : mT σ M) (h0 : (¬ (M.dr = true ∧ v ≠ 0)) → ∀ σ' : StT, mT σ' (M.t 1) → frR 125 154 σ σ' → Q 0 σ') (h1 : M.dr = true → v ≠ 0 → ∀ σ' : StT, mT σ' (M.t 0) → mZ σ' M.g → frR 125 154 σ σ' → Q 1 σ') : WPs mX11_isAsked [vR 125, vI v] S σ Q := by
  have no : (¬ (M.dr = true ∧ v ≠ 0)) → WPs mX11_unless [vI 0] S σ (fun r17 s17 => WPs mX11_isRefused [vR 125, vI r17] S s17 (fun r20 s20 => (r20 = 0 → WPs mX11_reckons [vR 125] S s20 (fun r29 s29 => Q 1 s29)) ∧ (¬ (r20 = 0) → Q 0 s20))) := fun q => by
    refine e_X11_unless hS ⟨fun _ => m_isRefused hS (fun c => absurd c (by decide)) (fun _ => ⟨fun c => absurd c (by decide), fun _ => h0 q _ (h.t (by decide)) (rfu_R _ _)⟩), fun c => absurd rfl c⟩
  refine e_X11_isAsked hS ⟨fun q => no (fun c => h.dr1 c.1 q), fun q => ⟨fun q2 => no (fun c => c.2 q2), fun q2 => ?_⟩⟩
  have d : M.dr = true := by
    by_cases d : M.dr = true
    · exact d
    · exact absurd (h.dr0 (dr_f d)) q
  refine e_X11_unless hS ⟨fun c => absurd c (by decide), fun _ => m_isRefused hS (fun _ => ⟨fun _ => ?_, fun c => absurd rfl c⟩) (fun c => absurd rfl c)⟩
  have h' := h.t (k := 0) (by decide)
  refine m_reckons (G := M.g) hS (ho.G d) (h'.2.2 d).1.toG ?_
  intro σ' hz hc
  exact h1 d q2 σ' (h'.fC hc) hz ((rfu_R _ _).trans hc.R)
theorem m_copies {a b na nb f t : Nat} (hS : SHP S) (ha : S.2.1 a = (1, na)) (hb : S.2.1 b = (1, nb)) (hab : a ≠ b) (hf : f + 152 ≤ na) (ht : t + 152 ≤ nb) (hna : na ≤ 100000) (hnb : nb ≤ 100000) (hQ : ∀ σ' : StT, (∀ k, k < 152 → σ' b (t + k) = σ a (f + k)) → (∀ j, (j < t ∨ t + 152 ≤ j) → σ' b j = σ b j) → fr [b] σ σ' → Q 0 σ') : WPs mX11_copies [vR a, vI (f : Int), vR b, vI (t : Int)] S σ Q := by
  refine e_X11_copies hS ha hb ?_
  refine lup (I := fun i σ' => 0 ≤ i ∧ i ≤ 152 ∧ fr [b] σ σ' ∧ (∀ k : Nat, (k : Int) < i → σ' b (t + k) = σ a (f + k)) ∧ ∀ j, (j < t ∨ t + 152 ≤ j) → σ' b j = σ b j) (W := fun i σ' => AWs mX11_copies 3 [(0, vR a), (1, vI (f : Int)), (2, vR b), (3, vI (t : Int)), (4, vI i)] [] S σ' Q) 152 ?_ ?_ 0 σ ⟨by omega, by omega, fr.rf, fun k hk => by omega, fun _ _ => rfl⟩
  · rintro i σ1 ⟨i0, i1, i2, i3, i4⟩ hge
    exact t_X11_copies_3 hS ha hb ⟨fun _ => hQ σ1 (fun k hk => i3 k (by omega)) i4 i2, fun q => absurd hge q⟩
  · rintro i σ1 ⟨i0, i1, i2, i3, i4⟩ hlt kk
    obtain ⟨i, rfl⟩ := nat_of i0
    refine t_X11_copies_3 hS ha hb ⟨fun q => absurd q (by omega), fun _ => ⟨inR_s (by omega) (by omega), inR_s (by omega) (by omega), ⟨by omega, by omega⟩, ⟨by omega, by omega⟩, inR_s (by omega) (by omega), kk _ ⟨by omega, by omega, i2.put (by simp), fun k hk => ?_, fun j hj => ?_⟩⟩⟩
    · rw [show ((t : Int) + (i : Int)).toNat = t + i by omega, show ((f : Int) + (i : Int)).toNat = f + i by omega]
      by_cases e : k = i
      · subst e; rw [up2_s, i2 a (by simpa using hab)]
      · rw [up2_i (by omega)]; exact i3 k (by omega)
    · rw [show ((t : Int) + (i : Int)).toNat = t + i by omega, up2_i (by omega)]; exact i4 j hj
end MWORLD
