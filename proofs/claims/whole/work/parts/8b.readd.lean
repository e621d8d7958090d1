/-! Reader: lines, and all of them -/
def b2i (x : Bool) : Int := if x = true then 1 else 0
def rS (σ : StT) (b : Nat → Int) (n : Nat) (P : Pst) : Prop := rC σ b n ∧ cD σ 106 P.2.2.2 ∧ σ 124 2 = b2i P.1 ∧ σ 124 3 = b2i P.2.1 ∧ σ 124 4 = b2i P.2.2.1
def rfm (σ σ' : StT) : Prop := fr [2, 106, 107, 108, 124] σ σ' ∧ σ' 2 1 = σ 2 1
theorem rfm.trans {σ σ1 σ2 : StT} (h : rfm σ σ1) (k : rfm σ1 σ2) : rfm σ σ2 := ⟨h.1.trans k.1, k.2.trans h.2⟩
theorem rkp.fm {σ σ' : StT} (h : rkp σ σ') : rfm σ σ' := ⟨h.1.mono (by simp), h.2.1⟩
theorem rfm.put {σ σ' : StT} {a i : Nat} {v : Int} (h : rfm σ σ') (ha : a ∈ [106, 107, 108, 124]) : rfm σ (up2 σ' a i v) := by
  refine ⟨h.1.put ?_, ?_⟩
  · simp at ha ⊢; omega
  · rw [up2_a (by simp at ha; omega)]; exact h.2
theorem rS.k {σ σ' : StT} {b : Nat → Int} {n : Nat} {P : Pst} (h : rS σ b n P) (hk : rkp σ σ') : rS σ' b n P := by
  obtain ⟨h1, h2, h3, h4, h5⟩ := h
  exact ⟨h1.k hk, h2.ext (fun j => hk.1 106 (by decide) j) (fun j => hk.1 107 (by decide) j) (fun j => hk.1 108 (by decide) j), by rw [hk.2.2.2 2 (by decide)]; exact h3, by rw [hk.2.2.2 3 (by decide)]; exact h4, by rw [hk.2.2.2 4 (by decide)]; exact h5⟩
/-- a field of the drawing is set -/
theorem rC.u {σ : StT} {b : Nat → Int} {n a i : Nat} {v : Int} (h : rC σ b n) (ha : 100 ≤ a) : rC (up2 σ a i v) b n := h.ext (up2_a (by omega)) (fun j => up2_a (by omega))
def oc (b : Nat → Int) (n : Nat) (res : PF ⊕ (Pst × Nat)) (σ : StT) (Q : Int → StT → Prop) : Prop := (∀ (e : PF) (σ' : StT), res = .inl e → fl1 σ' e → rfm σ σ' → Q 0 σ') ∧ ∀ (q : Pst × Nat) (σ' : StT), res = .inr q → rS σ' b n q.1 → σ' 2 3 = q.2 → rfm σ σ' → σ' 124 5 = σ 124 5 → Q 1 σ'
theorem isD_o : isD 106 := by unfold isD; omega
section READD
variable {S : ShT} {σ : StT} {Q : Int → StT → Prop} {b : Nat → Int} {n s t : Nat} {P : Pst}
theorem bd_l {α β : Type} {r : PF ⊕ α} {k : α → PF ⊕ β} {e : PF} (h : r = .inl e) : bd r k = .inl e := by rw [h]; rfl
theorem bd_r {α β : Type} {r : PF ⊕ α} {k : α → PF ⊕ β} {a : α} (h : r = .inr a) : bd r k = k a := by rw [h]; rfl
theorem sp_readsSheet (hS : SHP S) (h : rS σ b n P) (hs : s ≤ n) (h3 : σ 2 3 = s) (h5 : σ 2 5 = t) (hQ : oc b n (if P.1 = true then .inl (4, t) else pSheet b n s P) σ Q) : WPs mX6_readsSheet [vR 124] S σ Q := by
  obtain ⟨hC, hD, f2, f3, f4⟩ := h
  refine e_X6_readsSheet hS ?_
  rw [f2]
  cases c : P.1 with
  | true =>
    rw [c] at hQ
    refine ⟨fun q => absurd q (by decide), fun _ => sp_fails hS h5 (fun σ1 f R => ⟨Or.inl rfl, hQ.1 _ σ1 rfl f R.fm⟩)⟩
  | false =>
    rw [c, if_neg (by simp)] at hQ
    refine ⟨fun _ => ?_, fun q => absurd rfl q⟩
    have hC0 : rC (up2 σ 124 2 1) b n := hC.u (by omega)
    have M0 : rfm σ (up2 σ 124 2 1) := (rkp.rf.fm).put (by simp)
    refine sp_readsWord hS (by decide) hC0 hs (by rw [up2_a (by decide)]; exact h3) (fun e σ1 r1 f1 R1 => ⟨fun _ => hQ.1 e σ1 (bd_l r1) f1 (M0.trans R1.fm), fun q => absurd rfl q⟩) (fun v1 σ1 r1 e1 R1 z1 => ⟨fun q => absurd q (by decide), fun _ => ?_⟩)
    have k1 := pWd_ok r1 hs
    refine sp_readsWhole hS (hC0.k R1) k1.2 e1 (fun e σ2 r2 f2 R2 => ⟨fun q => absurd rfl q, fun _ => hQ.1 e σ2 ((bd_r r1).trans (bd_l r2)) f2 (M0.trans (R1.trans R2).fm)⟩) (fun z σ2 r2 e26 e23 e25 R2 z2 => ⟨fun _ => ?_, fun q => absurd q (by decide)⟩)
    have k2 := pWh_ok r2 k1.2
    rw [e26]
    have hC2 : rC (up2 σ2 106 3 z.1) b n := ((hC0.k R1).k R2).u (by omega)
    have M2 : rfm σ (up2 σ2 106 3 z.1) := (M0.trans (R1.trans R2).fm).put (by simp)
    refine sp_readsWord hS (by decide) hC2 k2.2.2.2 (by rw [up2_a (by decide)]; exact e23) (fun e σ3 r3 f3 R3 => ⟨fun _ => hQ.1 e σ3 ((bd_r r1).trans ((bd_r r2).trans (bd_l r3))) f3 (M2.trans R3.fm), fun q => absurd rfl q⟩) (fun v3 σ3 r3 e3 R3 z3 => ⟨fun q => absurd q (by decide), fun _ => ?_⟩)
    have k3 := pWd_ok r3 k2.2.2.2
    refine sp_readsWhole hS (hC2.k R3) k3.2 e3 (fun e σ4 r4 f4 R4 => ⟨fun q => absurd rfl q, fun _ => hQ.1 e σ4 ((bd_r r1).trans ((bd_r r2).trans ((bd_r r3).trans (bd_l r4)))) f4 (M2.trans (R3.trans R4).fm)⟩) (fun j σ4 r4 e46 e43 e45 R4 z4 => ⟨fun _ => ?_, fun q => absurd q (by decide)⟩)
    rw [e46]
    have RR := R3.trans R4
    have back : ∀ b', b' ≠ 2 → b' ≠ 124 → ∀ i, σ4 b' i = (up2 σ2 106 3 z.1) b' i := fun b' b1 b2 i => RR.1 b' (by simp; omega) i
    have back2 : ∀ b', b' ≠ 2 → b' ≠ 124 → ∀ i, σ2 b' i = σ b' i := fun b' b1 b2 i => by rw [(R1.trans R2).1 b' (by simp; omega) i, up2_a b2]
    obtain ⟨a1, a2, a3, a4, a5, a6, a7, a8⟩ := hD
    have g : ∀ i, i ≠ 3 → σ4 106 i = σ 106 i := fun i hi => by rw [back 106 (by decide) (by decide), up2_i hi, back2 106 (by decide) (by decide)]
    have g3 : σ4 106 3 = z.1 := by rw [back 106 (by decide) (by decide), up2_s]
    have g7 : ∀ i, σ4 107 i = σ 107 i := fun i => by rw [back 107 (by decide) (by decide), up2_a (by decide), back2 107 (by decide) (by decide)]
    have g8 : ∀ i, σ4 108 i = σ 108 i := fun i => by rw [back 108 (by decide) (by decide), up2_a (by decide), back2 108 (by decide) (by decide)]
    have fl : ∀ i, i < 5 → σ4 124 i = if i = 2 then 1 else σ 124 i := fun i hi => by
      rw [RR.2.2.2 i hi, up2_a (by decide), (R1.trans R2).2.2.2 i hi]
      by_cases e : i = 2
      · rw [if_pos e, e, up2_s]
      · rw [if_neg e, up2_i e]
    refine hQ.2 _ _ ((bd_r r1).trans ((bd_r r2).trans ((bd_r r3).trans (bd_r r4)))) ⟨((hC2.k R3).k R4).u (by omega), ⟨?_, ?_, ?_, ?_, ?_, ?_, ?_, fun e he => ⟨?_, ?_⟩⟩, ?_, ?_, ?_⟩ ?_ ((M2.trans RR.fm).put (by simp)) (by rw [up2_a (by decide), z4, z3, up2_a (by decide), z2, z1, up2_i (by decide)])
    · rw [up2_i (by decide), g 2 (by decide)]; exact a1
    · rw [up2_i (by decide), g3]; rfl
    · rw [up2_s]; rfl
    · rw [up2_i (by decide), g 5 (by decide)]; exact a4
    · rw [up2_i (by decide), g 6 (by decide)]; exact a5
    · rw [up2_i (by decide), g 7 (by decide)]; exact a6
    · rw [up2_i (by decide), g 8 (by decide)]; exact a7
    · rw [up2_a (by decide), g7]; exact (a8 e he).1
    · rw [up2_a (by decide), g8]; exact (a8 e he).2
    · rw [up2_a (by decide), fl 2 (by decide), if_pos rfl]; rfl
    · rw [up2_a (by decide), fl 3 (by decide), if_neg (by decide)]; exact f3
    · rw [up2_a (by decide), fl 4 (by decide), if_neg (by decide)]; exact f4
    · rw [up2_a (by decide)]; exact e43
theorem sp_readsStroke (hS : SHP S) (h : rS σ b n P) (hs : s ≤ n) (h3 : σ 2 3 = s) (h5 : σ 2 5 = t) (hQ : oc b n (if P.2.2.2.n < 24 then pStroke b n s P else .inl (5, t)) σ Q) : WPs mX6_readsStroke [vR 124] S σ Q := by
  obtain ⟨hC, hD, f2, f3, f4⟩ := h
  have sz : ∀ {σ' : StT}, rkp σ σ' → σ' 106 3 = P.2.2.2.sz := fun R => by rw [R.1 106 (by decide)]; exact hD.2.1
  refine e_X6_readsStroke hS ?_
  rw [hD.1]
  refine ⟨fun q => ?_, fun q => ?_⟩
  · rw [if_pos (by omega)] at hQ
    rw [sz rkp.rf]
    refine sp_readsWhole hS hC hs h3 (fun e σ1 r1 f1 R1 => ⟨fun q => absurd rfl q, fun _ => hQ.1 e σ1 (bd_l r1) f1 R1.fm⟩) (fun x σ1 r1 x6 x3 x5 R1 z1 => ⟨fun _ => ?_, fun q => absurd q (by decide)⟩)
    have k1 := pWh_ok r1 hs
    rw [sz R1]
    refine sp_readsWhole hS (hC.k R1) k1.2.2.2 x3 (fun e σ2 r2 f2 R2 => ⟨fun q => absurd rfl q, fun _ => hQ.1 e σ2 ((bd_r r1).trans (bd_l r2)) f2 (R1.trans R2).fm⟩) (fun y σ2 r2 y6 y3 y5 R2 z2 => ⟨fun _ => ?_, fun q => absurd q (by decide)⟩)
    have k2 := pWh_ok r2 k1.2.2.2
    rw [sz (R1.trans R2)]
    refine sp_readsWhole hS ((hC.k R1).k R2) k2.2.2.2 y3 (fun e σ3 r3 f3 R3 => ⟨fun q => absurd rfl q, fun _ => hQ.1 e σ3 ((bd_r r1).trans ((bd_r r2).trans (bd_l r3))) f3 ((R1.trans R2).trans R3).fm⟩) (fun u σ3 r3 u6 u3 u5 R3 z3 => ⟨fun _ => ?_, fun q => absurd q (by decide)⟩)
    have k3 := pWh_ok r3 k2.2.2.2
    rw [sz ((R1.trans R2).trans R3)]
    refine sp_readsWhole hS (((hC.k R1).k R2).k R3) k3.2.2.2 u3 (fun e σ4 r4 f4 R4 => ⟨fun q => absurd rfl q, fun _ => hQ.1 e σ4 ((bd_r r1).trans ((bd_r r2).trans ((bd_r r3).trans (bd_l r4)))) f4 (((R1.trans R2).trans R3).trans R4).fm⟩) (fun v σ4 r4 v6 v3 v5 R4 z4 => ⟨fun _ => ?_, fun q => absurd q (by decide)⟩)
    have RR := ((R1.trans R2).trans R3).trans R4
    rw [x6, y6, u6, v6]
    have all : ∀ {res : PF ⊕ (Pst × Nat)}, (if x.1 = u.1 ∧ y.1 = v.1 then .inl (3, tS b n u.2) else .inr ((P.1, P.2.1, P.2.2.1, addD P.2.2.2 x.1 y.1 u.1 v.1), v.2)) = res → pStroke b n s P = res := fun hr => ((bd_r r1).trans ((bd_r r2).trans ((bd_r r3).trans (bd_r r4)))).trans hr
    have good : ¬ (x.1 = u.1 ∧ y.1 = v.1) → AWs mX6_readsStroke 136 [(0, vR 124), (1, vI x.1), (2, vI y.1), (3, vI u.1), (4, vI v.1)] [] S σ4 Q := fun c => by
      refine t_X6_readsStroke_136 hS (sp_dput (D := P.2.2.2) hS isD_o (hD.ext (fun j => RR.1 106 (by decide) j) (fun j => RR.1 107 (by decide) j) (fun j => RR.1 108 (by decide) j)) (by omega) ?_)
      intro σ5 d1 d2
      refine hQ.2 _ σ5 (all (if_neg c)) ⟨(hC.k RR).ext (d2 2 (by decide) 2) (fun j => d2 3 (by decide) j), d1, ?_, ?_, ?_⟩ (by rw [d2 2 (by decide)]; exact v3) (RR.fm.trans ⟨d2.mono (by simp), d2 2 (by decide) 1⟩) (by rw [d2 124 (by decide), z4, z3, z2, z1])
      · rw [d2 124 (by decide), RR.2.2.2 2 (by decide)]; exact f2
      · rw [d2 124 (by decide), RR.2.2.2 3 (by decide)]; exact f3
      · rw [d2 124 (by decide), RR.2.2.2 4 (by decide)]; exact f4
    refine ⟨fun c => good (fun z => c z.1), fun c => ⟨fun c2 => good (fun z => c2 z.2), fun c2 => ?_⟩⟩
    refine sp_fails hS v5 (fun σ5 f5 R5 => ⟨Or.inl rfl, hQ.1 _ σ5 (all (if_pos ⟨c, c2⟩)) f5 (RR.trans R5).fm⟩)
  · rw [if_neg (by omega)] at hQ
    exact sp_fails hS h5 (fun σ1 f R => ⟨Or.inl rfl, hQ.1 _ σ1 rfl f R.fm⟩)
end READD
