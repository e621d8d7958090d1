/-! Reader: its methods -/
/-- reading has changed the token and the fault alone -/
def rkp (σ σ' : StT) : Prop := fr [2, 124] σ σ' ∧ σ' 2 1 = σ 2 1 ∧ σ' 2 2 = σ 2 2 ∧ ∀ j, j < 5 → σ' 124 j = σ 124 j
theorem rkp.trans {σ σ1 σ2 : StT} (h : rkp σ σ1) (k : rkp σ1 σ2) : rkp σ σ2 := ⟨h.1.trans k.1, k.2.1.trans h.2.1, k.2.2.1.trans h.2.2.1, fun j hj => (k.2.2.2 j hj).trans (h.2.2.2 j hj)⟩
theorem rkp.rf {σ : StT} : rkp σ σ := ⟨fr.rf, rfl, rfl, fun _ _ => rfl⟩
def fl1 (σ : StT) (e : PF) : Prop := σ 124 5 = e.1 ∧ σ 124 6 = e.2
/-- the tape from which one reads -/
def rC (σ : StT) (b : Nat → Int) (n : Nat) : Prop := n ≤ 700 ∧ σ 2 2 = n ∧ ∀ x, x < n → σ 3 x = b x
theorem rC.ext {σ σ' : StT} {b : Nat → Int} {n : Nat} (h : rC σ b n) (h2 : σ' 2 2 = σ 2 2) (h3 : ∀ j, σ' 3 j = σ 3 j) : rC σ' b n := ⟨h.1, h2.trans h.2.1, fun x hx => (h3 x).trans (h.2.2 x hx)⟩
theorem rC.k {σ σ' : StT} {b : Nat → Int} {n : Nat} (h : rC σ b n) (hk : rkp σ σ') : rC σ' b n := h.ext hk.2.2.1 (fun j => hk.1 3 (by decide) j)
section READC
variable {S : ShT} {σ : StT} {Q : Int → StT → Prop} {b : Nat → Int} {n s : Nat}
theorem sp_stepR (hS : SHP S) (hC : rC σ b n) (hs : s ≤ n) (h3 : σ 2 3 = s) (hQ : ∀ σ' : StT, atK σ' b n s → rkp σ σ' → σ' 124 5 = σ 124 5 → Q 0 σ') : WPs mX7_step [vR 2] S σ Q :=
  sp_step hS hC.1 hs hC.2.1 h3 hC.2.2 (fun σ' a F e1 e2 => hQ σ' a ⟨F.mono (by simp), e1, e2, fun j _ => F 124 (by decide) j⟩ (F 124 (by decide) 5))
theorem strCh_len (w : Nat) : 4 ≤ (strCh w).length ∧ (strCh w).length ≤ 6 := by unfold strCh; split <;> decide
theorem sp_isWord {w : Nat} (hS : SHP S) (hw : w < 12) (hC : rC σ b n) (hs : s ≤ n) (hK : atK σ b n s) (hQ : Q (if isW b n s w = true then 1 else 0) σ) : WPs mX7_isWord [vR 2, vR (BIG + 1 + w)] S σ Q := by
  obtain ⟨k1, k2, k3, -⟩ := hK
  have hl := strCh_len w
  have hSl := tS_le (b := b) hs
  have hNl := tN_le (b := b) hs
  have hn := hC.1
  refine e_X7_isWord hS hw ?_
  rw [k1, k2]
  have no : isW b n s w = false → Q 0 σ := fun e => by rw [e] at hQ; exact hQ
  refine ⟨fun q => no ?_, fun q => ?_⟩
  · unfold isW; rw [decide_eq_false q]; rfl
  · have k3 := k3 (by omega)
    rw [k3]
    refine ⟨inR_s (by omega) (by omega), sp_slength hw ⟨fun q2 => ?_, fun q2 => no ?_⟩⟩
    · refine lup (I := fun i σ' => 0 ≤ i ∧ i ≤ ((strCh w).length : Int) ∧ σ' = σ ∧ ∀ x : Nat, (x : Int) < i → b (tS b n s + x) = (strCh w).getD x 0) (W := fun i σ' => AWs mX7_isWord 28 [(0, vR 2), (1, vR (BIG + 1 + w)), (2, vI i)] [] S σ' Q) ((strCh w).length : Int) ?_ ?_ 0 σ ⟨by omega, by omega, rfl, fun x hx => by omega⟩
      · rintro i σ1 ⟨i0, i1, rfl, i2⟩ hge
        refine t_X7_isWord_28 hS hw (sp_slength hw ⟨fun _ => ?_, fun q => absurd hge q⟩)
        have : isW b n s w = true := by
          unfold isW
          rw [decide_eq_true q, decide_eq_true (show tN b n s - tS b n s = (strCh w).length by omega)]
          simp only [Bool.true_and]
          refine List.all_eq_true.mpr (fun x hx => ?_)
          have hx := List.mem_range.mp hx
          exact decide_eq_true (i2 x (by omega))
        rw [this] at hQ; exact hQ
      · rintro i σ1 ⟨i0, i1, rfl, i2⟩ hlt kk
        obtain ⟨i, rfl⟩ := nat_of i0
        have eb : σ1 3 (tS b n s + i) = b (tS b n s + i) := hC.2.2 _ (by omega)
        refine t_X7_isWord_28 hS hw (sp_slength hw ⟨fun q => absurd q (by omega), fun _ => ?_⟩)
        rw [k2, show ((tS b n s : Int) + (i : Int)).toNat = tS b n s + i by omega, eb]
        refine ⟨inR_s (by omega) (by omega), ⟨by omega, by omega⟩, sp_charAt hw (by omega) hlt ⟨fun q3 => ⟨inR_s (by omega) (by omega), kk σ1 ⟨by omega, by omega, rfl, fun x hx => ?_⟩⟩, fun q3 => no ?_⟩⟩
        · rw [tn_cast] at q3
          by_cases e : x = i
          · rw [e]; exact q3
          · exact i2 x (by omega)
        · rw [tn_cast] at q3
          cases e : isW b n s w with
          | false => rfl
          | true =>
            unfold isW at e
            simp only [Bool.and_eq_true] at e
            have := List.all_eq_true.mp e.2 i (List.mem_range.mpr (by omega))
            exact absurd (of_decide_eq_true this) q3
    · unfold isW
      rw [decide_eq_false (show ¬ tN b n s - tS b n s = (strCh w).length by omega)]; simp
theorem sp_fails {k : Int} (hS : SHP S) (h5 : σ 2 5 = s) (hQ : ∀ σ' : StT, fl1 σ' (k, s) → rkp σ σ' → Q 0 σ') : WPs mX6_fails [vR 124, vI k] S σ Q := by
  refine e_X6_fails hS ?_
  rw [h5]
  refine hQ _ ⟨by rw [up2_i (by decide), up2_s], up2_s _ _ _ _⟩ ⟨(fr.rf.put (by simp)).put (by simp), by rw [up2_a (by decide), up2_a (by decide)], by rw [up2_a (by decide), up2_a (by decide)], fun j hj => by rw [up2_i (by omega), up2_i (by omega)]⟩
theorem sp_readsWord {w : Nat} (hS : SHP S) (hw : w < 12) (hC : rC σ b n) (hs : s ≤ n) (h3 : σ 2 3 = s) (h0 : ∀ (e : PF) (σ' : StT), pWd b n s w = .inl e → fl1 σ' e → rkp σ σ' → Q 0 σ') (h1 : ∀ (v : Nat) (σ' : StT), pWd b n s w = .inr v → σ' 2 3 = v → rkp σ σ' → σ' 124 5 = σ 124 5 → Q 1 σ') : WPs mX6_readsWord [vR 124, vR (BIG + 1 + w)] S σ Q := by
  refine e_X6_readsWord hS hw (sp_stepR hS hC hs h3 (fun σ1 a R z => sp_isWord hS hw (hC.k R) hs a ?_))
  cases e : isW b n s w with
  | true =>
    refine ⟨fun _ => h1 (tN b n s) σ1 (by unfold pWd; rw [if_pos e]) (a.2.2.1 (by have := isW_k e; omega)) R z, fun q => absurd q (by decide)⟩
  | false =>
    refine ⟨fun q => absurd rfl q, fun _ => sp_fails hS a.2.1 (fun σ2 f R2 => ⟨fun _ => h0 _ σ2 (by unfold pWd; rw [if_neg (by rw [e]; simp)]) f (R.trans R2), fun q => absurd rfl q⟩)⟩
theorem sp_readsWhole {lo hi : Int} (hS : SHP S) (hC : rC σ b n) (hs : s ≤ n) (h3 : σ 2 3 = s) (h0 : ∀ (e : PF) (σ' : StT), pWh b n s lo hi = .inl e → fl1 σ' e → rkp σ σ' → Q 0 σ') (h1 : ∀ (v : Int × Nat) (σ' : StT), pWh b n s lo hi = .inr v → σ' 2 6 = v.1 → σ' 2 3 = v.2 → σ' 2 5 = tS b n s → rkp σ σ' → σ' 124 5 = σ 124 5 → Q 1 σ') : WPs mX6_readsWhole [vR 124, vI lo, vI hi] S σ Q := by
  refine e_X6_readsWhole hS (sp_stepR hS hC hs h3 (fun σ1 a R z => ?_))
  have bad : tK b n s = 2 → ¬ (lo ≤ tV b n s ∧ tV b n s ≤ hi) → AWs mX6_readsWhole 46 [(0, vR 124)] [] S σ1 Q := fun c1 c2 => by
    refine t_X6_readsWhole_46 hS (sp_fails hS a.2.1 (fun σ2 f R2 => ⟨fun _ => h0 _ σ2 (by unfold pWh; rw [if_pos c1, if_neg c2]) f (R.trans R2), fun q => absurd rfl q⟩))
  rw [a.1]
  refine ⟨fun q => ?_, fun q => sp_fails hS a.2.1 (fun σ2 f R2 => ⟨Or.inl rfl, h0 _ σ2 (by unfold pWh; rw [if_neg q]) f (R.trans R2)⟩)⟩
  rw [a.2.2.2 q]
  refine ⟨fun q2 => bad q (by omega), fun q2 => ⟨fun q3 => h1 (tV b n s, tN b n s) σ1 (by unfold pWh; rw [if_pos q, if_pos ⟨by omega, q3⟩]) (a.2.2.2 q) (a.2.2.1 (by omega)) a.2.1 R z, fun q3 => bad q (by omega)⟩⟩
end READC
