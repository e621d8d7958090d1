/-! Model: loose -/
section MLOOSE
variable {S : ShT} {σ : StT} {Q : Int → StT → Prop} {M : Ms}
theorem q_loose {i : Int} (hS : SHP S) (ho : okM M) (h : mT σ M) (h1 : ∀ (m : Nat) (σ' : StT), A_loose M i = some m → mT σ' M → σ' 125 0 = 0 → frR 125 154 σ σ' → Q (m : Int) σ') (h0 : ∀ σ' : StT, A_loose M i = none → mT σ' M → σ' 125 0 = 1 → frR 125 154 σ σ' → Q 0 σ') : WPs mX11_loose [vR 125, vI i] S σ Q := by
  unfold A_loose at h1 h0
  have s1 : ∀ σ1 : StT, mT σ1 M → mT (up2 σ1 125 0 1) M := fun σ1 a => a.ext (fun j hj => up2_i (by omega)) (fun b hb j => up2_a (by omega))
  refine e_X11_loose hS ⟨fun q => ?_, fun q => ?_⟩
  · have d : M.dr = false := (b2i_ne h).mp q
    rw [if_neg (by rw [d]; decide)] at h0
    refine t_X11_loose_20 hS ⟨fun _ => h0 _ rfl (s1 _ h.s0) (up2_s _ _ _ _) (R0.put (by omega) (by omega)), fun c => absurd (by rw [up2_i (by decide)]; exact q) c⟩
  · have d := h.d q
    rw [if_pos d] at h0 h1
    refine m_reckons (G := M.g) hS (ho.G d) (h.s0.2.2 d).1.toG ?_
    intro σ1 z1 c1
    have a1 := h.s0.fC c1
    have F1 : frR 125 154 σ σ1 := R0.trans c1.R
    have e0 : σ1 125 0 = 0 := by rw [c1.2 0 (by decide) (by decide) (by decide) (by decide) (by decide) (by decide), up2_s]
    have e11 : σ1 125 11 ≠ 0 := a1.dr1 d
    have e26 : σ1 125 26 = mcn M.g := z1.1.1
    have h48 : mcn M.g ≤ 48 := by
      have := mcn_le M.g
      have : M.g.1 ≤ 24 := ho.n d
      omega
    refine lupg (α := Int) (I := fun k x => 0 ≤ k ∧ k ≤ (mcn M.g : Int) ∧ x = (cnt (fun x => decide (ecn M.g x = 1)) k.toNat : Int) ∧ ∀ y : Nat, (y : Int) < k → (decide (ecn M.g y = 1) && decide ((cnt (fun x => decide (ecn M.g x = 1)) y : Int) = i)) = false) (W := fun k x => AWs mX11_loose 20 [(0, vR 125), (1, vI i), (2, vI x), (3, vI k)] [] S σ1 Q) (mcn M.g : Int) ?_ ?_ 0 0 ⟨by omega, by omega, rfl, fun y hy => by omega⟩
    · rintro k x ⟨k0, k1, rfl, k3⟩ hge
      refine t_X11_loose_20 hS ⟨fun c => absurd c e11, fun _ => ?_⟩
      rw [e26]
      exact ⟨fun _ => h0 _ (fst1_no (fun y hy => k3 y (by omega))) (s1 _ a1) (up2_s _ _ _ _) (F1.put (by omega) (by omega)), fun c => absurd hge c⟩
    · rintro k x ⟨k0, k1, rfl, k3⟩ hlt kk
      obtain ⟨k, rfl⟩ := nat_of k0
      have hk : k < mcn M.g := by omega
      have hs := cnt_s (fun x => decide (ecn M.g x = 1)) k
      have hle := cnt_le (fun x => decide (ecn M.g x = 1)) k
      refine t_X11_loose_20 hS ⟨fun c => absurd c e11, fun _ => ?_⟩
      rw [e26, tn_cast, (z1.1.2.2.2 k hk).2.1]
      refine ⟨fun c => absurd c (by omega), fun _ => ⟨⟨by omega, by omega⟩, fun c => ⟨inR_s (by omega) (by omega), kk _ ⟨by omega, by omega, ?_, fun y hy => ?_⟩⟩, fun c => ⟨fun c2 => ⟨inR_s (by omega) (by omega), inR_s (by omega) (by omega), kk _ ⟨by omega, by omega, ?_, fun y hy => ?_⟩⟩, fun c2 => ?_⟩⟩⟩
      · rw [show ((k : Int) + 1).toNat = k + 1 from rfl, hs, if_neg (by simp; omega)]; rfl
      · by_cases e : y = k
        · subst e; rw [decide_eq_false (by omega)]; rfl
        · exact k3 y (by omega)
      · rw [show ((k : Int) + 1).toNat = k + 1 from rfl, hs, if_pos (by simp; omega)]; rfl
      · by_cases e : y = k
        · subst e; rw [decide_eq_false (show ¬ (cnt (fun x => decide (ecn M.g x = 1)) y : Int) = i from c2)]; simp
        · exact k3 y (by omega)
      · skip
        exact h1 k σ1 (fst1_is hk (by rw [decide_eq_true (show ecn M.g k = 1 by omega), decide_eq_true c2]; rfl) (fun y hy => k3 y (by omega))) a1 e0 F1
end MLOOSE
